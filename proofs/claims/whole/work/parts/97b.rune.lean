theorem zP_sth : ∀ (W T : List Nat) (k : Nat) (W2 : List Nat), (zP_st 124 W T).1 = k :: W2 → k ≠ 38 ∧ k ≠ 124
  | [], T, k, W2, h => by cases h
  | x :: W, T, k, W2, h => by
    unfold zP_st at h
    by_cases h1 : x = 38
    · rw [if_pos h1] at h
      exact zP_sth W _ k W2 h
    · rw [if_neg h1] at h
      by_cases h2 : x = 124
      · rw [if_pos h2, if_neg (by decide)] at h
        exact zP_sth W _ k W2 h
      · rw [if_neg h2] at h
        have h3 : x :: W = k :: W2 := h
        injection h3 with h4 h5
        rw [← h4]
        exact ⟨h1, h2⟩
theorem zR_E {N L B a : Nat} {t : Nat → Nat} {M0 : zq_M} (hN : 200 < N) (ha : a < 60) : ∀ F (v4 : Bool) W o T p M, zRS t L B a M0 W o T p M → B + T.length + W.length ≤ 500 + p → o = zR_o W → W.length ≤ p → L + 1 < F + p → ∃ M1, zq_loop (fun _ _ => none) (b_X11_takesE_22 N (zn a)) F (if v4 = true then 1 else 0) M = some (if (zP_m (zX_nx t L) (zX_te (zX_nx t L)) F v4 W o T p).1 = true then 1 else 0, M1) ∧ zRM t L (zP_m (zX_nx t L) (zX_te (zX_nx t L)) F v4 W o T p).2.1 M1 ∧ zRf B a M0 M1 ∧ ((zP_m (zX_nx t L) (zX_te (zX_nx t L)) F v4 W o T p).1 = true → M1.1 80 a = zn (B + (zP_m (zX_nx t L) (zX_te (zX_nx t L)) F v4 W o T p).2.2.length) ∧ M1.1 69 23 = zn (B + (zP_m (zX_nx t L) (zX_te (zX_nx t L)) F v4 W o T p).2.2.length) ∧ ∀ n k, (zP_m (zX_nx t L) (zX_te (zX_nx t L)) F v4 W o T p).2.2[n]? = some k → M1.1 81 (B + n) = zt_cm k) := by
  intro F
  induction F with
  | zero =>
    intro v4 W o T p M h hsz ho hW hF
    have := h.1.2.1
    omega
  | succ F ih =>
    intro v4 W o T p M h hsz ho hW hF
    have hm := h.1
    have hL := hm.1
    have hpL := hm.2.1
    have d4 : ¬ ((1 : Int32) = 0) := by decide
    show ∃ M1, b_X11_takesE_22 N (zn a) (zq_loop (fun _ _ => none) (b_X11_takesE_22 N (zn a)) F) (if v4 = true then 1 else 0) M = _ ∧ _
    generalize hG : zq_loop (fun _ _ => none) (b_X11_takesE_22 N (zn a)) F = G
    unfold b_X11_takesE_22
    rw [zR_next hm, Option.bind_some]
    have e38 := zR_v hm (show 38 < 128 by decide)
    have e124 := zR_v hm (show 124 < 128 by decide)
    have e33 := zR_v hm (show 33 < 128 by decide)
    have e40 := zR_v hm (show 40 < 128 by decide)
    have e41 := zR_v hm (show 41 < 128 by decide)
    have q38 : (38 : Int32) = zn 38 := rfl
    have q124 : (124 : Int32) = zn 124 := rfl
    have q33 : (33 : Int32) = zn 33 := rfl
    have q40 : (40 : Int32) = zn 40 := rfl
    have q41 : (41 : Int32) = zn 41 := rfl
    rw [q38, q124, q33, q40, q41]
    simp only [e38, e124, e33, e40, e41]
    have hj122 : ∀ c, (c = 38 ∨ c = 124) → zX_nx t L p = c → ∃ M1, j_X11_takesE_122 N M G (zRv t L p) = some (if (zP_m (zX_nx t L) (zX_te (zX_nx t L)) F true (c :: (zP_st c W T).1) o (zP_st c W T).2 (p + 1)).1 = true then 1 else 0, M1) ∧ zRM t L (zP_m (zX_nx t L) (zX_te (zX_nx t L)) F true (c :: (zP_st c W T).1) o (zP_st c W T).2 (p + 1)).2.1 M1 ∧ zRf B a M0 M1 ∧ ((zP_m (zX_nx t L) (zX_te (zX_nx t L)) F true (c :: (zP_st c W T).1) o (zP_st c W T).2 (p + 1)).1 = true → M1.1 80 a = zn (B + (zP_m (zX_nx t L) (zX_te (zX_nx t L)) F true (c :: (zP_st c W T).1) o (zP_st c W T).2 (p + 1)).2.2.length) ∧ M1.1 69 23 = zn (B + (zP_m (zX_nx t L) (zX_te (zX_nx t L)) F true (c :: (zP_st c W T).1) o (zP_st c W T).2 (p + 1)).2.2.length) ∧ ∀ n k, (zP_m (zX_nx t L) (zX_te (zX_nx t L)) F true (c :: (zP_st c W T).1) o (zP_st c W T).2 (p + 1)).2.2[n]? = some k → M1.1 81 (B + n) = zt_cm k) := by
      intro c hc hn
      have hp : p < L := zX_pp (t := t) (by omega)
      obtain ⟨l1, l2⟩ := zP_stl c W T
      have l3 := zP_stw c W T
      unfold j_X11_takesE_122 f_X11_settle
      rw [zR_nv hp, hn]
      obtain ⟨M2, x1, x2⟩ := zR_st (N := N) hc W T M N (by omega) (by omega) (by omega) h
      rw [x1, Option.bind_some, x2.2.1, zn_ck (by omega) (by omega), zn_ix (by omega)]
      simp only [zq_b]
      have h4 := zR_13 (zR_push x2 (k := c) (by omega)) (q := p + 1) (by omega)
      have g1 : (zq_u1 M2 82 (zP_st c W T).1.length (zn c)).1 69 24 = zn (zP_st c W T).1.length := by rw [zq_us1 (by omega)]; exact x2.2.1
      have g2 : (zq_u1 (zq_u1 M2 82 (zP_st c W T).1.length (zn c)) 69 24 (zn ((zP_st c W T).1.length + 1))).1 69 13 = zn p := by rw [zq_us1 (by omega), zq_us1 (by omega)]; exact x2.1.2.2.2.1
      rw [g1, zl_1, zn_add, g2, zn_add, ← hG]
      have := ih true (c :: (zP_st c W T).1) o (zP_st c W T).2 (p + 1) _ h4 (by show B + _ + ((zP_st c W T).1.length + 1) ≤ _; omega) (by show o = (if c = 38 ∨ c = 124 then 0 else 1) + _; rw [if_pos hc, Nat.zero_add, l2]; exact ho) (by show (zP_st c W T).1.length + 1 ≤ _; omega) (by omega)
      rw [if_pos rfl] at this
      exact this
    cases v4
    · have el : zP_m (zX_nx t L) (zX_te (zX_nx t L)) (F + 1) false W o T p = (if zX_nx t L p = 38 ∨ zX_nx t L p = 124 then zP_m (zX_nx t L) (zX_te (zX_nx t L)) F true (zX_nx t L p :: (zP_st (zX_nx t L p) W T).1) o (zP_st (zX_nx t L p) W T).2 (p + 1) else
    match zP_st 124 W T with
    | ([], T2) => (true, p, T2)
    | (_ :: W2, T2) => if zX_nx t L p = 41 then zP_m (zX_nx t L) (zX_te (zX_nx t L)) F false (zP_wh W2 (o - 1) T2).1 (zP_wh W2 (o - 1) T2).2.1 (zP_wh W2 (o - 1) T2).2.2 (p + 1) else (false, p, [])) := rfl
      rw [el, if_pos (show (if false = true then (1 : Int32) else 0) = 0 by decide)]
      by_cases hs : zX_nx t L p = 38 ∨ zX_nx t L p = 124
      · have hj : ∀ X, (if zX_nx t L p = 38 then j_X11_takesE_122 N M G (zRv t L p) else if ¬ zX_nx t L p = 124 then X else j_X11_takesE_122 N M G (zRv t L p)) = j_X11_takesE_122 N M G (zRv t L p) := by
          intro X
          rcases hs with h1 | h1
          · rw [if_pos h1]
          · rw [if_neg (by omega), if_neg (fun h => h h1)]
        rw [hj]
        simp only [if_pos hs]
        exact hj122 _ hs rfl
      · rw [if_neg (fun h => hs (Or.inl h)), if_pos (fun h => hs (Or.inr h))]
        simp only [if_neg hs]
        unfold f_X11_settle
        obtain ⟨M2, x1, x2⟩ := zR_st (N := N) (c := 124) (Or.inr rfl) W T M N (by omega) (by omega) (by omega) h
        rw [x1, Option.bind_some, zn_ck ha (by omega), zn_ix (by omega)]
        simp only [zq_b]
        have x3 := zR_80 (v := M2.1 69 23) x2
        obtain ⟨l1, l2⟩ := zP_stl 124 W T
        have l3 := zP_stw 124 W T
        have hh := zP_sth W T
        rcases hst : zP_st 124 W T with ⟨W1, T2⟩
        rw [hst] at x2 x3 l1 l2 l3 hh
        dsimp only at x2 x3 l1 l2 l3 hh ⊢
        rw [x3.2.1]
        cases W1 with
        | nil =>
          rw [if_neg (show ¬ ¬ zn ([] : List Nat).length = 0 by decide)]
          refine ⟨_, rfl, x3.1, x3.2.2.2.2.2.2, fun _ => ⟨?_, x3.2.2.2.1, x3.2.2.2.2.2.1⟩⟩
          rw [zq_g1, if_pos ⟨rfl, rfl⟩]
          exact x2.2.2.2.1
        | cons k W2 =>
          have hl1 : (k :: W2).length = W2.length + 1 := rfl
          rw [hl1] at l1 l3
          have hk := hh k W2 rfl
          have ho2 : o = 1 + zR_o W2 := by
            rw [ho, ← l2]
            show (if k = 38 ∨ k = 124 then 0 else 1) + zR_o W2 = _
            rw [if_neg (by omega)]
          rw [hl1, if_pos (by rw [zl_0, zn_eq (by omega) (by omega)]; omega)]
          dsimp only
          by_cases h41 : zX_nx t L p = 41
          · have hp : p < L := zX_pp (t := t) (by omega)
            simp only [if_pos h41]
            have x4 := zR_13 (zR_25 (o1 := o - 1) (zR_24 (W1 := W2) x3 x3.2.2.2.2.1.2.2)) (q := p + 1) (by omega)
            have g1 : (zq_u1 (zq_u1 M2 80 a (M2.1 69 23)) 69 24 (zn W2.length)).1 69 25 = zn o := by rw [zq_us1 (by omega)]; exact x3.2.2.1
            have g2 : (zq_u1 (zq_u1 (zq_u1 M2 80 a (M2.1 69 23)) 69 24 (zn W2.length)) 69 25 (zn (o - 1))).1 69 13 = zn p := by rw [zq_us1 (by omega), zq_us1 (by omega)]; exact x3.1.2.2.2.1
            rw [zl_1, zn_sub (by omega), Nat.add_sub_cancel, g1, zn_sub (by omega), g2, zn_add]
            unfold f_X11_whole
            obtain ⟨M5, y1, y2⟩ := zR_wh (N := N) W2 (o - 1) T2 _ N (by omega) (by omega) (by omega) (by omega) x4
            obtain ⟨k1, k2⟩ := zP_whl W2 (o - 1) T2 (by omega)
            have k3 := zP_whw W2 (o - 1) T2
            rw [y1, Option.bind_some, ← hG]
            exact ih false _ _ _ _ _ y2 (by omega) k2 (by omega) (by omega)
          · simp only [if_neg h41]
            exact ⟨_, rfl, x3.1, x3.2.2.2.2.2.2, fun h => (by cases h)⟩
    · have el : zP_m (zX_nx t L) (zX_te (zX_nx t L)) (F + 1) true W o T p = (if zX_nx t L p = 33 ∨ zX_nx t L p = 40 then (if o = 4 then (false, p, []) else zP_m (zX_nx t L) (zX_te (zX_nx t L)) F true (zX_nx t L p :: W) (o + 1) T (p + 1)) else if (zX_te (zX_nx t L) p).1 = true then zP_m (zX_nx t L) (zX_te (zX_nx t L)) F false (zP_wh W o (T ++ (zX_te (zX_nx t L) p).2.2)).1 (zP_wh W o (T ++ (zX_te (zX_nx t L) p).2.2)).2.1 (zP_wh W o (T ++ (zX_te (zX_nx t L) p).2.2)).2.2 (zX_te (zX_nx t L) p).2.1 else (false, (zX_te (zX_nx t L) p).2.1, [])) := rfl
      rw [el, if_neg (show ¬ (if true = true then (1 : Int32) else 0) = 0 by decide)]
      by_cases hs : zX_nx t L p = 33 ∨ zX_nx t L p = 40
      · have hp : p < L := zX_pp (t := t) (by omega)
        have hj : (if zX_nx t L p = 33 then j_X11_takesE_43 (if true = true then 1 else 0) M G (zRv t L p) else if ¬ zX_nx t L p = 40 then ((f_X11_takesTest N M).bind (zq_p (fun v21 X22 => if v21 = 0 then (some ((0 : Int32), X22)) else (G (0 : Int32) X22)))) else j_X11_takesE_43 (if true = true then 1 else 0) M G (zRv t L p)) = j_X11_takesE_43 1 M G (zRv t L p) := by
          rcases hs with h1 | h1
          · rw [if_pos h1]; rfl
          · rw [if_neg (by omega), if_neg (fun h => h h1)]; rfl
        rw [hj]
        simp only [if_pos hs]
        unfold j_X11_takesE_43
        have e4 : (zn o = 4) = (o = 4) := by
          have l1 : o ≤ 100 := by
            have : ∀ W : List Nat, zR_o W ≤ W.length := by
              intro W
              induction W with
              | nil => exact Nat.le_refl _
              | cons k W ihw =>
                show (if k = 38 ∨ k = 124 then 0 else 1) + zR_o W ≤ W.length + 1
                split <;> omega
            have := this W
            have := hm.2.1
            omega
          exact zn_eq (by omega) (by decide)
        rw [h.2.2.1]
        simp only [e4]
        by_cases h4 : o = 4
        · rw [if_neg (fun h => h h4)]
          simp only [if_pos h4]
          exact ⟨M, rfl, hm, h.2.2.2.2.2.2, fun h => (by cases h)⟩
        · rw [if_pos h4]
          simp only [if_neg h4, zq_b]
          have h5 := zR_25 h (o1 := o + 1)
          have h6 := zR_13 (zR_push h5 (k := zX_nx t L p) (by omega)) (q := p + 1) (by omega)
          rw [zl_1, zn_add, h5.2.1, zn_ck (by omega) (by omega), zn_ix (by omega), zR_nv hp]
          have g1 : (zq_u1 (zq_u1 M 69 25 (zn (o + 1))) 82 W.length (zn (zX_nx t L p))).1 69 24 = zn W.length := by rw [zq_us1 (by omega)]; exact h5.2.1
          have g2 : (zq_u1 (zq_u1 (zq_u1 M 69 25 (zn (o + 1))) 82 W.length (zn (zX_nx t L p))) 69 24 (zn (W.length + 1))).1 69 13 = zn p := by rw [zq_us1 (by omega), zq_us1 (by omega)]; exact h5.1.2.2.2.1
          rw [g1, zn_add, g2, zn_add, ← hG]
          have := ih true (zX_nx t L p :: W) (o + 1) T (p + 1) _ h6 (by show B + _ + (W.length + 1) ≤ _; omega) (by show o + 1 = (if _ then 0 else 1) + _; rw [if_neg (by omega), ho]; omega) (by show W.length + 1 ≤ _; omega) (by omega)
          rw [if_pos rfl] at this
          exact this
      · rw [if_neg (fun h => hs (Or.inl h)), if_pos (fun h => hs (Or.inr h))]
        simp only [if_neg hs]
        obtain ⟨t1, t2⟩ := zR_test (N := N) hN h hsz ho hW
        obtain ⟨b1, b2, b3⟩ := zX_teb (t := t) (L := L) p hm.2.1
        by_cases ht : (zX_te (zX_nx t L) p).1 = true
        · obtain ⟨M1, x1, x2⟩ := t2 ht
          simp only [if_pos ht]
          rw [x1, Option.bind_some]
          simp only [zq_p]
          rw [if_neg (by decide), ← hG]
          have b3 := b3 ht
          obtain ⟨l1, l2⟩ := zP_whl W o (T ++ (zX_te (zX_nx t L) p).2.2) ho
          have l3 := zP_whw W o (T ++ (zX_te (zX_nx t L) p).2.2)
          have l4 : (zX_te (zX_nx t L) p).2.2.length ≤ 1 := by
            unfold zX_te
            split
            · split
              · split
                · exact Nat.le_refl 1
                · exact Nat.zero_le 1
              · exact Nat.zero_le 1
            · exact Nat.zero_le 1
          rw [List.length_append] at l1
          have := ih false _ _ _ _ _ x2 (by omega) l2 (by omega) (by omega)
          rw [if_neg (by decide)] at this
          exact this
        · obtain ⟨M1, x1, x2, x3⟩ := t1 (by simpa using ht)
          simp only [if_neg ht]
          rw [x1]
          exact ⟨M1, rfl, x2, x3, fun h => (by cases h)⟩
