theorem zP_stw (c : Nat) : ∀ W T : List Nat, (zP_st c W T).1.length ≤ W.length
  | [], T => Nat.le_refl _
  | k :: W, T => by
    unfold zP_st
    have hl : (k :: W).length = W.length + 1 := rfl
    by_cases h1 : k = 38
    · rw [if_pos h1]
      have := zP_stw c W (T ++ [1])
      omega
    · rw [if_neg h1]
      by_cases h2 : k = 124
      · rw [if_pos h2]
        by_cases h3 : c = 38
        · rw [if_pos h3]; exact Nat.le_refl _
        · rw [if_neg h3]
          have := zP_stw c W (T ++ [2])
          omega
      · rw [if_neg h2]; exact Nat.le_refl _
theorem zP_whw : ∀ (W : List Nat) (o : Nat) (T : List Nat), (zP_wh W o T).1.length ≤ W.length
  | [], o, T => Nat.le_refl _
  | k :: W, o, T => by
    unfold zP_wh
    have hl : (k :: W).length = W.length + 1 := rfl
    by_cases h1 : k = 33
    · rw [if_pos h1]
      have := zP_whw W (o - 1) (T ++ [0])
      omega
    · rw [if_neg h1]; exact Nat.le_refl _
theorem zR_plc (N : Nat) (M : zq_M) (c : Nat) (hc : c < 128) : f_X11_place N M (zn c) = some (if zX_pl c < 6 then zn (zX_pl c) else -1) := by
  unfold f_X11_place
  revert hc
  revert c
  decide +kernel
theorem zR_pl {N L p : Nat} {t : Nat → Nat} {M : zq_M} (h : zRM t L p M) : f_X11_place N M (zRv t L p) = some (if zX_pl (zX_nx t L p) < 6 then zn (zX_pl (zX_nx t L p)) else -1) := by
  by_cases c : p < L
  · have b := (h.2.2.2.2 p (by have := h.1; omega)).1
    rw [zR_nv c]
    exact zR_plc N M _ (by unfold zX_nx; rw [if_pos c]; exact b)
  · rw [zX_nx2 (by omega)]
    unfold zRv
    rw [if_neg c]
    rfl
theorem zR_in {L p : Nat} {t : Nat → Nat} {M : zq_M} (h : zRM t L p M) : (zRv t L p < 60 ∨ 62 < zRv t L p) = ¬ (60 ≤ zX_nx t L p ∧ zX_nx t L p ≤ 62) := by
  unfold zRv zX_nx
  by_cases c1 : p < L
  · have b := (h.2.2.2.2 p (by have := h.1; omega)).1
    rw [if_pos c1, if_pos c1]
    have e1 : (zn (t p) < 60) = (t p < 60) := zn_lt (by omega) (by decide)
    have e2 : ((62 : Int32) < zn (t p)) = (62 < t p) := zn_lt (by decide) (by omega)
    rw [e1, e2]
    apply propext
    omega
  · rw [if_neg c1, if_neg c1]
    apply propext
    exact ⟨fun _ h => by omega, fun _ => Or.inl (by decide)⟩
theorem zR_cm {pl s v : Nat} (hp : pl < 6) (hs : s < 3) : zn (1000 * pl + 100 * s + v) = zt_cm (3 + ((v * 3 + s) * 6 + pl)) := by
  unfold zt_cm
  rw [if_neg (by omega), if_neg (by omega), if_neg (by omega)]
  congr 1
  omega
theorem zR_test {N L B a o p : Nat} {t : Nat → Nat} {W T : List Nat} {M0 M : zq_M} (hN : 200 < N) (h : zRS t L B a M0 W o T p M) (hsz : B + T.length + W.length ≤ 500 + p) (ho : o = zR_o W) (hW : W.length ≤ p) : ((zX_te (zX_nx t L) p).1 = false → ∃ M1, f_X11_takesTest N M = some (0, M1) ∧ zRM t L (zX_te (zX_nx t L) p).2.1 M1 ∧ zRf B a M0 M1) ∧ ((zX_te (zX_nx t L) p).1 = true → ∃ M1, f_X11_takesTest N M = some (1, M1) ∧ zRS t L B a M0 (zP_wh W o (T ++ (zX_te (zX_nx t L) p).2.2)).1 (zP_wh W o (T ++ (zX_te (zX_nx t L) p).2.2)).2.1 (zP_wh W o (T ++ (zX_te (zX_nx t L) p).2.2)).2.2 (zX_te (zX_nx t L) p).2.1 M1) := by
  have hm := h.1
  have hL := hm.1
  unfold f_X11_takesTest
  rw [zR_next hm, Option.bind_some, zR_pl hm, Option.bind_some]
  unfold zX_te
  by_cases c1 : zX_pl (zX_nx t L p) < 6
  · have p1 := zX_pp (zX_plv c1)
    have h3 := zR_13 h (q := p + 1) (by omega)
    have g0 : (0 : Int32) ≤ zn (zX_pl (zX_nx t L p)) := by rw [zl_0, zn_le (by omega) (by omega)]; omega
    simp only [if_pos c1]
    rw [if_pos g0, hm.2.2.2.1, zl_1, zn_add]
    simp only [zq_b]
    rw [zR_next h3.1, Option.bind_some, zw_m, Option.bind_some]
    have d4 : ¬ ((1 : Int32) = 0) := by decide
    have d5 : ¬ ¬ ((0 : Int32) = 0) := by decide
    by_cases c2 : 60 ≤ zX_nx t L (p + 1) ∧ zX_nx t L (p + 1) ≤ 62
    · have p2 := zX_pp (show zX_nx t L (p + 1) ≠ 200 by omega)
      have h6 := zR_13 h3 (q := p + 2) (by omega)
      simp only [if_pos c2]
      rw [if_neg (show ¬ (zRv t L (p + 1) < 60 ∨ 62 < zRv t L (p + 1)) by rw [zR_in h3.1]; exact fun h => h c2), if_pos d4, h3.1.2.2.2.1, zn_add]
      obtain ⟨M8, n1, n2, n3, n4⟩ := zR_num (N := N) (by omega) h6.1
      have h8 := zR_69 h6 n2 n3
      obtain ⟨b1, b2, b3, b4⟩ := zX_nub (t := t) (L := L) (p := p + 2) (by omega)
      rw [n1, Option.bind_some]
      simp only [zq_p]
      by_cases c3 : (zX_nu (zX_nx t L) (p + 2)).1 = true
      · simp only [if_pos c3]
        rw [if_pos d4]
        refine ⟨fun h => (by cases h), fun _ => ?_⟩
        have q60 : (60 : Int32) = zn 60 := rfl
        have q100 : (100 : Int32) = zn 100 := rfl
        have q1000 : (1000 : Int32) = zn 1000 := rfl
        rw [zR_nv p2, n4 c3, q60, q100, q1000, zn_sub (by omega), zn_mul, zn_mul, zn_add, zn_add, zR_cm c1 (by omega)]
        obtain ⟨M9, x1, x2⟩ := zR_put (N := N) (k := 3 + (((zX_nu (zX_nx t L) (p + 2)).2.2 * 3 + (zX_nx t L (p + 1) - 60)) * 6 + zX_pl (zX_nx t L p))) h8 (by omega)
        rw [x1, Option.bind_some]
        unfold f_X11_whole
        obtain ⟨M10, y1, y2⟩ := zR_wh (N := N) W o _ M9 N (by omega) (by omega) ho (by rw [List.length_append]; show B + (T.length + 1) + W.length ≤ 600; omega) x2
        rw [y1, Option.bind_some]
        exact ⟨M10, rfl, y2⟩
      · simp only [if_neg c3]
        rw [if_neg (show ¬ ¬ True by simp)]
        exact ⟨fun _ => ⟨M8, rfl, n3, h8.2.2.2.2.2.2⟩, fun h => (by cases h)⟩
    · simp only [if_neg c2]
      rw [if_pos (show (zRv t L (p + 1) < 60 ∨ 62 < zRv t L (p + 1)) by rw [zR_in h3.1]; exact c2), if_neg d5]
      exact ⟨fun _ => ⟨_, rfl, h3.1, h3.2.2.2.2.2.2⟩, fun h => (by cases h)⟩
  · simp only [if_neg c1]
    rw [if_neg (by decide)]
    exact ⟨fun _ => ⟨M, rfl, hm, h.2.2.2.2.2.2⟩, fun h => (by cases h)⟩
