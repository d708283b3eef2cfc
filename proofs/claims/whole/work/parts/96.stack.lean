def zR_o : List Nat → Nat
  | [] => 0
  | k :: W => (if k = 38 ∨ k = 124 then 0 else 1) + zR_o W
theorem zP_stl (c : Nat) : ∀ W T : List Nat, (zP_st c W T).2.length + (zP_st c W T).1.length = T.length + W.length ∧ zR_o (zP_st c W T).1 = zR_o W
  | [], T => ⟨rfl, rfl⟩
  | k :: W, T => by
    unfold zP_st
    have e : ∀ x : Nat, (T ++ [x]).length = T.length + 1 := fun x => by rw [List.length_append]; rfl
    have hl : (k :: W).length = W.length + 1 := rfl
    by_cases h1 : k = 38
    · rw [if_pos h1]
      obtain ⟨i1, i2⟩ := zP_stl c W (T ++ [1])
      rw [e] at i1
      refine ⟨by rw [hl]; omega, ?_⟩
      rw [i2]
      show _ = (if k = 38 ∨ k = 124 then 0 else 1) + zR_o W
      rw [if_pos (by omega), Nat.zero_add]
    · rw [if_neg h1]
      by_cases h2 : k = 124
      · rw [if_pos h2]
        by_cases h3 : c = 38
        · rw [if_pos h3]; exact ⟨rfl, rfl⟩
        · rw [if_neg h3]
          obtain ⟨i1, i2⟩ := zP_stl c W (T ++ [2])
          rw [e] at i1
          refine ⟨by rw [hl]; omega, ?_⟩
          rw [i2]
          show _ = (if k = 38 ∨ k = 124 then 0 else 1) + zR_o W
          rw [if_pos (by omega), Nat.zero_add]
      · rw [if_neg h2]; exact ⟨rfl, rfl⟩
theorem zP_whl : ∀ (W : List Nat) (o : Nat) (T : List Nat), o = zR_o W → (zP_wh W o T).2.2.length + (zP_wh W o T).1.length = T.length + W.length ∧ (zP_wh W o T).2.1 = zR_o (zP_wh W o T).1
  | [], o, T, h => ⟨rfl, h⟩
  | k :: W, o, T, h => by
    unfold zP_wh
    have e : ∀ x : Nat, (T ++ [x]).length = T.length + 1 := fun x => by rw [List.length_append]; rfl
    have hl : (k :: W).length = W.length + 1 := rfl
    have ho : o = (if k = 38 ∨ k = 124 then 0 else 1) + zR_o W := h
    by_cases h1 : k = 33
    · rw [if_pos h1]
      rw [if_neg (by omega)] at ho
      obtain ⟨i1, i2⟩ := zP_whl W (o - 1) (T ++ [0]) (by omega)
      rw [e] at i1
      exact ⟨by rw [hl]; omega, i2⟩
    · rw [if_neg h1]; exact ⟨rfl, h⟩
theorem zR_24 {L B a o p : Nat} {t : Nat → Nat} {W W1 T : List Nat} {M0 M : zq_M} (h : zRS t L B a M0 W o T p M) (hw : zR_sk M W1) : zRS t L B a M0 W1 o T p (zq_u1 M 69 24 (zn W1.length)) := by
  obtain ⟨h1, h2, h3, h4, h5, h6, f1, f2, f3, f4, f5⟩ := h
  refine ⟨zRM_u (by omega) h1, ?_, ?_, ?_, zR_skf (fun n hn => by rw [zq_un (by omega)]) hw, fun n k hn => by rw [zq_un (by omega)]; exact h6 n k hn, f1, fun c hc => by rw [zq_un (by omega)]; exact f2 c hc, fun k hk => by rw [zq_us1 (by omega)]; exact f3 k hk, fun k hk => by rw [zq_un (by omega)]; exact f4 k hk, fun k hk => by rw [zq_un (by omega)]; exact f5 k hk⟩
  · rw [zq_g1, if_pos ⟨rfl, rfl⟩]
  · rw [zq_us1 (by omega)]; exact h3
  · rw [zq_us1 (by omega)]; exact h4
theorem zR_25 {L B a o o1 p : Nat} {t : Nat → Nat} {W T : List Nat} {M0 M : zq_M} (h : zRS t L B a M0 W o T p M) : zRS t L B a M0 W o1 T p (zq_u1 M 69 25 (zn o1)) := by
  obtain ⟨h1, h2, h3, h4, h5, h6, f1, f2, f3, f4, f5⟩ := h
  refine ⟨zRM_u (by omega) h1, ?_, ?_, ?_, zR_skf (fun n hn => by rw [zq_un (by omega)]) h5, fun n k hn => by rw [zq_un (by omega)]; exact h6 n k hn, f1, fun c hc => by rw [zq_un (by omega)]; exact f2 c hc, fun k hk => by rw [zq_us1 (by omega)]; exact f3 k hk, fun k hk => by rw [zq_un (by omega)]; exact f4 k hk, fun k hk => by rw [zq_un (by omega)]; exact f5 k hk⟩
  · rw [zq_us1 (by omega)]; exact h2
  · rw [zq_g1, if_pos ⟨rfl, rfl⟩]
  · rw [zq_us1 (by omega)]; exact h4
theorem zR_13 {L B a o p q : Nat} {t : Nat → Nat} {W T : List Nat} {M0 M : zq_M} (h : zRS t L B a M0 W o T p M) (hq : q ≤ L) : zRS t L B a M0 W o T q (zq_u1 M 69 13 (zn q)) := by
  obtain ⟨h1, h2, h3, h4, h5, h6, f1, f2, f3, f4, f5⟩ := h
  refine ⟨zR_at h1 hq, ?_, ?_, ?_, zR_skf (fun n hn => by rw [zq_un (by omega)]) h5, fun n k hn => by rw [zq_un (by omega)]; exact h6 n k hn, f1, fun c hc => by rw [zq_un (by omega)]; exact f2 c hc, fun k hk => by rw [zq_us1 (by omega)]; exact f3 k hk, fun k hk => by rw [zq_un (by omega)]; exact f4 k hk, fun k hk => by rw [zq_un (by omega)]; exact f5 k hk⟩
  · rw [zq_us1 (by omega)]; exact h2
  · rw [zq_us1 (by omega)]; exact h3
  · rw [zq_us1 (by omega)]; exact h4
theorem zR_69 {L B a o p q : Nat} {t : Nat → Nat} {W T : List Nat} {M0 M M1 : zq_M} (h : zRS t L B a M0 W o T p M) (hf : zf69 M M1) (hq : zRM t L q M1) : zRS t L B a M0 W o T q M1 := by
  obtain ⟨h1, h2, h3, h4, h5, h6, f1, f2, f3, f4, f5⟩ := h
  obtain ⟨g1, g2, g3⟩ := hf
  refine ⟨hq, ?_, ?_, ?_, zR_skf (fun n hn => by rw [g2 82 (by omega)]) h5, fun n k hn => by rw [g2 81 (by omega)]; exact h6 n k hn, g1.trans f1, fun c hc => by rw [g2 c (by omega)]; exact f2 c hc, fun k hk => by rw [g3 k (by omega)]; exact f3 k hk, fun k hk => by rw [g2 81 (by omega)]; exact f4 k hk, fun k hk => by rw [g2 80 (by omega)]; exact f5 k hk⟩
  · rw [g3 24 (by omega)]; exact h2
  · rw [g3 25 (by omega)]; exact h3
  · rw [g3 23 (by omega)]; exact h4
theorem zR_80 {L B a o p : Nat} {t : Nat → Nat} {W T : List Nat} {M0 M : zq_M} {v : Int32} (h : zRS t L B a M0 W o T p M) : zRS t L B a M0 W o T p (zq_u1 M 80 a v) := by
  obtain ⟨h1, h2, h3, h4, h5, h6, f1, f2, f3, f4, f5⟩ := h
  obtain ⟨r1, r2, r3, r4, r5⟩ := h1
  exact ⟨⟨r1, r2, r3, r4, r5⟩, h2, h3, h4, zR_skf (fun n hn => by rw [zq_un (by omega)]) h5, fun n k hn => by rw [zq_un (by omega)]; exact h6 n k hn, f1, fun c hc => by rw [zq_un (by omega)]; exact f2 c hc, f3, fun k hk => by rw [zq_un (by omega)]; exact f4 k hk, fun k hk => by rw [zq_us1 (by omega)]; exact f5 k hk⟩
theorem zR_push {L B a o p k : Nat} {t : Nat → Nat} {W T : List Nat} {M0 M : zq_M} (h : zRS t L B a M0 W o T p M) (hk : k < 128) : zRS t L B a M0 (k :: W) o T p (zq_u1 (zq_u1 M 82 W.length (zn k)) 69 24 (zn (W.length + 1))) := by
  obtain ⟨h1, h2, h3, h4, h5, h6, f1, f2, f3, f4, f5⟩ := h
  obtain ⟨r1, r2, r3, r4, r5⟩ := h1
  have hm : zRS t L B a M0 W o T p (zq_u1 M 82 W.length (zn k)) := ⟨⟨r1, r2, r3, r4, r5⟩, h2, h3, h4, zR_skf (fun n hn => by rw [zq_us1 (by omega)]) h5, fun n k hn => by rw [zq_un (by omega)]; exact h6 n k hn, f1, fun c hc => by rw [zq_un (by omega)]; exact f2 c hc, f3, fun k hk => by rw [zq_un (by omega)]; exact f4 k hk, fun k hk => by rw [zq_un (by omega)]; exact f5 k hk⟩
  exact zR_24 (W1 := k :: W) hm ⟨by rw [zq_g1, if_pos ⟨rfl, rfl⟩], hk, hm.2.2.2.2.1⟩
theorem zR_wh {N L B a p : Nat} {t : Nat → Nat} {M0 : zq_M} : ∀ (W : List Nat) (o : Nat) (T : List Nat) (M : zq_M) (F : Nat), W.length < F → W.length ≤ 100 → o = zR_o W → B + T.length + W.length ≤ 600 → zRS t L B a M0 W o T p M → ∃ M1, zq_loop (fun _ => none) (b_X11_whole_0 N) F M = some M1 ∧ zRS t L B a M0 (zP_wh W o T).1 (zP_wh W o T).2.1 (zP_wh W o T).2.2 p M1
  | [], o, T, M, F, hF, hl, ho, hb, h => by
    obtain ⟨F, rfl⟩ : ∃ G, F = G + 1 := ⟨F - 1, by omega⟩
    refine ⟨M, ?_, h⟩
    show b_X11_whole_0 N _ M = _
    unfold b_X11_whole_0
    rw [h.2.1, if_pos (by decide)]
  | k :: W, o, T, M, F, hF, hl, ho, hb, h => by
    obtain ⟨F, rfl⟩ : ∃ G, F = G + 1 := ⟨F - 1, by omega⟩
    have hl1 : (k :: W).length = W.length + 1 := rfl
    rw [hl1] at hF hl hb
    have h24 : M.1 69 24 = zn (W.length + 1) := h.2.1
    have ho1 : o = (if k = 38 ∨ k = 124 then 0 else 1) + zR_o W := ho
    obtain ⟨s1, s2, s3⟩ := h.2.2.2.2.1
    show ∃ M1, b_X11_whole_0 N (zq_loop (fun _ => none) (b_X11_whole_0 N) F) M = some M1 ∧ _
    generalize hG : zq_loop (fun _ => none) (b_X11_whole_0 N) F = G
    unfold b_X11_whole_0
    have e33 : (zn k = 33) = (k = 33) := zn_eq (by omega) (by decide)
    rw [h24, if_neg (by rw [zl_0, zn_le (by omega) (by omega)]; omega), zl_1, zn_sub (by omega), Nat.add_sub_cancel, zn_ck (by omega) (by omega), zn_ix (by omega), s1]
    simp only [e33]
    unfold zP_wh
    by_cases h1 : k = 33
    · rw [if_neg (fun h => h h1)]
      simp only [if_pos h1]
      rw [if_neg (by omega)] at ho1
      obtain ⟨M2, p1, p2⟩ := zR_put (N := N) (k := 0) h (by omega)
      have p1' : f_X11_put N M (-33) = some M2 := p1
      rw [p1', Option.bind_some]
      simp only [zq_b]
      have m24 : M2.1 69 24 = zn (W.length + 1) := p2.2.1
      have m25 : M2.1 69 25 = zn o := p2.2.2.1
      rw [m24, zn_sub (by omega), Nat.add_sub_cancel, zq_us1 (by omega), m25, zn_sub (by omega), ← hG]
      exact zR_wh W (o - 1) (T ++ [0]) _ F (by omega) (by omega) (by omega) (by rw [List.length_append]; show B + (T.length + 1) + W.length ≤ 600; omega) (zR_25 (zR_24 (W1 := W) p2 p2.2.2.2.2.1.2.2))
    · rw [if_pos h1]
      simp only [if_neg h1]
      exact ⟨M, rfl, h⟩
theorem zR_st {N L B a o p c : Nat} {t : Nat → Nat} {M0 : zq_M} (hc : c = 38 ∨ c = 124) : ∀ (W : List Nat) (T : List Nat) (M : zq_M) (F : Nat), W.length < F → W.length ≤ 100 → B + T.length + W.length ≤ 600 → zRS t L B a M0 W o T p M → ∃ M1, zq_loop (fun _ => none) (b_X11_settle_0 N (zn c)) F M = some M1 ∧ zRS t L B a M0 (zP_st c W T).1 o (zP_st c W T).2 p M1
  | [], T, M, F, hF, hl, hb, h => by
    obtain ⟨F, rfl⟩ : ∃ G, F = G + 1 := ⟨F - 1, by omega⟩
    refine ⟨M, ?_, h⟩
    show b_X11_settle_0 N _ _ M = _
    unfold b_X11_settle_0
    rw [h.2.1, if_pos (by decide)]
  | k :: W, T, M, F, hF, hl, hb, h => by
    obtain ⟨F, rfl⟩ : ∃ G, F = G + 1 := ⟨F - 1, by omega⟩
    have hl1 : (k :: W).length = W.length + 1 := rfl
    rw [hl1] at hF hl hb
    have h24 : M.1 69 24 = zn (W.length + 1) := h.2.1
    obtain ⟨s1, s2, s3⟩ := h.2.2.2.2.1
    have hj : ∀ (v : Int32) (G : zq_M → Option zq_M) (x : Nat), v = zt_cm x → zn k = zn k → -(zn k) = v → zq_loop (fun _ => none) (b_X11_settle_0 N (zn c)) F = G → ∃ M1, j_X11_settle_45 N M G = some M1 ∧ zRS t L B a M0 (zP_st c W (T ++ [x])).1 o (zP_st c W (T ++ [x])).2 p M1 := by
      intro v G x hv _ hv2 hG
      unfold j_X11_settle_45
      simp only [zq_b]
      rw [h24, zl_1, zn_sub (by omega), Nat.add_sub_cancel]
      have g1 : (zq_u1 M 69 24 (zn W.length)).1 69 24 = zn W.length := by rw [zq_g1, if_pos ⟨rfl, rfl⟩]
      have g2 : (zq_u1 M 69 24 (zn W.length)).1 82 W.length = zn k := by rw [zq_un (by omega)]; exact s1
      rw [g1, zn_ck (by omega) (by omega), zn_ix (by omega), g2, hv2, hv]
      obtain ⟨M2, p1, p2⟩ := zR_put (N := N) (k := x) (zR_24 (W1 := W) h s3) (by omega)
      rw [p1, Option.bind_some, ← hG]
      exact zR_st hc W (T ++ [x]) M2 F (by omega) (by omega) (by rw [List.length_append]; show B + (T.length + 1) + W.length ≤ 600; omega) p2
    show ∃ M1, b_X11_settle_0 N (zn c) (zq_loop (fun _ => none) (b_X11_settle_0 N (zn c)) F) M = some M1 ∧ _
    generalize hG : zq_loop (fun _ => none) (b_X11_settle_0 N (zn c)) F = G
    unfold b_X11_settle_0
    have e38 : (zn k = 38) = (k = 38) := zn_eq (by omega) (by decide)
    have e124 : (zn k = 124) = (k = 124) := zn_eq (by omega) (by decide)
    have ec : (zn c = 38) = (c = 38) := zn_eq (by omega) (by decide)
    rw [h24, if_neg (by rw [zl_0, zn_le (by omega) (by omega)]; omega), zl_1, zn_sub (by omega), Nat.add_sub_cancel, zn_ck (by omega) (by omega), zn_ck (by omega) (by omega), zn_ix (by omega), s1]
    simp only [e38, e124, ec]
    unfold zP_st
    by_cases h1 : k = 38
    · simp only [if_pos h1]
      exact hj (-38) G 1 rfl rfl (by rw [h1]; decide) hG
    · simp only [if_neg h1]
      by_cases h2 : k = 124
      · rw [if_neg (fun h => h h2)]
        simp only [if_pos h2]
        by_cases h3 : c = 38
        · simp only [if_pos h3]
          exact ⟨M, rfl, h⟩
        · simp only [if_neg h3]
          exact hj (-124) G 2 rfl rfl (by rw [h2]; decide) hG
      · rw [if_pos h2]
        simp only [if_neg h2]
        exact ⟨M, rfl, h⟩
