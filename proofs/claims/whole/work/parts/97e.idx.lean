def zX_cj (P : Nat → Prop) : Nat → Prop
  | 0 => True
  | n + 1 => zX_cj P n ∧ P n
theorem zX_cje {P : Nat → Prop} : ∀ {n c}, zX_cj P n → c < n → P c
  | 0, c, _, h => absurd h (by omega)
  | n + 1, c, h, hc => by
    by_cases h2 : c = n
    · rw [h2]; exact h.2
    · exact zX_cje h.1 (by omega)
theorem zX_idx6 (M : Nat) (sh : zq_H) (X : zq_M) : zX_cj (fun c => f_J0_indexOf_0f7a4 (M + 12) sh X 6 (zn c) = some (zX_ix 6 c)) 128 := by
  iterate 128 (refine ⟨?_, rfl⟩)
  exact trivial
theorem zX_idx4 (M : Nat) (sh : zq_H) (X : zq_M) : zX_cj (fun c => f_J0_indexOf_0f7a4 (M + 12) sh X 4 (zn c) = some (zX_ix 4 c)) 128 := by
  iterate 128 (refine ⟨?_, rfl⟩)
  exact trivial
theorem zX_idx5 (M : Nat) (sh : zq_H) (X : zq_M) : zX_cj (fun c => f_J0_indexOf_0f7a4 (M + 12) sh X 5 (zn c) = some (zX_ix 5 c)) 128 := by
  iterate 128 (refine ⟨?_, rfl⟩)
  exact trivial
theorem zX_idx {N i c : Nat} {sh : zq_H} {X : zq_M} (hN : 20 < N) (hi : i = 4 ∨ i = 5 ∨ i = 6) (hc : c < 128) : f_J0_indexOf_0f7a4 N sh X i (zn c) = some (zX_ix i c) := by
  obtain ⟨M, rfl⟩ : ∃ M, N = M + 12 := ⟨N - 12, by omega⟩
  rcases hi with rfl | rfl | rfl
  · exact zX_cje (zX_idx4 M sh X) hc
  · exact zX_cje (zX_idx5 M sh X) hc
  · exact zX_cje (zX_idx6 M sh X) hc
theorem zX_ix200 {i : Nat} (hi : i = 4 ∨ i = 5 ∨ i = 6) : zX_ix i 200 = -1 := by
  rcases hi with rfl | rfl | rfl <;> rfl
theorem zX_one {N j h L p i : Nat} {t : Nat → Nat} {X : zq_M} (hN : 20 < N) (H : zXM j h t L p X) (hi : i = 4 ∨ i = 5 ∨ i = 6) : f_X3_eatOneOf N j X i = some (zX_ix i (zX_nx t L p), if zX_ix i (zX_nx t L p) < 0 then X else zq_u1 X 28 2 (zn (p + 1))) := by
  obtain ⟨h1, h2, h3, h4, h5, h6, h7, h8, h9⟩ := H
  unfold f_X3_eatOneOf
  rw [h3, h4]
  by_cases c1 : p < L
  · have b := h9 p (by omega)
    have e : zX_nx t L p = t p := by unfold zX_nx; rw [if_pos c1]
    rw [if_neg (by rw [zn_le (by omega) (by omega)]; omega), h5, zX_nn]
    rw [zn_ck (by omega) (by omega), zn_ix (by omega), b.2, (zX_t8 _ b.1).1, zX_idx hN hi b.1, Option.bind_some, e]
    unfold j_X3_eatOneOf_29
    rw [h4]
    by_cases c2 : zX_ix i (t p) < 0
    · rw [if_pos c2, if_pos c2]
    · rw [if_neg c2, if_neg c2, zl_1, zn_add]; rfl
  · rw [if_pos (by rw [zn_le (by omega) (by omega)]; omega), zX_nx2 (by omega), zX_ix200 hi, if_pos (by decide)]
    unfold j_X3_eatOneOf_29
    rw [if_pos (by decide)]
