theorem zm_12 (N : Nat) (X : zq_M) (hN : 12 < N) : ∃ X1, k_X11_image_147_4 N X = some (X.1 69 0, X1) ∧ X1.2 = X.2 ∧ (∀ c k, c < 103 ∨ 105 < c → X1.1 c k = X.1 c k) ∧ (∀ k, k < 12 → X1.1 103 k = X.1 93 k) ∧ (∀ k, k < 12 → X1.1 104 k = X.1 94 k) ∧ (∀ k, k < 12 → X1.1 105 k = X.1 96 k) := by
  have h := zr_loopN (P := fun n r => ∀ i, i ≤ 12 → 12 < n + i → ∀ Y : zq_M, (∀ c k, c < 103 ∨ 105 < c → Y.1 c k = X.1 c k) → Y.2 = X.2 → (∀ k, k < i → Y.1 103 k = X.1 93 k) → (∀ k, k < i → Y.1 104 k = X.1 94 k) → (∀ k, k < i → Y.1 105 k = X.1 96 k) → ∃ X1, r (zn i) Y = some (X.1 69 0, X1) ∧ X1.2 = X.2 ∧ (∀ c k, c < 103 ∨ 105 < c → X1.1 c k = X.1 c k) ∧ (∀ k, k < 12 → X1.1 103 k = X.1 93 k) ∧ (∀ k, k < 12 → X1.1 104 k = X.1 94 k) ∧ (∀ k, k < 12 → X1.1 105 k = X.1 96 k)) (fun _ _ => none) (b_X11_image_149) (by intro i h1 h2; omega) ?_ N
  · unfold k_X11_image_147_4
    exact h 0 (by omega) (by omega) X (fun _ _ _ => rfl) rfl (by omega) (by omega) (by omega)
  · intro n r ih i h1 h2 Y y1 y2 y3 y4 y5
    unfold b_X11_image_149
    rw [show (12 : Int32) = zn 12 from rfl]
    by_cases h3 : i = 12
    · subst h3
      rw [if_pos (by rw [zn_le (by omega) (by omega)]; omega), y1 69 0 (by omega)]
      exact ⟨Y, rfl, y2, y1, y3, y4, y5⟩
    · rw [if_neg (by rw [zn_le (by omega) (by omega)]; omega)]
      simp only [zn_ck (a := i) (n := 12) (show i < 12 by omega) (by omega), zn_ix (a := i) (by omega), zq_b]
      rw [show zn i + 1 = zn (i + 1) from zn_add i 1]
      refine ih (i + 1) (by omega) (by omega) _ ?_ y2 ?_ ?_ ?_
      · intro c k hc
        rw [zq_us1 (by omega), zq_us1 (by omega), zq_us1 (by omega)]; exact y1 c k hc
      · intro k hk
        rw [zq_us1 (c := 105) (by omega), zq_us1 (c := 104) (by omega), zq_g1]
        by_cases h4 : k = i
        · rw [if_pos ⟨rfl, h4⟩, y1 93 i (by omega), h4]
        · rw [if_neg (by omega)]; exact y3 k (by omega)
      · intro k hk
        rw [zq_us1 (c := 105) (by omega), zq_g1]
        by_cases h4 : k = i
        · rw [if_pos ⟨rfl, h4⟩, zq_us1 (by omega), y1 94 i (by omega), h4]
        · rw [if_neg (by omega), zq_us1 (by omega)]; exact y4 k (by omega)
      · intro k hk
        rw [zq_g1]
        by_cases h4 : k = i
        · rw [if_pos ⟨rfl, h4⟩, zq_us1 (by omega), zq_us1 (by omega), y1 96 i (by omega), h4]
        · rw [if_neg (by omega), zq_us1 (by omega), zq_us1 (by omega)]; exact y5 k (by omega)
