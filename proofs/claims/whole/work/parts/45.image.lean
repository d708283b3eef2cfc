theorem zm_12 (N : Nat) (X : zq_M) (hN : 12 < N) : ∃ X1, k_X11_image_147_4 N X = some (X.1 69 0, X1) ∧ X1.2 = X.2 ∧ (∀ c k, c ≠ 103 ∧ c ≠ 104 ∧ c ≠ 105 → X1.1 c k = X.1 c k) ∧ (∀ k, k < 12 → X1.1 103 k = X.1 93 k) ∧ (∀ k, k < 12 → X1.1 104 k = X.1 94 k) ∧ (∀ k, k < 12 → X1.1 105 k = X.1 96 k) := by
  have h := zr_loopN (P := fun n r => ∀ i, i ≤ 12 → 12 < n + i → ∀ Y : zq_M, (∀ c k, c ≠ 103 ∧ c ≠ 104 ∧ c ≠ 105 → Y.1 c k = X.1 c k) → Y.2 = X.2 → (∀ k, k < i → Y.1 103 k = X.1 93 k) → (∀ k, k < i → Y.1 104 k = X.1 94 k) → (∀ k, k < i → Y.1 105 k = X.1 96 k) → ∃ X1, r (zn i) Y = some (X.1 69 0, X1) ∧ X1.2 = X.2 ∧ (∀ c k, c ≠ 103 ∧ c ≠ 104 ∧ c ≠ 105 → X1.1 c k = X.1 c k) ∧ (∀ k, k < 12 → X1.1 103 k = X.1 93 k) ∧ (∀ k, k < 12 → X1.1 104 k = X.1 94 k) ∧ (∀ k, k < 12 → X1.1 105 k = X.1 96 k)) (fun _ _ => none) (b_X11_image_149) (by intro i h1 h2; omega) ?_ N
  · unfold k_X11_image_147_4
    exact h 0 (by omega) (by omega) X (fun _ _ _ => rfl) rfl (by omega) (by omega) (by omega)
  · intro n r ih i h1 h2 Y y1 y2 z0 z1 z2
    unfold b_X11_image_149
    rw [show (12 : Int32) = zn 12 from rfl]
    by_cases h3 : i = 12
    · subst h3
      rw [if_pos (by rw [zn_le (by omega) (by omega)]; omega)]
      rw [y1 69 0 (by omega)]
      exact ⟨Y, rfl, y2, y1, z0, z1, z2⟩
    · rw [if_neg (by rw [zn_le (by omega) (by omega)]; omega)]
      simp only [zn_ck (a := i) (n := 12) (show i < 12 by omega) (by omega), zn_ix (a := i) (by omega), zq_b]
      rw [show zn i + 1 = zn (i + 1) from zn_add i 1]
      refine ih (i + 1) (by omega) (by omega) _ ?_ y2 ?_ ?_ ?_
      · intro c k hc
        rw [zq_us1 (by omega), zq_us1 (by omega), zq_us1 (by omega)]; exact y1 c k (by omega)
      · intro k hk
        rw [zq_us1 (c := 105) (by omega), zq_us1 (c := 104) (by omega), zq_g1]
        by_cases h4 : k = i
        · rw [if_pos ⟨rfl, h4⟩, y1 93 i (by omega), h4]
        · rw [if_neg (by omega)]; exact z0 k (by omega)
      · intro k hk
        rw [zq_us1 (c := 105) (by omega), zq_g1]
        by_cases h4 : k = i
        · rw [if_pos ⟨rfl, h4⟩, zq_us1 (by omega), y1 94 i (by omega), h4]
        · rw [if_neg (by omega), zq_us1 (by omega)]; exact z1 k (by omega)
      · intro k hk
        rw [zq_g1]
        by_cases h4 : k = i
        · rw [if_pos ⟨rfl, h4⟩, zq_us1 (by omega), zq_us1 (by omega), y1 96 i (by omega), h4]
        · rw [if_neg (by omega), zq_us1 (by omega), zq_us1 (by omega)]; exact z2 k (by omega)
theorem zm_3 (N : Nat) (X : zq_M) (hN : 12 < N) : ∃ X1, k_X11_image_110_5 N X = some (X.1 69 0, X1) ∧ X1.2 = X.2 ∧ (∀ c k, c ≠ 101 ∧ c ≠ 102 ∧ c ≠ 103 ∧ c ≠ 104 ∧ c ≠ 105 → X1.1 c k = X.1 c k) ∧ (∀ k, k < 3 → X1.1 101 k = X.1 73 k) ∧ (∀ k, k < 3 → X1.1 102 k = X.1 74 k) ∧ (∀ k, k < 12 → X1.1 103 k = X.1 93 k) ∧ (∀ k, k < 12 → X1.1 104 k = X.1 94 k) ∧ (∀ k, k < 12 → X1.1 105 k = X.1 96 k) := by
  have h := zr_loopN (P := fun n r => ∀ i, i ≤ 3 → 3 < n + i → ∀ Y : zq_M, (∀ c k, c ≠ 101 ∧ c ≠ 102 → Y.1 c k = X.1 c k) → Y.2 = X.2 → (∀ k, k < i → Y.1 101 k = X.1 73 k) → (∀ k, k < i → Y.1 102 k = X.1 74 k) → ∃ X1, r (zn i) Y = some (X.1 69 0, X1) ∧ X1.2 = X.2 ∧ (∀ c k, c ≠ 101 ∧ c ≠ 102 ∧ c ≠ 103 ∧ c ≠ 104 ∧ c ≠ 105 → X1.1 c k = X.1 c k) ∧ (∀ k, k < 3 → X1.1 101 k = X.1 73 k) ∧ (∀ k, k < 3 → X1.1 102 k = X.1 74 k) ∧ (∀ k, k < 12 → X1.1 103 k = X.1 93 k) ∧ (∀ k, k < 12 → X1.1 104 k = X.1 94 k) ∧ (∀ k, k < 12 → X1.1 105 k = X.1 96 k)) (fun _ _ => none) (b_X11_image_112 N) (by intro i h1 h2; omega) ?_ N
  · unfold k_X11_image_110_5
    exact h 0 (by omega) (by omega) X (fun _ _ _ => rfl) rfl (by omega) (by omega)
  · intro n r ih i h1 h2 Y y1 y2 z0 z1
    unfold b_X11_image_112
    rw [show (3 : Int32) = zn 3 from rfl]
    by_cases h3 : i = 3
    · subst h3
      rw [if_pos (by rw [zn_le (by omega) (by omega)]; omega)]
      obtain ⟨X1, e1, e2, e3, f0, f1, f2⟩ := zm_12 N Y hN
      rw [e1, y1 69 0 (by omega)]
      refine ⟨X1, rfl, e2.trans y2, fun c k hc => (e3 c k (by omega)).trans (y1 c k (by omega)), fun k hk => (e3 101 k (by omega)).trans (z0 k hk), fun k hk => (e3 102 k (by omega)).trans (z1 k hk), fun k hk => (f0 k hk).trans (y1 93 k (by omega)), fun k hk => (f1 k hk).trans (y1 94 k (by omega)), fun k hk => (f2 k hk).trans (y1 96 k (by omega))⟩
    · rw [if_neg (by rw [zn_le (by omega) (by omega)]; omega)]
      simp only [zn_ck (a := i) (n := 3) (show i < 3 by omega) (by omega), zn_ix (a := i) (by omega), zq_b]
      rw [show zn i + 1 = zn (i + 1) from zn_add i 1]
      refine ih (i + 1) (by omega) (by omega) _ ?_ y2 ?_ ?_
      · intro c k hc
        rw [zq_us1 (by omega), zq_us1 (by omega)]; exact y1 c k (by omega)
      · intro k hk
        rw [zq_us1 (c := 102) (by omega), zq_g1]
        by_cases h4 : k = i
        · rw [if_pos ⟨rfl, h4⟩, y1 73 i (by omega), h4]
        · rw [if_neg (by omega)]; exact z0 k (by omega)
      · intro k hk
        rw [zq_g1]
        by_cases h4 : k = i
        · rw [if_pos ⟨rfl, h4⟩, zq_us1 (by omega), y1 74 i (by omega), h4]
        · rw [if_neg (by omega), zq_us1 (by omega)]; exact z1 k (by omega)
theorem zm_5 (N : Nat) (X : zq_M) (hN : 12 < N) : ∃ X1, zq_loop (fun _ _ => none) (b_X11_image_63 N) N (0 : Int32) X = some (X.1 69 0, X1) ∧ X1.2 = X.2 ∧ (∀ c k, c ≠ 98 ∧ c ≠ 99 ∧ c ≠ 100 ∧ c ≠ 101 ∧ c ≠ 102 ∧ c ≠ 103 ∧ c ≠ 104 ∧ c ≠ 105 → X1.1 c k = X.1 c k) ∧ (∀ k, k < 5 → X1.1 98 k = X.1 70 k) ∧ (∀ k, k < 5 → X1.1 99 k = X.1 71 k) ∧ (∀ k, k < 5 → X1.1 100 k = X.1 72 k) ∧ (∀ k, k < 3 → X1.1 101 k = X.1 73 k) ∧ (∀ k, k < 3 → X1.1 102 k = X.1 74 k) ∧ (∀ k, k < 12 → X1.1 103 k = X.1 93 k) ∧ (∀ k, k < 12 → X1.1 104 k = X.1 94 k) ∧ (∀ k, k < 12 → X1.1 105 k = X.1 96 k) := by
  have h := zr_loopN (P := fun n r => ∀ i, i ≤ 5 → 5 < n + i → ∀ Y : zq_M, (∀ c k, c ≠ 98 ∧ c ≠ 99 ∧ c ≠ 100 → Y.1 c k = X.1 c k) → Y.2 = X.2 → (∀ k, k < i → Y.1 98 k = X.1 70 k) → (∀ k, k < i → Y.1 99 k = X.1 71 k) → (∀ k, k < i → Y.1 100 k = X.1 72 k) → ∃ X1, r (zn i) Y = some (X.1 69 0, X1) ∧ X1.2 = X.2 ∧ (∀ c k, c ≠ 98 ∧ c ≠ 99 ∧ c ≠ 100 ∧ c ≠ 101 ∧ c ≠ 102 ∧ c ≠ 103 ∧ c ≠ 104 ∧ c ≠ 105 → X1.1 c k = X.1 c k) ∧ (∀ k, k < 5 → X1.1 98 k = X.1 70 k) ∧ (∀ k, k < 5 → X1.1 99 k = X.1 71 k) ∧ (∀ k, k < 5 → X1.1 100 k = X.1 72 k) ∧ (∀ k, k < 3 → X1.1 101 k = X.1 73 k) ∧ (∀ k, k < 3 → X1.1 102 k = X.1 74 k) ∧ (∀ k, k < 12 → X1.1 103 k = X.1 93 k) ∧ (∀ k, k < 12 → X1.1 104 k = X.1 94 k) ∧ (∀ k, k < 12 → X1.1 105 k = X.1 96 k)) (fun _ _ => none) (b_X11_image_63 N) (by intro i h1 h2; omega) ?_ N
  · exact h 0 (by omega) (by omega) X (fun _ _ _ => rfl) rfl (by omega) (by omega) (by omega)
  · intro n r ih i h1 h2 Y y1 y2 z0 z1 z2
    unfold b_X11_image_63
    rw [show (5 : Int32) = zn 5 from rfl]
    by_cases h3 : i = 5
    · subst h3
      rw [if_pos (by rw [zn_le (by omega) (by omega)]; omega)]
      obtain ⟨X1, e1, e2, e3, f0, f1, f2, f3, f4⟩ := zm_3 N Y hN
      rw [e1, y1 69 0 (by omega)]
      refine ⟨X1, rfl, e2.trans y2, fun c k hc => (e3 c k (by omega)).trans (y1 c k (by omega)), fun k hk => (e3 98 k (by omega)).trans (z0 k hk), fun k hk => (e3 99 k (by omega)).trans (z1 k hk), fun k hk => (e3 100 k (by omega)).trans (z2 k hk), fun k hk => (f0 k hk).trans (y1 73 k (by omega)), fun k hk => (f1 k hk).trans (y1 74 k (by omega)), fun k hk => (f2 k hk).trans (y1 93 k (by omega)), fun k hk => (f3 k hk).trans (y1 94 k (by omega)), fun k hk => (f4 k hk).trans (y1 96 k (by omega))⟩
    · rw [if_neg (by rw [zn_le (by omega) (by omega)]; omega)]
      simp only [zn_ck (a := i) (n := 5) (show i < 5 by omega) (by omega), zn_ix (a := i) (by omega), zq_b]
      rw [show zn i + 1 = zn (i + 1) from zn_add i 1]
      refine ih (i + 1) (by omega) (by omega) _ ?_ y2 ?_ ?_ ?_
      · intro c k hc
        rw [zq_us1 (by omega), zq_us1 (by omega), zq_us1 (by omega)]; exact y1 c k (by omega)
      · intro k hk
        rw [zq_us1 (c := 100) (by omega), zq_us1 (c := 99) (by omega), zq_g1]
        by_cases h4 : k = i
        · rw [if_pos ⟨rfl, h4⟩, y1 70 i (by omega), h4]
        · rw [if_neg (by omega)]; exact z0 k (by omega)
      · intro k hk
        rw [zq_us1 (c := 100) (by omega), zq_g1]
        by_cases h4 : k = i
        · rw [if_pos ⟨rfl, h4⟩, zq_us1 (by omega), y1 71 i (by omega), h4]
        · rw [if_neg (by omega), zq_us1 (by omega)]; exact z1 k (by omega)
      · intro k hk
        rw [zq_g1]
        by_cases h4 : k = i
        · rw [if_pos ⟨rfl, h4⟩, zq_us1 (by omega), zq_us1 (by omega), y1 72 i (by omega), h4]
        · rw [if_neg (by omega), zq_us1 (by omega), zq_us1 (by omega)]; exact z2 k (by omega)
theorem zu_12 (N : Nat) (X : zq_M) (hN : 12 < N) : ∃ X1, k_X11_undo_152_4 N X = some (X.1 69 0, X1) ∧ X1.2 = X.2 ∧ (∀ c k, c ≠ 93 ∧ c ≠ 94 ∧ c ≠ 96 → X1.1 c k = X.1 c k) ∧ (∀ k, k < 12 → X1.1 93 k = X.1 103 k) ∧ (∀ k, k < 12 → X1.1 94 k = X.1 104 k) ∧ (∀ k, k < 12 → X1.1 96 k = X.1 105 k) := by
  have h := zr_loopN (P := fun n r => ∀ i, i ≤ 12 → 12 < n + i → ∀ Y : zq_M, (∀ c k, c ≠ 93 ∧ c ≠ 94 ∧ c ≠ 96 → Y.1 c k = X.1 c k) → Y.2 = X.2 → (∀ k, k < i → Y.1 93 k = X.1 103 k) → (∀ k, k < i → Y.1 94 k = X.1 104 k) → (∀ k, k < i → Y.1 96 k = X.1 105 k) → ∃ X1, r (zn i) Y = some (X.1 69 0, X1) ∧ X1.2 = X.2 ∧ (∀ c k, c ≠ 93 ∧ c ≠ 94 ∧ c ≠ 96 → X1.1 c k = X.1 c k) ∧ (∀ k, k < 12 → X1.1 93 k = X.1 103 k) ∧ (∀ k, k < 12 → X1.1 94 k = X.1 104 k) ∧ (∀ k, k < 12 → X1.1 96 k = X.1 105 k)) (fun _ _ => none) (b_X11_undo_154) (by intro i h1 h2; omega) ?_ N
  · unfold k_X11_undo_152_4
    exact h 0 (by omega) (by omega) X (fun _ _ _ => rfl) rfl (by omega) (by omega) (by omega)
  · intro n r ih i h1 h2 Y y1 y2 z0 z1 z2
    unfold b_X11_undo_154
    rw [show (12 : Int32) = zn 12 from rfl]
    by_cases h3 : i = 12
    · subst h3
      rw [if_pos (by rw [zn_le (by omega) (by omega)]; omega)]
      rw [y1 69 0 (by omega)]
      exact ⟨Y, rfl, y2, y1, z0, z1, z2⟩
    · rw [if_neg (by rw [zn_le (by omega) (by omega)]; omega)]
      simp only [zn_ck (a := i) (n := 12) (show i < 12 by omega) (by omega), zn_ix (a := i) (by omega), zq_b]
      rw [show zn i + 1 = zn (i + 1) from zn_add i 1]
      refine ih (i + 1) (by omega) (by omega) _ ?_ y2 ?_ ?_ ?_
      · intro c k hc
        rw [zq_us1 (by omega), zq_us1 (by omega), zq_us1 (by omega)]; exact y1 c k (by omega)
      · intro k hk
        rw [zq_us1 (c := 96) (by omega), zq_us1 (c := 94) (by omega), zq_g1]
        by_cases h4 : k = i
        · rw [if_pos ⟨rfl, h4⟩, y1 103 i (by omega), h4]
        · rw [if_neg (by omega)]; exact z0 k (by omega)
      · intro k hk
        rw [zq_us1 (c := 96) (by omega), zq_g1]
        by_cases h4 : k = i
        · rw [if_pos ⟨rfl, h4⟩, zq_us1 (by omega), y1 104 i (by omega), h4]
        · rw [if_neg (by omega), zq_us1 (by omega)]; exact z1 k (by omega)
      · intro k hk
        rw [zq_g1]
        by_cases h4 : k = i
        · rw [if_pos ⟨rfl, h4⟩, zq_us1 (by omega), zq_us1 (by omega), y1 105 i (by omega), h4]
        · rw [if_neg (by omega), zq_us1 (by omega), zq_us1 (by omega)]; exact z2 k (by omega)
theorem zu_3 (N : Nat) (X : zq_M) (hN : 12 < N) : ∃ X1, k_X11_undo_115_5 N X = some (X.1 69 0, X1) ∧ X1.2 = X.2 ∧ (∀ c k, c ≠ 73 ∧ c ≠ 74 ∧ c ≠ 93 ∧ c ≠ 94 ∧ c ≠ 96 → X1.1 c k = X.1 c k) ∧ (∀ k, k < 3 → X1.1 73 k = X.1 101 k) ∧ (∀ k, k < 3 → X1.1 74 k = X.1 102 k) ∧ (∀ k, k < 12 → X1.1 93 k = X.1 103 k) ∧ (∀ k, k < 12 → X1.1 94 k = X.1 104 k) ∧ (∀ k, k < 12 → X1.1 96 k = X.1 105 k) := by
  have h := zr_loopN (P := fun n r => ∀ i, i ≤ 3 → 3 < n + i → ∀ Y : zq_M, (∀ c k, c ≠ 73 ∧ c ≠ 74 → Y.1 c k = X.1 c k) → Y.2 = X.2 → (∀ k, k < i → Y.1 73 k = X.1 101 k) → (∀ k, k < i → Y.1 74 k = X.1 102 k) → ∃ X1, r (zn i) Y = some (X.1 69 0, X1) ∧ X1.2 = X.2 ∧ (∀ c k, c ≠ 73 ∧ c ≠ 74 ∧ c ≠ 93 ∧ c ≠ 94 ∧ c ≠ 96 → X1.1 c k = X.1 c k) ∧ (∀ k, k < 3 → X1.1 73 k = X.1 101 k) ∧ (∀ k, k < 3 → X1.1 74 k = X.1 102 k) ∧ (∀ k, k < 12 → X1.1 93 k = X.1 103 k) ∧ (∀ k, k < 12 → X1.1 94 k = X.1 104 k) ∧ (∀ k, k < 12 → X1.1 96 k = X.1 105 k)) (fun _ _ => none) (b_X11_undo_117 N) (by intro i h1 h2; omega) ?_ N
  · unfold k_X11_undo_115_5
    exact h 0 (by omega) (by omega) X (fun _ _ _ => rfl) rfl (by omega) (by omega)
  · intro n r ih i h1 h2 Y y1 y2 z0 z1
    unfold b_X11_undo_117
    rw [show (3 : Int32) = zn 3 from rfl]
    by_cases h3 : i = 3
    · subst h3
      rw [if_pos (by rw [zn_le (by omega) (by omega)]; omega)]
      obtain ⟨X1, e1, e2, e3, f0, f1, f2⟩ := zu_12 N Y hN
      rw [e1, y1 69 0 (by omega)]
      refine ⟨X1, rfl, e2.trans y2, fun c k hc => (e3 c k (by omega)).trans (y1 c k (by omega)), fun k hk => (e3 73 k (by omega)).trans (z0 k hk), fun k hk => (e3 74 k (by omega)).trans (z1 k hk), fun k hk => (f0 k hk).trans (y1 103 k (by omega)), fun k hk => (f1 k hk).trans (y1 104 k (by omega)), fun k hk => (f2 k hk).trans (y1 105 k (by omega))⟩
    · rw [if_neg (by rw [zn_le (by omega) (by omega)]; omega)]
      simp only [zn_ck (a := i) (n := 3) (show i < 3 by omega) (by omega), zn_ix (a := i) (by omega), zq_b]
      rw [show zn i + 1 = zn (i + 1) from zn_add i 1]
      refine ih (i + 1) (by omega) (by omega) _ ?_ y2 ?_ ?_
      · intro c k hc
        rw [zq_us1 (by omega), zq_us1 (by omega)]; exact y1 c k (by omega)
      · intro k hk
        rw [zq_us1 (c := 74) (by omega), zq_g1]
        by_cases h4 : k = i
        · rw [if_pos ⟨rfl, h4⟩, y1 101 i (by omega), h4]
        · rw [if_neg (by omega)]; exact z0 k (by omega)
      · intro k hk
        rw [zq_g1]
        by_cases h4 : k = i
        · rw [if_pos ⟨rfl, h4⟩, zq_us1 (by omega), y1 102 i (by omega), h4]
        · rw [if_neg (by omega), zq_us1 (by omega)]; exact z1 k (by omega)
theorem zu_5 (N : Nat) (X : zq_M) (hN : 12 < N) : ∃ X1, zq_loop (fun _ _ => none) (b_X11_undo_68 N) N (0 : Int32) X = some (X.1 69 0, X1) ∧ X1.2 = X.2 ∧ (∀ c k, c ≠ 70 ∧ c ≠ 71 ∧ c ≠ 72 ∧ c ≠ 73 ∧ c ≠ 74 ∧ c ≠ 93 ∧ c ≠ 94 ∧ c ≠ 96 → X1.1 c k = X.1 c k) ∧ (∀ k, k < 5 → X1.1 70 k = X.1 98 k) ∧ (∀ k, k < 5 → X1.1 71 k = X.1 99 k) ∧ (∀ k, k < 5 → X1.1 72 k = X.1 100 k) ∧ (∀ k, k < 3 → X1.1 73 k = X.1 101 k) ∧ (∀ k, k < 3 → X1.1 74 k = X.1 102 k) ∧ (∀ k, k < 12 → X1.1 93 k = X.1 103 k) ∧ (∀ k, k < 12 → X1.1 94 k = X.1 104 k) ∧ (∀ k, k < 12 → X1.1 96 k = X.1 105 k) := by
  have h := zr_loopN (P := fun n r => ∀ i, i ≤ 5 → 5 < n + i → ∀ Y : zq_M, (∀ c k, c ≠ 70 ∧ c ≠ 71 ∧ c ≠ 72 → Y.1 c k = X.1 c k) → Y.2 = X.2 → (∀ k, k < i → Y.1 70 k = X.1 98 k) → (∀ k, k < i → Y.1 71 k = X.1 99 k) → (∀ k, k < i → Y.1 72 k = X.1 100 k) → ∃ X1, r (zn i) Y = some (X.1 69 0, X1) ∧ X1.2 = X.2 ∧ (∀ c k, c ≠ 70 ∧ c ≠ 71 ∧ c ≠ 72 ∧ c ≠ 73 ∧ c ≠ 74 ∧ c ≠ 93 ∧ c ≠ 94 ∧ c ≠ 96 → X1.1 c k = X.1 c k) ∧ (∀ k, k < 5 → X1.1 70 k = X.1 98 k) ∧ (∀ k, k < 5 → X1.1 71 k = X.1 99 k) ∧ (∀ k, k < 5 → X1.1 72 k = X.1 100 k) ∧ (∀ k, k < 3 → X1.1 73 k = X.1 101 k) ∧ (∀ k, k < 3 → X1.1 74 k = X.1 102 k) ∧ (∀ k, k < 12 → X1.1 93 k = X.1 103 k) ∧ (∀ k, k < 12 → X1.1 94 k = X.1 104 k) ∧ (∀ k, k < 12 → X1.1 96 k = X.1 105 k)) (fun _ _ => none) (b_X11_undo_68 N) (by intro i h1 h2; omega) ?_ N
  · exact h 0 (by omega) (by omega) X (fun _ _ _ => rfl) rfl (by omega) (by omega) (by omega)
  · intro n r ih i h1 h2 Y y1 y2 z0 z1 z2
    unfold b_X11_undo_68
    rw [show (5 : Int32) = zn 5 from rfl]
    by_cases h3 : i = 5
    · subst h3
      rw [if_pos (by rw [zn_le (by omega) (by omega)]; omega)]
      obtain ⟨X1, e1, e2, e3, f0, f1, f2, f3, f4⟩ := zu_3 N Y hN
      rw [e1, y1 69 0 (by omega)]
      refine ⟨X1, rfl, e2.trans y2, fun c k hc => (e3 c k (by omega)).trans (y1 c k (by omega)), fun k hk => (e3 70 k (by omega)).trans (z0 k hk), fun k hk => (e3 71 k (by omega)).trans (z1 k hk), fun k hk => (e3 72 k (by omega)).trans (z2 k hk), fun k hk => (f0 k hk).trans (y1 101 k (by omega)), fun k hk => (f1 k hk).trans (y1 102 k (by omega)), fun k hk => (f2 k hk).trans (y1 103 k (by omega)), fun k hk => (f3 k hk).trans (y1 104 k (by omega)), fun k hk => (f4 k hk).trans (y1 105 k (by omega))⟩
    · rw [if_neg (by rw [zn_le (by omega) (by omega)]; omega)]
      simp only [zn_ck (a := i) (n := 5) (show i < 5 by omega) (by omega), zn_ix (a := i) (by omega), zq_b]
      rw [show zn i + 1 = zn (i + 1) from zn_add i 1]
      refine ih (i + 1) (by omega) (by omega) _ ?_ y2 ?_ ?_ ?_
      · intro c k hc
        rw [zq_us1 (by omega), zq_us1 (by omega), zq_us1 (by omega)]; exact y1 c k (by omega)
      · intro k hk
        rw [zq_us1 (c := 72) (by omega), zq_us1 (c := 71) (by omega), zq_g1]
        by_cases h4 : k = i
        · rw [if_pos ⟨rfl, h4⟩, y1 98 i (by omega), h4]
        · rw [if_neg (by omega)]; exact z0 k (by omega)
      · intro k hk
        rw [zq_us1 (c := 72) (by omega), zq_g1]
        by_cases h4 : k = i
        · rw [if_pos ⟨rfl, h4⟩, zq_us1 (by omega), y1 99 i (by omega), h4]
        · rw [if_neg (by omega), zq_us1 (by omega)]; exact z1 k (by omega)
      · intro k hk
        rw [zq_g1]
        by_cases h4 : k = i
        · rw [if_pos ⟨rfl, h4⟩, zq_us1 (by omega), zq_us1 (by omega), y1 100 i (by omega), h4]
        · rw [if_neg (by omega), zq_us1 (by omega), zq_us1 (by omega)]; exact z2 k (by omega)
