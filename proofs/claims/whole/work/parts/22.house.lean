theorem zq_hno (j i : Nat) (hi : i < j) : zq_ho (zq_shX j) (111 + 5 * i) = true := by
  unfold zq_ho
  simp only [Bool.and_eq_true, decide_eq_true_eq]
  have key : ∀ d, d < 5 → zq_shX j (111 + 5 * i + d) = some (zq_hsh (111 + 5 * i) d) := by
    intro d hd
    unfold zq_shX
    rw [if_neg (by omega), if_neg (by omega), if_pos (by omega)]
    have e2 : (111 + 5 * i + d - 111) % 5 = d := by omega
    rw [e2]
    have e3 : 111 + 5 * i + d - d = 111 + 5 * i := by omega
    rw [e3]
  exact ⟨⟨⟨⟨key 0 (by omega), key 1 (by omega)⟩, key 2 (by omega)⟩, key 3 (by omega)⟩, key 4 (by omega)⟩
