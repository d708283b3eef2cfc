def zf28 (X X1 : zq_M) : Prop := X1.2 = X.2 ∧ (∀ c, c ≠ 28 → X1.1 c = X.1 c) ∧ ∀ k, k ≠ 2 → X1.1 28 k = X.1 28 k
theorem zf28_u {X X1 : zq_M} {v : Int32} (h : zf28 X X1) : zf28 X (zq_u1 X1 28 2 v) := ⟨h.1, fun c hc => by rw [zq_un hc]; exact h.2.1 c hc, fun k hk => by rw [zq_us1 (by omega)]; exact h.2.2 k hk⟩
theorem zf28_r (X : zq_M) : zf28 X X := ⟨rfl, fun _ _ => rfl, fun _ _ => rfl⟩
theorem zX_i4 {t : Nat → Nat} {L p : Nat} (c : zX_dg (zX_nx t L p) = true) : zX_ix 4 (zX_nx t L p) = zn (zX_nx t L p - 48) ∧ p < L := by
  have g := zX_dgp c
  refine ⟨?_, zX_pp (t := t) (by omega)⟩
  unfold zX_ix
  rw [if_pos rfl, if_pos g]
theorem zX_i4n {n : Nat} (c : ¬ zX_dg n = true) : zX_ix 4 n = -1 := by
  unfold zX_ix
  rw [if_pos rfl, if_neg (by unfold zX_dg at c; simpa using c)]
theorem zn_n0 {a : Nat} (ha : a < 2147483648) : ¬ zn a < 0 := by rw [zl_0, zn_lt ha (by omega)]; omega
theorem zn_p0 {a : Nat} (ha : a < 2147483648) : (0 : Int32) ≤ zn a := by rw [zl_0, zn_le (by omega) ha]; omega
theorem zX_rnum {N j h L p : Nat} {t : Nat → Nat} {X : zq_M} (hN : 20 < N) (H : zXM j h t L p X) : ∃ X1, f_X3_readNumber N j X = some (if (zX_nu (zX_nx t L) p).1 = true then zn (zX_nu (zX_nx t L) p).2.2 else -1, X1) ∧ zXM j h t L (zX_nu (zX_nx t L) p).2.1 X1 ∧ zf28 X X1 := by
  unfold f_X3_readNumber zX_nu
  rw [zX_one hN H (Or.inl rfl), Option.bind_some]
  by_cases c : zX_dg (zX_nx t L p) = true
  · obtain ⟨i1, p1⟩ := zX_i4 c
    have g := zX_dgp c
    have H2 := zX_at H (q := p + 1) (by omega)
    simp only [if_pos c, zq_p]
    rw [i1, if_neg (zn_n0 (by omega)), if_pos (zn_p0 (by omega)), zX_one hN H2 (Or.inl rfl), Option.bind_some]
    by_cases c2 : zX_dg (zX_nx t L (p + 1)) = true
    · obtain ⟨i2, p2⟩ := zX_i4 c2
      have g2 := zX_dgp c2
      simp only [if_pos c2]
      unfold j_X3_readNumber_21
      rw [i2, if_neg (zn_n0 (by omega))]
      simp only [zq_p, if_true]
      rw [if_pos (zn_p0 (by omega))]
      refine ⟨_, ?_, zX_at H2 (by omega), zf28_u (zf28_u (zf28_r X))⟩
      rw [show (10 : Int32) = zn 10 from rfl, zn_mul, zn_add, Nat.mul_comm]
    · simp only [if_neg c2]
      unfold j_X3_readNumber_21
      rw [zX_i4n c2, if_pos (show (-1 : Int32) < 0 by decide)]
      simp only [zq_p, if_true]
      rw [if_neg (show ¬ (0 : Int32) ≤ -1 by decide)]
      exact ⟨_, rfl, H2, zf28_u (zf28_r X)⟩
  · simp only [if_neg c, zq_p]
    rw [zX_i4n c, if_pos (show (-1 : Int32) < 0 by decide), if_neg (show ¬ (0 : Int32) ≤ -1 by decide)]
    unfold j_X3_readNumber_21
    rw [if_neg (show ¬ (0 : Int32) ≤ -1 by decide)]
    exact ⟨X, rfl, H, zf28_r X⟩
