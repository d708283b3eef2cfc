theorem zs_lt (p : Nat → Bool) (n : Nat) : zs_set p n < 2 ^ n := by
  induction n with
  | zero => exact Nat.one_pos
  | succ n ih =>
    show zs_set p n + (if p n = true then 2 ^ n else 0) < 2 ^ (n + 1)
    rw [Nat.pow_succ]
    split <;> omega
theorem zs_tb (p : Nat → Bool) (n k : Nat) : (zs_set p n).testBit k = (decide (k < n) && p k) := by
  induction n with
  | zero => simp [zs_set, zs_sum]
  | succ n ih =>
    have hs : zs_set p (n + 1) = zs_set p n + (if p n = true then 2 ^ n else 0) := rfl
    have hl := zs_lt p n
    rw [hs]
    by_cases hp : p n = true
    · rw [if_pos hp, Nat.add_comm]
      rcases Nat.lt_trichotomy k n with h | h | h
      · rw [Nat.testBit_two_pow_add_gt h, ih]
        simp [h, Nat.lt_succ_of_lt h]
      · subst h
        rw [Nat.testBit_two_pow_add_eq, Nat.testBit_lt_two_pow hl]
        simp [hp]
      · have h2 : 2 ^ n + zs_set p n < 2 ^ k := by
          have : 2 ^ (n + 1) ≤ 2 ^ k := Nat.pow_le_pow_right (by omega) h
          rw [Nat.pow_succ] at this
          omega
        rw [Nat.testBit_lt_two_pow h2]
        have h3 : ¬ (k < n + 1) := by omega
        simp [h3]
    · rw [if_neg hp, Nat.add_zero, ih]
      rcases Nat.lt_trichotomy k n with h | h | h
      · simp [h, Nat.lt_succ_of_lt h]
      · subst h
        simp [hp]
      · have h3 : ¬ (k < n + 1) := by omega
        have h4 : ¬ (k < n) := by omega
        simp [h3, h4]
theorem zs_bt (a k : Nat) : zs_bit a k = a.testBit k := by
  unfold zs_bit
  rw [Nat.testBit_eq_decide_div_mod_eq]
  rfl
theorem zn_bit {a k : Nat} (ha : a < 2147483648) (hk : k < 32) : (zq_shr (zn a) (zn k) &&& 1 = 1) = (zs_bit a k = true) := by
  rw [zn_shr ha hk, zn_and1]
  apply propext
  unfold zs_bit
  have h : (zn (a / 2 ^ k % 2) = 1) = (a / 2 ^ k % 2 = 1) := zn_eq (b := 1) (by omega) (by omega)
  rw [h]
  simp
theorem zs_or (p : Nat → Bool) (n : Nat) : zs_set p n ||| 2 ^ n = zs_set p n + 2 ^ n := by
  have hl := zs_lt p n
  rw [Nat.or_comm, Nat.add_comm]
  have := Nat.two_pow_add_eq_or_of_lt hl 1
  simpa using this.symm
