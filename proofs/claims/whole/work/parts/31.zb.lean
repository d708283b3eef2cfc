theorem zn_and3 (a : Nat) : zn a &&& 3 = zn (a % 4) := by
  rw [zn_l, zn_and]
  congr 1
  exact Nat.and_two_pow_sub_one_eq_mod a 2
theorem zn_and1 (a : Nat) : zn a &&& 1 = zn (a % 2) := by
  rw [zn_l, zn_and]
  congr 1
  exact Nat.and_two_pow_sub_one_eq_mod a 1
theorem zn_2m (i : Nat) : (2 : Int32) * zn i = zn (2 * i) := zn_mul 2 i
theorem zn_plc {w i : Nat} (hw : w < 2147483648) (hi : i < 5) : zq_shr (zn w) ((2 : Int32) * zn i) &&& (3 : Int32) = zn (w / 4 ^ i % 4) := by
  rw [zn_2m, zn_shr hw (by omega), zn_and3, Nat.pow_mul]
theorem zn_mvd : ∀ i : Nat, i < 5 → ∀ v : Nat, v < 4 → ∀ w : Nat, w < 1024 → ((zn w &&& ((zq_shl (3 : Int32) ((2 : Int32) * zn i)) ^^^ (-1 : Int32))) ||| (zq_shl (zn v) ((2 : Int32) * zn i))) = zn (w - (w / 4 ^ i % 4) * 4 ^ i + v * 4 ^ i) := by
  decide +kernel
