abbrev zn (n : Nat) : Int32 := Int32.ofNat n
theorem zn_ti {a : Nat} (h : a < 2147483648) : (zn a).toInt = (a : Int) := Int32.toInt_ofNat_of_lt h
theorem zn_nt (a : Int32) (h : 0 ≤ a) : ∃ n : Nat, n < 2147483648 ∧ a = zn n := by
  have h1 : (0 : Int) ≤ a.toInt := by simpa using Int32.le_iff_toInt_le.mp h
  have h2 := a.toInt_lt
  refine ⟨a.toInt.toNat, by omega, ?_⟩
  apply Int32.toInt_inj.mp
  rw [zn_ti (by omega)]
  omega
theorem zn_eq {a b : Nat} (ha : a < 2147483648) (hb : b < 2147483648) : (zn a = zn b) = (a = b) := by
  apply propext
  constructor
  · intro h
    have := congrArg Int32.toInt h
    rw [zn_ti ha, zn_ti hb] at this
    omega
  · intro h; rw [h]
theorem zn_le {a b : Nat} (ha : a < 2147483648) (hb : b < 2147483648) : (zn a ≤ zn b) = (a ≤ b) := by
  apply propext
  rw [Int32.le_iff_toInt_le, zn_ti ha, zn_ti hb]
  omega
theorem zn_lt {a b : Nat} (ha : a < 2147483648) (hb : b < 2147483648) : (zn a < zn b) = (a < b) := by
  apply propext
  rw [Int32.lt_iff_toInt_lt, zn_ti ha, zn_ti hb]
  omega
theorem zn_l (n : Nat) : (no_index (OfNat.ofNat n) : Int32) = zn n := rfl
theorem zn_add (a b : Nat) : zn a + zn b = zn (a + b) := (Int32.ofNat_add a b).symm
theorem zn_mul (a b : Nat) : zn a * zn b = zn (a * b) := (Int32.ofNat_mul a b).symm
theorem zn_sub {a b : Nat} (h : b ≤ a) : zn a - zn b = zn (a - b) := (Int32.ofNat_sub a b h).symm
theorem zn_ix {a : Nat} (h : a < 2147483648) : zq_ix (zn a) = a := by
  unfold zq_ix
  rw [Int32.toNatClampNeg_ofNat_of_lt h]
theorem zn_ck {ρ : Type} {a n : Nat} {o : Option ρ} (h : a < n) (hn : n < 2147483648) : zq_ck (zn a) n o = o := by
  unfold zq_ck
  rw [if_neg]
  rw [show ((zn a < 0) = (zn a < zn 0)) from rfl, zn_lt (by omega) (by omega), Int32.toNatClampNeg_ofNat_of_lt (by omega)]
  omega
theorem zn_bv (a : Nat) : (zn a).toBitVec = BitVec.ofNat 32 a := rfl
theorem zn_ob {a : Nat} {x : Int32} (h : x.toBitVec = BitVec.ofNat 32 a) : x = zn a := Int32.toBitVec_inj.mp h
theorem zn_and (a b : Nat) : zn a &&& zn b = zn (a &&& b) := by
  apply zn_ob
  rw [Int32.toBitVec_and, zn_bv, zn_bv, BitVec.ofNat_and]
theorem zn_or (a b : Nat) : zn a ||| zn b = zn (a ||| b) := by
  apply zn_ob
  rw [Int32.toBitVec_or, zn_bv, zn_bv, BitVec.ofNat_or]
theorem zn_xor (a b : Nat) : zn a ^^^ zn b = zn (a ^^^ b) := by
  apply zn_ob
  rw [Int32.toBitVec_xor, zn_bv, zn_bv, BitVec.ofNat_xor]
