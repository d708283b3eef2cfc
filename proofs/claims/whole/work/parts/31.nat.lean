theorem zn_m32 : ∀ k : Nat, k < 32 → ((BitVec.ofNat 32 k).smod 32#32).toNat = k := by decide
theorem zn_a31 : ∀ k : Nat, k < 32 → k &&& 31 = k := by decide
theorem zn_k31 {k : Nat} (h : k < 32) : zn k &&& 31 = zn k := by
  rw [zn_l, zn_and, zn_a31 k h]
theorem zn_shl {a k : Nat} (h : k < 32) : zq_shl (zn a) (zn k) = zn (a * 2 ^ k) := by
  unfold zq_shl
  rw [zn_k31 h]
  apply zn_ob
  rw [Int32.toBitVec_shiftLeft, zn_bv, zn_bv]
  apply BitVec.eq_of_toNat_eq
  have hk := zn_m32 k h
  show (BitVec.ofNat 32 a <<< ((BitVec.ofNat 32 k).smod 32#32).toNat).toNat = _
  rw [hk]
  simp [BitVec.toNat_shiftLeft, Nat.shiftLeft_eq]
theorem zn_shr {a k : Nat} (ha : a < 2147483648) (h : k < 32) : zq_shr (zn a) (zn k) = zn (a / 2 ^ k) := by
  unfold zq_shr
  rw [zn_k31 h]
  apply Int32.toInt_inj.mp
  have h2 : a / 2 ^ k ≤ a := Nat.div_le_self _ _
  rw [zn_ti (by omega)]
  rw [← Int32.toInt_toBitVec, Int32.toBitVec_shiftRight]
  have hk := zn_m32 k h
  show ((zn a).toBitVec.sshiftRight ((BitVec.ofNat 32 k).smod 32#32).toNat).toInt = _
  rw [hk, BitVec.toInt_sshiftRight, Int32.toInt_toBitVec, zn_ti ha, Int.shiftRight_eq_div_pow]
  simp
theorem zn_div {a b : Nat} (ha : a < 2147483648) (hb : b < 2147483648) : zn a / zn b = zn (a / b) := by
  apply Int32.toInt_inj.mp
  have h2 : a / b ≤ a := Nat.div_le_self _ _
  rw [zn_ti (by omega), Int32.toInt_div, zn_ti ha, zn_ti hb]
  rw [Int.tdiv_eq_ediv_of_nonneg (by omega)]
  rw [← Int.natCast_ediv]
  generalize a / b = c at h2 ⊢
  apply Int.bmod_eq_of_le <;> omega
theorem zn_irem {a b : Nat} (ha : a < 2147483648) (hb : b < 2147483648) : zq_irem (zn a) (zn b) = zn (a % b) := by
  unfold zq_irem
  have h3 := Nat.div_mul_le_self a b
  rw [zn_div ha hb, zn_mul, zn_sub h3, Nat.mod_eq_sub_div_mul]
theorem zn_dv {ρ : Type} {a : Nat} {o : Option ρ} (h : a < 2147483648) (h0 : a ≠ 0) : zq_dv (zn a) o = o := by
  unfold zq_dv
  rw [if_neg]
  intro h1
  have h2 : zn a = zn 0 := h1
  rw [zn_eq h (by decide)] at h2
  exact h0 h2
theorem zn_0 {a : Nat} (h : a < 2147483648) : (zn a = 0) = (a = 0) := zn_eq (b := 0) h (by decide)
theorem zq_g1 (X : zq_M) (c k : Nat) (v : Int32) (c1 k1 : Nat) : (zq_u1 X c k v).1 c1 k1 = if c1 = c ∧ k1 = k then v else X.1 c1 k1 := rfl
theorem zq_g2 (X : zq_M) (c k : Nat) (v : Int64) (c1 k1 : Nat) : (zq_u2 X c k v).2.1 c1 k1 = if c1 = c ∧ k1 = k then v else X.2.1 c1 k1 := rfl
theorem zq_g3 (X : zq_M) (c k : Nat) (v : Option Nat) (c1 k1 : Nat) : (zq_u3 X c k v).2.2 c1 k1 = if c1 = c ∧ k1 = k then v else X.2.2 c1 k1 := rfl
theorem zq_g12 (X : zq_M) (c k : Nat) (v : Int32) : (zq_u1 X c k v).2 = X.2 := rfl
theorem zq_g21 (X : zq_M) (c k : Nat) (v : Int64) : (zq_u2 X c k v).1 = X.1 := rfl
theorem zq_g23 (X : zq_M) (c k : Nat) (v : Int64) : (zq_u2 X c k v).2.2 = X.2.2 := rfl
theorem zq_g31 (X : zq_M) (c k : Nat) (v : Option Nat) : (zq_u3 X c k v).1 = X.1 := rfl
theorem zq_g32 (X : zq_M) (c k : Nat) (v : Option Nat) : (zq_u3 X c k v).2.1 = X.2.1 := rfl
