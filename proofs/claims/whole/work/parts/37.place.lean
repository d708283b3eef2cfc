def zv_set (f : Nat → Nat) (i v : Nat) : Nat → Nat := fun k => if k = i then v else f k
theorem zv_pk_lt {f : Nat → Nat} (h : ∀ i, i < 5 → f i < 4) : zv_pk f < 1024 := by
  have h0 := h 0 (by omega)
  have h1 := h 1 (by omega)
  have h2 := h 2 (by omega)
  have h3 := h 3 (by omega)
  have h4 := h 4 (by omega)
  unfold zv_pk
  omega
theorem zv_pk_at {f : Nat → Nat} (h : ∀ i, i < 5 → f i < 4) {i : Nat} (hi : i < 5) : zv_pk f / 4 ^ i % 4 = f i := by
  have h0 := h 0 (by omega)
  have h1 := h 1 (by omega)
  have h2 := h 2 (by omega)
  have h3 := h 3 (by omega)
  have h4 := h 4 (by omega)
  have : i = 0 ∨ i = 1 ∨ i = 2 ∨ i = 3 ∨ i = 4 := by omega
  unfold zv_pk
  rcases this with rfl | rfl | rfl | rfl | rfl <;> simp <;> omega
theorem zv_pk_set {f : Nat → Nat} (h : ∀ i, i < 5 → f i < 4) {i v : Nat} (hi : i < 5) : zv_pk f - f i * 4 ^ i + v * 4 ^ i = zv_pk (zv_set f i v) := by
  have : i = 0 ∨ i = 1 ∨ i = 2 ∨ i = 3 ∨ i = 4 := by omega
  unfold zv_pk zv_set
  rcases this with rfl | rfl | rfl | rfl | rfl <;> simp <;> omega
theorem zn_mv {f : Nat → Nat} (h : ∀ i, i < 5 → f i < 4) {i v : Nat} (hi : i < 5) (hv : v < 4) : ((zn (zv_pk f) &&& ((zq_shl (3 : Int32) ((2 : Int32) * zn i)) ^^^ (-1 : Int32))) ||| (zq_shl (zn v) ((2 : Int32) * zn i))) = zn (zv_pk (zv_set f i v)) := by
  rw [zn_mvd i hi v hv _ (zv_pk_lt h), zv_pk_at h hi, zv_pk_set h hi]
