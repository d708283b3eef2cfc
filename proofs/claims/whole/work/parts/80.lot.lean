abbrev zm (n : Nat) : Int64 := Int64.ofNat n
theorem zm_ti {a : Nat} (h : a < 9223372036854775808) : (zm a).toInt = (a : Int) := Int64.toInt_ofNat_of_lt h
theorem zm_add (a b : Nat) : zm a + zm b = zm (a + b) := (Int64.ofNat_add a b).symm
theorem zm_mul (a b : Nat) : zm a * zm b = zm (a * b) := (Int64.ofNat_mul a b).symm
theorem zm_sub {a b : Nat} (h : b ≤ a) : zm a - zm b = zm (a - b) := (Int64.ofNat_sub a b h).symm
theorem zm_eq {a b : Nat} (ha : a < 9223372036854775808) (hb : b < 9223372036854775808) : (zm a = zm b) = (a = b) := by
  apply propext
  constructor
  · intro h
    have := congrArg Int64.toInt h
    rw [zm_ti ha, zm_ti hb] at this
    omega
  · intro h; rw [h]
theorem zm_div {a b : Nat} (ha : a < 9223372036854775808) (hb : b < 9223372036854775808) : zm a / zm b = zm (a / b) := by
  apply Int64.toInt_inj.mp
  have h2 : a / b ≤ a := Nat.div_le_self _ _
  rw [zm_ti (by omega), Int64.toInt_div, zm_ti ha, zm_ti hb]
  rw [Int.tdiv_eq_ediv_of_nonneg (by omega)]
  rw [← Int.natCast_ediv]
  generalize a / b = c at h2 ⊢
  apply Int.bmod_eq_of_le <;> omega
theorem zm_rem {a b : Nat} (ha : a < 9223372036854775808) (hb : b < 9223372036854775808) : zq_lrem (zm a) (zm b) = zm (a % b) := by
  unfold zq_lrem
  have h3 := Nat.div_mul_le_self a b
  rw [zm_div ha hb, zm_mul, zm_sub h3, Nat.mod_eq_sub_div_mul]
theorem zm_of {a : Nat} (h : a < 2147483648) : (zn a).toInt64 = zm a := by
  apply Int64.toInt_inj.mp
  rw [Int32.toInt_toInt64, zn_ti h, zm_ti (by omega)]
theorem zm_dw {ρ : Type} {a : Nat} {o : Option ρ} (h : a < 9223372036854775808) (h0 : a ≠ 0) : zq_dw (zm a) o = o := by
  unfold zq_dw
  rw [if_neg]
  intro h1
  have h2 : zm a = zm 0 := h1
  rw [zm_eq h (by decide)] at h2
  exact h0 h2
theorem zm_cmp {a : Nat} (h : a < 9223372036854775808) : (lg_cmp (zm a) 0 = 0) = (a = 0) := by
  have e0 : (zm a = 0) = (a = 0) := zm_eq (b := 0) h (by decide)
  have e1 : (zm a > 0) = (0 < a) := by
    apply propext
    show ((0 : Int64) < zm a) ↔ _
    rw [Int64.lt_iff_toInt_lt, zm_ti h]
    show (0 : Int) < _ ↔ _
    omega
  unfold lg_cmp
  simp only [e0, e1]
  by_cases c : a = 0
  · rw [if_neg (by omega), if_pos c]
    simp [c]
  · rw [if_pos (by omega)]
    apply propext
    constructor
    · intro h; exact absurd h (by decide)
    · intro h; exact absurd h c
def zgi (D k a b : Nat) : Prop := Nat.gcd a b = D ∧ 0 < a ∧ a < 2000000000000000000 ∧ b < 2000000000000000000 ∧ (k % 2 = 0 → b * 2 ^ (k / 2) ≤ 2 ^ 61) ∧ (k % 2 = 1 → a * 2 ^ (k / 2) ≤ 2 ^ 61 ∧ b < a)
theorem zgi_s {D k a b : Nat} (h : zgi D k a b) (hb : b ≠ 0) : zgi D (k + 1) b (a % b) := by
  obtain ⟨h1, h2, h3, h4, h5, h6⟩ := h
  have hlt := Nat.mod_lt a (show 0 < b by omega)
  refine ⟨?_, by omega, h4, by omega, fun he => ?_, fun ho => ?_⟩
  · rw [Nat.gcd_comm, ← Nat.gcd_rec, Nat.gcd_comm]; exact h1
  · obtain ⟨k1, k2⟩ := h6 (by omega)
    have h2c : a % b * 2 ≤ a := by
      have h8 := Nat.div_add_mod a b
      have h9 : 1 ≤ a / b := Nat.div_pos (by omega) (by omega)
      have h10 : b * 1 ≤ b * (a / b) := Nat.mul_le_mul_left b h9
      omega
    rw [show (k + 1) / 2 = k / 2 + 1 by omega, Nat.pow_succ, Nat.mul_comm (2 ^ (k / 2)) 2, ← Nat.mul_assoc]
    exact Nat.le_trans (Nat.mul_le_mul_right _ h2c) k1
  · have k1 := h5 (by omega)
    rw [show (k + 1) / 2 = k / 2 by omega]
    exact ⟨k1, hlt⟩
theorem zgi_e {D a b : Nat} (h : zgi D 200 a b) : b = 0 := by
  have h5 := h.2.2.2.2.1 (by decide)
  apply Classical.byContradiction
  intro hb
  have : 1 * 2 ^ (200 / 2) ≤ b * 2 ^ (200 / 2) := Nat.mul_le_mul_right _ (by omega)
  have h2 : (2 : Nat) ^ 61 < 1 * 2 ^ (200 / 2) := by decide
  omega
theorem zgi_0 {a b : Nat} (ha : 0 < a) (hl : a < 2000000000000000000) (hb : b < 2000000000000000000) : zgi (Nat.gcd a b) 0 a b := ⟨rfl, ha, hl, hb, fun _ => by
  have : (2 : Nat) ^ 61 = 2305843009213693952 := by decide
  simp; omega, fun h => by omega⟩
theorem zl_gX {N j a b : Nat} {X : zq_M} (hN : 1100 < N) (ha : 0 < a) (hl : a < 2000000000000000000) (hb : b < 2000000000000000000) : f_X8_greatestDivisor N j X (zm a) (zm b) = some (zm (Nat.gcd a b)) := by
  have q200 : (200 : Int32) = zn 200 := rfl
  unfold f_X8_greatestDivisor
  refine zL (α := Int64 → Int64 → Int32 → Option Int64) (fun (q : Nat × Nat) k g => g (zm q.1) (zm q.2) (zn k)) (fun k q => zgi (Nat.gcd a b) k q.1 q.2) (fun o => o = some (zm (Nat.gcd a b))) 200 ?_ ?_ N 0 (a, b) (by omega) (by omega) (zgi_0 ha hl hb)
  · rintro g k ⟨x, y⟩ hk hi ih
    dsimp only at hi ih ⊢
    have q3 : (zn k : Int32) + 1 = zn (k + 1) := zn_add _ 1
    have h3 := hi.2.2.1
    have h4 := hi.2.2.2.1
    have g1 := zm_cmp (a := y) (by omega)
    have g2 := zm_cmp (a := x) (by omega)
    unfold b_X8_greatestDivisor_9 j_X8_greatestDivisor_45
    rw [q200, if_neg (by rw [zn_le (by omega) (by omega)]; omega)]
    simp only [g1, g2]
    by_cases c : y = 0
    · rw [if_pos c, if_pos (by have := hi.2.1; omega)]
      have := hi.1
      rw [c, Nat.gcd_zero_right] at this
      rw [this]
    · rw [if_neg c, zm_dw (by omega) c, zm_rem (by omega) (by omega), q3]
      exact ih (y, x % y) (zgi_s hi c)
  · rintro g ⟨x, y⟩ hi
    dsimp only at hi ⊢
    have hy := zgi_e hi
    have h3 := hi.2.2.1
    have g2 := zm_cmp (a := x) (by omega)
    unfold b_X8_greatestDivisor_9 j_X8_greatestDivisor_45
    rw [q200, if_pos (by rw [zn_le (by omega) (by omega)]; omega)]
    simp only [g2]
    rw [if_pos (by have := hi.2.1; omega)]
    have := hi.1
    rw [hy, Nat.gcd_zero_right] at this
    rw [this]
theorem zl_gM {N a b : Nat} {M : zq_M} (hN : 1100 < N) (hb0 : 0 < b) (hl : a < 2000000000000000000) (hb : b < 2000000000000000000) : f_X11_divisor N M (zm a) (zm b) = some (zm (Nat.gcd a b)) := by
  unfold f_X11_divisor
  have main : ∀ x y : Nat, 0 < x → x < 2000000000000000000 → y < 2000000000000000000 → ∀ K, 300 < K → zq_loop (fun _ _ => none) b_X11_divisor_6 K (zm x) (zm y) = some (zm (Nat.gcd x y)) := by
    intro x y hx hxl hyl K hK
    refine zL (α := Int64 → Int64 → Option Int64) (fun (q : Nat × Nat) k g => g (zm q.1) (zm q.2)) (fun k q => zgi (Nat.gcd x y) k q.1 q.2) (fun o => o = some (zm (Nat.gcd x y))) 200 ?_ ?_ K 0 (x, y) (by omega) (by omega) (zgi_0 hx hxl hyl)
    · rintro g k ⟨u, v⟩ hk hi ih
      dsimp only at hi ih ⊢
      have h3 := hi.2.2.1
      have h4 := hi.2.2.2.1
      have g1 := zm_cmp (a := v) (by omega)
      unfold b_X11_divisor_6
      simp only [g1]
      by_cases c : v = 0
      · rw [if_pos c]
        have := hi.1
        rw [c, Nat.gcd_zero_right] at this
        rw [this]
      · rw [if_neg c, zm_dw (by omega) c, zm_rem (by omega) (by omega)]
        exact ih (v, u % v) (zgi_s hi c)
    · rintro g ⟨u, v⟩ hi
      dsimp only at hi ⊢
      have hy := zgi_e hi
      have h4 := hi.2.2.2.1
      have g1 := zm_cmp (a := v) (by omega)
      unfold b_X11_divisor_6
      simp only [g1]
      rw [if_pos hy]
      have := hi.1
      rw [hy, Nat.gcd_zero_right] at this
      rw [this]
  by_cases h0 : a = 0
  · obtain ⟨K, rfl⟩ : ∃ K, N = K + 1 := ⟨N - 1, by omega⟩
    show b_X11_divisor_6 _ (zm a) (zm b) = _
    unfold b_X11_divisor_6
    have g1 := zm_cmp (a := b) (by omega)
    simp only [g1]
    rw [if_neg (by omega), zm_dw (by omega) (by omega), zm_rem (by omega) (by omega)]
    refine (main b (a % b) hb0 hb (by have := Nat.mod_lt a hb0; omega) K (by omega)).trans ?_
    rw [Nat.gcd_comm b, ← Nat.gcd_rec, Nat.gcd_comm]
  · exact main a b (by omega) hl hb N (by omega)
