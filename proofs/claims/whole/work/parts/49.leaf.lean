theorem zp_r341 : ∀ r : Nat, r < 4 → ∀ p : Nat, p < 5 → (r * 341).testBit (2 * p) = r.testBit 0 ∧ (r * 341).testBit (2 * p + 1) = r.testBit 1 ∧ (341 : Nat).testBit (2 * p) = true ∧ (341 : Nat).testBit (2 * p + 1) = false := by
  decide
theorem zp_numd {r a p n : Nat} (hr : r < 4) (hp : p < 5) : zs_bit ((((a ^^^ (r * 341)) ||| ((a ^^^ (r * 341)) / 2 ^ 1)) &&& 341) &&& (2 ^ (2 * n) - 1)) (2 * p) = (decide (p < n) && !(a / 4 ^ p % 4 == r)) ∧ zs_bit ((((a ^^^ (r * 341)) ||| ((a ^^^ (r * 341)) / 2 ^ 1)) &&& 341) &&& (2 ^ (2 * n) - 1)) (2 * p + 1) = false := by
  obtain ⟨h1, h2, h3, h4⟩ := zp_r341 r hr p hp
  rw [zs_bt, zs_bt]
  simp only [Nat.testBit_and, Nat.testBit_or, Nat.testBit_xor, Nat.testBit_div_two_pow, Nat.testBit_two_pow_sub_one]
  rw [h1, h2, h3, h4]
  refine ⟨?_, by simp⟩
  have e1 : a.testBit (2 * p) = decide (a / 4 ^ p % 2 = 1) := by
    rw [Nat.testBit_eq_decide_div_mod_eq, Nat.pow_mul]
  have e2 : a.testBit (2 * p + 1) = decide (a / 4 ^ p / 2 % 2 = 1) := by
    rw [Nat.testBit_eq_decide_div_mod_eq, Nat.pow_succ, Nat.pow_mul, Nat.div_div_eq_div_mul]
  rw [e1, e2]
  generalize a / 4 ^ p = y
  have e3 : decide (2 * p < 2 * n) = decide (p < n) := by
    by_cases h : p < n
    · rw [decide_eq_true h, decide_eq_true (by omega)]
    · rw [decide_eq_false h, decide_eq_false (by omega)]
  rw [e3]
  have e4 : ∀ y4 : Nat, y4 < 4 → ∀ r : Nat, r < 4 → (((decide (y4 % 2 = 1) ^^ r.testBit 0) || (decide (y4 / 2 % 2 = 1) ^^ r.testBit 1)) && true) = !(y4 == r) := by decide
  have e5 := e4 (y % 4) (by omega) r hr
  rw [show y % 4 % 2 = y % 2 by omega, show y % 4 / 2 % 2 = y / 2 % 2 by omega] at e5
  rw [e5, Bool.and_comm]
theorem zp_num (n : Nat) (hn : n < 6) (r : Nat) (hr : r < 4) (a : Nat) : zs_cnt (zs_bit ((((a ^^^ (r * 341)) ||| ((a ^^^ (r * 341)) / 2 ^ 1)) &&& 341) &&& (2 ^ (2 * n) - 1))) 10 + zs_cnt (fun p => a / 4 ^ p % 4 == r) n = n := by
  have d0 := zp_numd (a := a) (n := n) (p := 0) hr (by omega)
  have d1 := zp_numd (a := a) (n := n) (p := 1) hr (by omega)
  have d2 := zp_numd (a := a) (n := n) (p := 2) hr (by omega)
  have d3 := zp_numd (a := a) (n := n) (p := 3) hr (by omega)
  have d4 := zp_numd (a := a) (n := n) (p := 4) hr (by omega)
  generalize ((((a ^^^ (r * 341)) ||| ((a ^^^ (r * 341)) / 2 ^ 1)) &&& 341) &&& (2 ^ (2 * n) - 1)) = E at *
  have key : ∀ (f g : Nat → Bool), f 0 = (decide (0 < n) && !(g 0)) ∧ f 1 = false → f 2 = (decide (1 < n) && !(g 1)) ∧ f 3 = false → f 4 = (decide (2 < n) && !(g 2)) ∧ f 5 = false → f 6 = (decide (3 < n) && !(g 3)) ∧ f 7 = false → f 8 = (decide (4 < n) && !(g 4)) ∧ f 9 = false → zs_cnt f 10 + zs_cnt g n = n := by
    intro f g a0 a1 a2 a3 a4
    have h6 : n = 0 ∨ n = 1 ∨ n = 2 ∨ n = 3 ∨ n = 4 ∨ n = 5 := by omega
    show (((((((((((0 + (if f 0 = true then 1 else 0)) + (if f 1 = true then 1 else 0)) + (if f 2 = true then 1 else 0)) + (if f 3 = true then 1 else 0)) + (if f 4 = true then 1 else 0)) + (if f 5 = true then 1 else 0)) + (if f 6 = true then 1 else 0)) + (if f 7 = true then 1 else 0)) + (if f 8 = true then 1 else 0)) + (if f 9 = true then 1 else 0)) + zs_cnt g n) = n
    rw [a0.1, a0.2, a1.1, a1.2, a2.1, a2.2, a3.1, a3.2, a4.1, a4.2]
    clear a0 a1 a2 a3 a4 d0 d1 d2 d3 d4
    rcases h6 with rfl | rfl | rfl | rfl | rfl | rfl <;> simp [zs_cnt, zs_sum] <;> cases g 0 <;> cases g 1 <;> cases g 2 <;> cases g 3 <;> cases g 4 <;> simp
  exact key (zs_bit E) (fun p => a / 4 ^ p % 4 == r) d0 d1 d2 d3 d4
theorem zp_num2 {n r a : Nat} (hn : n ≤ 5) (hr : r < 4) (ha : a < 1024) : n - zs_cnt (zs_bit ((((a ^^^ (r * 341)) ||| ((a ^^^ (r * 341)) / 2 ^ 1)) &&& 341) &&& (2 ^ (2 * n) - 1))) 10 = zp_mn n a r := by
  have := zp_num n (by omega) r hr a
  unfold zp_mn
  omega
theorem zy_nuX {N j : Nat} {X : zq_M} {n r a : Nat} (h0 : X.1 1 0 = zn n) (hn : n ≤ 5) (ha : a < 1024) (hr : r < 4) : f_X6_numberAt N j X (zn a) (zn r) = some (zn (zp_mn n a r)) := by
  unfold f_X6_numberAt
  have q1 : (341 : Int32) = zn 341 := rfl
  have b1 : a ^^^ (r * 341) < 1024 := Nat.xor_lt_two_pow (n := 10) ha (by omega)
  have b2 : ((((a ^^^ (r * 341)) ||| ((a ^^^ (r * 341)) / 2 ^ 1)) &&& 341) &&& (2 ^ (2 * n) - 1)) < 1024 := by
    have := @Nat.and_le_right (((a ^^^ (r * 341)) ||| ((a ^^^ (r * 341)) / 2 ^ 1)) &&& 341) (2 ^ (2 * n) - 1)
    have h4 := zs_p4 hn
    rw [Nat.pow_mul] at this ⊢
    have h5 : (2 ^ 2) ^ n = 4 ^ n := rfl
    have h6 : 0 < 4 ^ n := Nat.pow_pos (by omega)
    omega
  have b3 : 1 ≤ 2 ^ (2 * n) := Nat.pow_pos (by omega)
  have b4 : zs_cnt (zs_bit ((((a ^^^ (r * 341)) ||| ((a ^^^ (r * 341)) / 2 ^ 1)) &&& 341) &&& (2 ^ (2 * n) - 1))) 10 ≤ n := by
    have := zp_num n (by omega) r hr a
    omega
  simp (disch := omega) only [zl_0, zl_1, zl_2, zl_3, zl_4, zl_5, zl_6, zn_ck, zn_ix, zn_add, zn_sub, zn_mul, zn_le, zn_lt, zn_eq, zn_plc1, zn_shl, zn_or, zn_bitc, Option.bind_some, zq_p, zq_b, Nat.one_mul, Nat.zero_add, Nat.add_zero, h0, q1, zn_xor, zn_shr, zn_and]
  rw [zb_c N _ X b2]
  simp (disch := omega) only [zl_0, zl_1, zl_2, zl_3, zl_4, zl_5, zl_6, zn_ck, zn_ix, zn_add, zn_sub, zn_mul, zn_le, zn_lt, zn_eq, zn_plc1, zn_shl, zn_or, zn_bitc, Option.bind_some, zq_p, zq_b, Nat.one_mul, Nat.zero_add, Nat.add_zero]
  rw [zp_num2 hn hr ha]
def zyBX (n : Nat) (B : Nat → Nat → Nat → Bool) (X : zq_M) : Prop := ∀ p r m, p < n → r < 4 → 1 ≤ m → m ≤ n → X.1 40 ((p * 4 + r) * 5 + m - 1) = zn (if B p r m = true then 1 else 0)
def zyPX (n : Nat) (P : Nat → Nat → Nat → Nat) (X : zq_M) : Prop := ∀ p r m, p < n → r < 4 → 1 ≤ m → m ≤ n → X.1 39 ((p * 4 + r) * 5 + m - 1) = zn (P p r m)
def zyBM (n : Nat) (B : Nat → Nat → Nat → Bool) (M : zq_M) : Prop := ∀ p r m, p < n → r < 4 → 1 ≤ m → m ≤ n → M.1 86 (24 * p + 6 * r + m) = zn (if B p r m = true then 1 else 0)
def zyPM (n : Nat) (P : Nat → Nat → Nat → Nat) (M : zq_M) : Prop := ∀ p r m, p < n → r < 4 → 1 ≤ m → m ≤ n → M.1 85 (24 * p + 6 * r + m) = zn (P p r m)
theorem zp_b01 (b : Bool) : (if ¬ zn (if b = true then 1 else 0) = zn 0 then some (zn 0) else some (zn 1)) = some (if (!b) = true then (1 : Int32) else 0) := by
  cases b <;> rfl
theorem zy_mcX {N j : Nat} {X : zq_M} {n r p a : Nat} {B : Nat → Nat → Nat → Bool} (h0 : X.1 1 0 = zn n) (hn : n ≤ 5) (hB : zyBX n B X) (ha : a < 1024) (hp : p < n) (hr : r < 4) : f_X6_mayCome N j X (zn a) (zn p) (zn r) = some (if zp_may n B a p r = true then 1 else 0) := by
  unfold f_X6_mayCome
  rw [zy_nuX h0 hn ha hr]
  unfold f_X6_slotOf zp_may
  have b : (zn (a / 4 ^ p % 4) = zn r) = (a / 4 ^ p % 4 = r) := zn_eq (by omega) (by omega)
  rw [zn_plc (by omega) (by omega)]
  simp only [b]
  by_cases hc : a / 4 ^ p % 4 = r
  · rw [show (a / 4 ^ p % 4 == r) = true by simp [hc], if_pos hc]
    rfl
  · have hcb : (a / 4 ^ p % 4 == r) = false := by simpa using hc
    have hl := zp_mnl (n := n) hp hc
    have hb := hB p r (zp_mn n a r + 1) hp hr (by omega) (by omega)
    have e : (p * 4 + r) * 5 + (zp_mn n a r + 1) - 1 < 100 := by omega
    rw [if_neg hc, hcb]
    simp (disch := omega) only [zl_0, zl_1, zl_2, zl_3, zl_4, zl_5, zl_6, zn_ck, zn_ix, zn_add, zn_sub, zn_mul, zn_le, zn_lt, zn_eq, zn_plc1, zn_shl, zn_or, zn_bitc, Option.bind_some, zq_p, zq_b, Nat.one_mul, Nat.zero_add, Nat.add_zero, hb, zp_b01]
    rfl
theorem zy_prX {N j : Nat} {X : zq_M} {n r p a : Nat} {P : Nat → Nat → Nat → Nat} (h0 : X.1 1 0 = zn n) (hn : n ≤ 5) (hP : zyPX n P X) (ha : a < 1024) (hp : p < n) (hr : r < 4) (hc : ¬ a / 4 ^ p % 4 = r) : f_X6_priceFrom N j X (zn a) (zn p) (zn r) = some (zn (P p r (zp_mn n a r + 1))) := by
  unfold f_X6_priceFrom
  rw [zy_nuX h0 hn ha hr]
  unfold f_X6_slotOf
  have hl := zp_mnl (n := n) hp hc
  have hb := hP p r (zp_mn n a r + 1) hp hr (by omega) (by omega)
  have e : (p * 4 + r) * 5 + (zp_mn n a r + 1) - 1 < 100 := by omega
  simp (disch := omega) only [zl_0, zl_1, zl_2, zl_3, zl_4, zl_5, zl_6, zn_ck, zn_ix, zn_add, zn_sub, zn_mul, zn_le, zn_lt, zn_eq, zn_plc1, zn_shl, zn_or, zn_bitc, Option.bind_some, zq_p, zq_b, Nat.one_mul, Nat.zero_add, Nat.add_zero, hb]
theorem zy_coM {N : Nat} {M : zq_M} {n r p a : Nat} (hN : 7 < N) (h0 : M.1 69 0 = zn n) (hn : n ≤ 5) (ha : a < 1024) (hr : r < 4) : f_X11_comingOf N M (zn a) (zn p) (zn r) = some (zn (24 * p + 6 * r + (zp_mn n a r + 1))) := by
  unfold f_X11_comingOf
  have q1 : (24 : Int32) = zn 24 := rfl
  rw [zy_mnM hN h0 hn ha hr]
  simp (disch := omega) only [zl_0, zl_1, zl_2, zl_3, zl_4, zl_5, zl_6, zn_ck, zn_ix, zn_add, zn_sub, zn_mul, zn_le, zn_lt, zn_eq, zn_plc1, zn_shl, zn_or, zn_bitc, Option.bind_some, zq_p, zq_b, Nat.one_mul, Nat.zero_add, Nat.add_zero, q1]
  rw [Nat.add_assoc]
theorem zy_mcM {N : Nat} {M : zq_M} {n r p a : Nat} {B : Nat → Nat → Nat → Bool} (hN : 7 < N) (h0 : M.1 69 0 = zn n) (hn : n ≤ 5) (hB : zyBM n B M) (ha : a < 1024) (hp : p < n) (hr : r < 4) : f_X11_mayCome N M (zn a) (zn p) (zn r) = some (if zp_may n B a p r = true then 1 else 0) := by
  unfold f_X11_mayCome
  rw [zy_plM N M (by omega) ha, zy_coM hN h0 hn ha hr]
  unfold zp_may
  by_cases hc : a / 4 ^ p % 4 = r
  · rw [show (a / 4 ^ p % 4 == r) = true by simp [hc]]
    simp (disch := omega) only [zl_0, zl_1, zl_2, zl_3, zl_4, zl_5, zl_6, zn_ck, zn_ix, zn_add, zn_sub, zn_mul, zn_le, zn_lt, zn_eq, zn_plc1, zn_shl, zn_or, zn_bitc, Option.bind_some, zq_p, zq_b, Nat.one_mul, Nat.zero_add, Nat.add_zero, hc, if_true]
    rfl
  · have hcb : (a / 4 ^ p % 4 == r) = false := by simpa using hc
    have hl := zp_mnl (n := n) hp hc
    have hb := hB p r (zp_mn n a r + 1) hp hr (by omega) (by omega)
    simp (disch := omega) only [zl_0, zl_1, zl_2, zl_3, zl_4, zl_5, zl_6, zn_ck, zn_ix, zn_add, zn_sub, zn_mul, zn_le, zn_lt, zn_eq, zn_plc1, zn_shl, zn_or, zn_bitc, Option.bind_some, zq_p, zq_b, Nat.one_mul, Nat.zero_add, Nat.add_zero, hc, if_false, hb]
    rw [hcb]
    cases B p r (zp_mn n a r + 1) <;> rfl
theorem zy_all {N j : Nat} {X : zq_M} {h n : Nat} (h0 : X.1 h 0 = zn n) (hn : n ≤ 5) : f_X5_everybody N j X h = some (zn (2 ^ n - 1)) := by
  unfold f_X5_everybody
  have b3 : 1 ≤ 2 ^ n := Nat.pow_pos (by omega)
  simp (disch := omega) only [zl_0, zl_1, zl_2, zl_3, zl_4, zl_5, zl_6, zn_ck, zn_ix, zn_add, zn_sub, zn_mul, zn_le, zn_lt, zn_eq, zn_plc1, zn_shl, zn_or, zn_bitc, Option.bind_some, zq_p, zq_b, Nat.one_mul, Nat.zero_add, Nat.add_zero, h0]
theorem zy_knX {N j : Nat} {X : zq_M} {h p t : Nat} {K : Nat → Nat} (hp : p < 5) (ht : t < 8) (hK : X.1 (h + 4) p = zn (K p)) (hl : K p < 256) : f_X5_isKnown N j X h (zn p) (zn t) = some (if zs_bit (K p) t = true then 1 else 0) := by
  unfold f_X5_isKnown
  simp (disch := omega) only [zl_0, zl_1, zl_2, zl_3, zl_4, zl_5, zl_6, zn_ck, zn_ix, zn_add, zn_sub, zn_mul, zn_le, zn_lt, zn_eq, zn_plc1, zn_shl, zn_or, zn_bitc, Option.bind_some, zq_p, zq_b, Nat.one_mul, Nat.zero_add, Nat.add_zero, hK]
  cases zs_bit (K p) t <;> rfl
theorem zy_wkX {N j : Nat} {X : zq_M} {h n t : Nat} {K : Nat → Nat} (hN : 7 < N) (h0 : X.1 h 0 = zn n) (hn : n ≤ 5) (ht : t < 8) (hK : ∀ i, i < 5 → X.1 (h + 4) i = zn (K i)) (hl : ∀ i, i < 5 → K i < 256) : f_X5_whoKnows N j X h (zn t) = some (zn (zs_set (fun p => zs_bit (K p) t) n)) := by
  unfold f_X5_whoKnows
  refine zL (α := Int32 → Int32 → Option Int32) (fun (_ : Unit) k f => f (zn (zs_set (fun p => zs_bit (K p) t) k)) (zn k)) (fun _ _ => True) (fun o => o = some (zn (zs_set (fun p => zs_bit (K p) t) n))) n ?_ ?_ N 0 () (by omega) (by omega) trivial
  · intro f k _ hk _ ih
    have ih := ih () trivial
    unfold b_X5_whoKnows_4
    rw [zy_knX (by omega) ht (hK k (by omega)) (hl k (by omega))]
    simp (disch := omega) only [zl_0, zl_1, zl_2, zl_3, zl_4, zl_5, zl_6, zn_ck, zn_ix, zn_add, zn_sub, zn_mul, zn_le, zn_lt, zn_eq, zn_plc1, zn_shl, zn_or, zn_bitc, Option.bind_some, zq_p, zq_b, Nat.one_mul, Nat.zero_add, Nat.add_zero, h0, zs_or]
    rw [if_neg (by omega)]
    by_cases hc : zs_bit (K k) t = true
    · rw [zs_st (p := fun p => zs_bit (K p) t) (n := k) hc] at ih
      simp (disch := omega) only [zl_0, zl_1, zl_2, zl_3, zl_4, zl_5, zl_6, zn_ck, zn_ix, zn_add, zn_sub, zn_mul, zn_le, zn_lt, zn_eq, zn_plc1, zn_shl, zn_or, zn_bitc, Option.bind_some, zq_p, zq_b, Nat.one_mul, Nat.zero_add, Nat.add_zero, hc, if_true, zs_or]
      exact ih
    · rw [zs_sf (p := fun p => zs_bit (K p) t) (n := k) hc] at ih
      simp only [Bool.not_eq_true] at hc
      simp (disch := omega) only [zl_0, zl_1, zl_2, zl_3, zl_4, zl_5, zl_6, zn_ck, zn_ix, zn_add, zn_sub, zn_mul, zn_le, zn_lt, zn_eq, zn_plc1, zn_shl, zn_or, zn_bitc, Option.bind_some, zq_p, zq_b, Nat.one_mul, Nat.zero_add, Nat.add_zero, hc, if_false, if_true, Bool.false_eq_true]; exact ih
  · intro f _ _
    unfold b_X5_whoKnows_4
    simp (disch := omega) only [zl_0, zl_1, zl_2, zl_3, zl_4, zl_5, zl_6, zn_ck, zn_ix, zn_add, zn_sub, zn_mul, zn_le, zn_lt, zn_eq, zn_plc1, zn_shl, zn_or, zn_bitc, Option.bind_some, zq_p, zq_b, Nat.one_mul, Nat.zero_add, Nat.add_zero, h0]
    rw [if_pos (by omega)]
theorem zp_or {a b k : Nat} (h : a < 4 ^ k) : a ||| b * 2 ^ (2 * k) = a + b * 4 ^ k := by
  rw [Nat.pow_mul]
  have h5 : (2 ^ 2) ^ k = 4 ^ k := rfl
  rw [h5]
  have h6 : 4 ^ k = 2 ^ (2 * k) := by rw [Nat.pow_mul]
  have := Nat.two_pow_add_eq_or_of_lt (i := 2 * k) (by rw [← h6]; exact h) b
  rw [← h6] at this
  rw [Nat.or_comm, Nat.mul_comm b, ← this, Nat.add_comm]
def zp_pk (f : Nat → Nat) (k : Nat) : Nat := zs_sum (fun i => f i * 4 ^ i) k
theorem zp_pkl {f : Nat → Nat} (h : ∀ i, i < 5 → f i < 4) : ∀ k, k ≤ 5 → zp_pk f k < 4 ^ k := by
  intro k
  induction k with
  | zero => intro _; exact Nat.one_pos
  | succ k ih =>
    intro hk
    have h1 := ih (by omega)
    have h2 := h k (by omega)
    show zp_pk f k + f k * 4 ^ k < 4 ^ (k + 1)
    rw [Nat.pow_succ]
    have h3 : f k * 4 ^ k ≤ 3 * 4 ^ k := Nat.mul_le_mul_right _ (by omega)
    omega
theorem zp_pkn {f : Nat → Nat} {n : Nat} (hn : n ≤ 5) (h : ∀ i, i < 5 → n ≤ i → f i = 0) : zp_pk f n = zv_pk f := by
  have h6 : n = 0 ∨ n = 1 ∨ n = 2 ∨ n = 3 ∨ n = 4 ∨ n = 5 := by omega
  have h0 := h 0 (by omega)
  have h1 := h 1 (by omega)
  have h2 := h 2 (by omega)
  have h3 := h 3 (by omega)
  have h4 := h 4 (by omega)
  unfold zp_pk zv_pk
  rcases h6 with rfl | rfl | rfl | rfl | rfl | rfl <;> simp [zs_sum] at h0 h1 h2 h3 h4 ⊢ <;> omega
theorem zy_pkX {N j : Nat} {X : zq_M} {n : Nat} {P : Nat → Nat} (hN : 7 < N) (h0 : X.1 1 0 = zn n) (hn : n ≤ 5) (hp : ∀ i, i < 5 → X.1 4 i = zn (P i)) (hP : ∀ i, i < 5 → P i < 4) (hz : ∀ i, i < 5 → n ≤ i → P i = 0) : f_X6_packedNow N j X = some (zn (zv_pk P)) := by
  unfold f_X6_packedNow
  rw [← zp_pkn hn hz]
  refine zL (α := Int32 → Int32 → Option Int32) (fun (_ : Unit) k f => f (zn (zp_pk P k)) (zn k)) (fun _ _ => True) (fun o => o = some (zn (zp_pk P n))) n ?_ ?_ N 0 () (by omega) (by omega) trivial
  · intro f k _ hk _ ih
    have ih := ih () trivial
    have hl := zp_pkl hP k (by omega)
    unfold b_X6_packedNow_4
    simp (disch := omega) only [zl_0, zl_1, zl_2, zl_3, zl_4, zl_5, zl_6, zn_ck, zn_ix, zn_add, zn_sub, zn_mul, zn_le, zn_lt, zn_eq, zn_plc1, zn_shl, zn_or, zn_bitc, Option.bind_some, zq_p, zq_b, Nat.one_mul, Nat.zero_add, Nat.add_zero, h0, hp k (by omega), zp_or hl]
    rw [if_neg (by omega)]
    exact ih
  · intro f _ _
    unfold b_X6_packedNow_4
    simp (disch := omega) only [zl_0, zl_1, zl_2, zl_3, zl_4, zl_5, zl_6, zn_ck, zn_ix, zn_add, zn_sub, zn_mul, zn_le, zn_lt, zn_eq, zn_plc1, zn_shl, zn_or, zn_bitc, Option.bind_some, zq_p, zq_b, Nat.one_mul, Nat.zero_add, Nat.add_zero, h0]
    rw [if_pos (by omega)]
theorem zp_pk0 {f : Nat → Nat} {n : Nat} (hn : n ≤ 5) (h : ∀ i, i < 5 → f i < 4) (hz : ∀ i, i < 5 → n ≤ i → f i = 0) : zv_pk f < 4 ^ n := by
  rw [← zp_pkn hn hz]
  exact zp_pkl h n hn
