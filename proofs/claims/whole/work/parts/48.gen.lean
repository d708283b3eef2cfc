theorem zL {α β σ : Type} {bot : α} {body : α → α} (ap : σ → Nat → α → β) (P : Nat → σ → Prop) (Q : β → Prop) (n : Nat)
    (h : ∀ (r : α) (k : Nat) (s : σ), k < n → P k s → (∀ s', P (k + 1) s' → Q (ap s' (k + 1) r)) → Q (ap s k (body r)))
    (he : ∀ (r : α) (s : σ), P n s → Q (ap s n (body r))) :
    ∀ (N k : Nat) (s : σ), k ≤ n → n < N + k → P k s → Q (ap s k (zq_loop bot body N)) := by
  intro N
  induction N with
  | zero => intro k s h1 h2; omega
  | succ N ih =>
    intro k s h1 h2 hp
    show Q (ap s k (body (zq_loop bot body N)))
    by_cases hk : k = n
    · subst hk; exact he _ s hp
    · exact h _ k s (by omega) hp (fun s' hs' => ih (k + 1) s' (by omega) (by omega) hs')
theorem zl_0 : (0 : Int32) = zn 0 := rfl
theorem zl_1 : (1 : Int32) = zn 1 := rfl
theorem zl_2 : (2 : Int32) = zn 2 := rfl
theorem zl_3 : (3 : Int32) = zn 3 := rfl
theorem zl_4 : (4 : Int32) = zn 4 := rfl
theorem zl_5 : (5 : Int32) = zn 5 := rfl
theorem zl_6 : (6 : Int32) = zn 6 := rfl
theorem zn_plc1 {w i : Nat} (hw : w < 2147483648) (hi : i < 5) : zq_shr (zn w) (zn (2 * i)) &&& zn 3 = zn (w / 4 ^ i % 4) := by
  rw [← zn_2m]; exact zn_plc hw hi
theorem zn_bitc {a k : Nat} (ha : a < 2147483648) (hk : k < 32) : (zq_shr (zn a) (zn k) &&& zn 1 = zn 1) = (zs_bit a k = true) := zn_bit ha hk
theorem zs_st {p : Nat → Bool} {n : Nat} (h : p n = true) : zs_set p (n + 1) = zs_set p n + 2 ^ n := by
  show zs_set p n + (if p n = true then 2 ^ n else 0) = _
  rw [if_pos h]
theorem zs_sf {p : Nat → Bool} {n : Nat} (h : ¬ p n = true) : zs_set p (n + 1) = zs_set p n := by
  show zs_set p n + (if p n = true then 2 ^ n else 0) = _
  rw [if_neg h]; rfl
theorem zs_ct {p : Nat → Bool} {n : Nat} (h : p n = true) : zs_cnt p (n + 1) = zs_cnt p n + 1 := by
  show zs_cnt p n + (if p n = true then 1 else 0) = _
  rw [if_pos h]
theorem zs_cf {p : Nat → Bool} {n : Nat} (h : ¬ p n = true) : zs_cnt p (n + 1) = zs_cnt p n := by
  show zs_cnt p n + (if p n = true then 1 else 0) = _
  rw [if_neg h]; rfl
theorem zs_cle (p : Nat → Bool) (n : Nat) : zs_cnt p n ≤ n := by
  induction n with
  | zero => exact Nat.le_refl _
  | succ n ih =>
    by_cases h : p n = true
    · rw [zs_ct h]; omega
    · rw [zs_cf h]; omega
theorem zs_clt {p : Nat → Bool} {n k : Nat} (hk : k < n) (h : ¬ p k = true) : zs_cnt p n < n := by
  induction n with
  | zero => omega
  | succ n ih =>
    by_cases hn : k = n
    · subst hn
      rw [zs_cf h]
      have := zs_cle p k
      omega
    · have := ih (by omega)
      by_cases h : p n = true
      · rw [zs_ct h]; omega
      · rw [zs_cf h]; omega
theorem zs_cpos {p : Nat → Bool} {n k : Nat} (hk : k < n) (h : p k = true) : 0 < zs_cnt p n := by
  induction n with
  | zero => omega
  | succ n ih =>
    by_cases hn : k = n
    · subst hn
      rw [zs_ct h]
      omega
    · have := ih (by omega)
      by_cases h : p n = true
      · rw [zs_ct h]; omega
      · rw [zs_cf h]; omega
theorem zs_ccg {p q : Nat → Bool} {n : Nat} (h : ∀ k, k < n → p k = q k) : zs_cnt p n = zs_cnt q n := by
  induction n with
  | zero => rfl
  | succ n ih =>
    have h1 := ih (fun k hk => h k (by omega))
    have h2 := h n (by omega)
    by_cases hp : p n = true
    · rw [zs_ct hp, zs_ct (h2 ▸ hp), h1]
    · rw [zs_cf hp, zs_cf (h2 ▸ hp), h1]
theorem zs_scg {p q : Nat → Bool} {n : Nat} (h : ∀ k, k < n → p k = q k) : zs_set p n = zs_set q n := by
  induction n with
  | zero => rfl
  | succ n ih =>
    have h1 := ih (fun k hk => h k (by omega))
    have h2 := h n (by omega)
    by_cases hp : p n = true
    · rw [zs_st hp, zs_st (h2 ▸ hp), h1]
    · rw [zs_sf hp, zs_sf (h2 ▸ hp), h1]
theorem zs_l32 (p : Nat → Bool) {n : Nat} (h : n ≤ 5) : zs_set p n < 32 := by
  have h1 := zs_lt p n
  have h2 : 2 ^ n ≤ 2 ^ 5 := Nat.pow_le_pow_right (by omega) h
  omega
theorem zs_bset (p : Nat → Bool) {n k : Nat} (h : k < n) : zs_bit (zs_set p n) k = p k := by
  rw [zs_bt, zs_tb]
  simp [h]
theorem zs_bset2 (p : Nat → Bool) {n k : Nat} (h : n ≤ k) : zs_bit (zs_set p n) k = false := by
  rw [zs_bt, zs_tb]
  have : ¬ k < n := by omega
  simp [this]
theorem zs_ext {a b : Nat} (h : ∀ k, zs_bit a k = zs_bit b k) : a = b := by
  apply Nat.eq_of_testBit_eq
  intro i
  rw [← zs_bt, ← zs_bt]
  exact h i
theorem zs_bout {a n k : Nat} (ha : a < 2 ^ n) (h : n ≤ k) : zs_bit a k = false := by
  rw [zs_bt]
  apply Nat.testBit_lt_two_pow
  have : 2 ^ n ≤ 2 ^ k := Nat.pow_le_pow_right (by omega) h
  omega
theorem zs_self {a n : Nat} (ha : a < 2 ^ n) : zs_set (zs_bit a) n = a := by
  apply zs_ext
  intro k
  by_cases hk : k < n
  · rw [zs_bset _ hk]
  · rw [zs_bset2 _ (by omega), zs_bout ha (by omega)]
theorem zs_cext (p : Nat → Bool) {n : Nat} (hn : n ≤ 10) : zs_cnt (zs_bit (zs_set p n)) 10 = zs_cnt p n := by
  have : ∀ m, zs_cnt (zs_bit (zs_set p n)) (n + m) = zs_cnt p n := by
    intro m
    induction m with
    | zero => exact zs_ccg (fun k hk => zs_bset p hk)
    | succ m ih =>
      rw [show n + (m + 1) = n + m + 1 from rfl, zs_cf (by rw [zs_bset2 p (by omega)]; decide), ih]
  have h := this (10 - n)
  rw [show n + (10 - n) = 10 by omega] at h
  exact h
theorem zs_p2 {n : Nat} (h : n ≤ 5) : 2 ^ n ≤ 32 := by
  have h2 : 2 ^ n ≤ 2 ^ 5 := Nat.pow_le_pow_right (by omega) h
  omega
theorem zs_p4 {n : Nat} (h : n ≤ 5) : 4 ^ n ≤ 1024 := by
  have h2 : 4 ^ n ≤ 4 ^ 5 := Nat.pow_le_pow_right (by omega) h
  omega
def zp_mv (a p r : Nat) : Nat := a - a / 4 ^ p % 4 * 4 ^ p + r * 4 ^ p
def zp_mn (n a r : Nat) : Nat := zs_cnt (fun p => a / 4 ^ p % 4 == r) n
def zp_may (n : Nat) (B : Nat → Nat → Nat → Bool) (a p r : Nat) : Bool := !(a / 4 ^ p % 4 == r) && !(B p r (zp_mn n a r + 1))
theorem zp_5 {p : Nat} (h : p < 5) : p = 0 ∨ p = 1 ∨ p = 2 ∨ p = 3 ∨ p = 4 := by omega
theorem zp_dig {a p r q : Nat} (hp : p < 5) (hr : r < 4) (hq : q < 5) : zp_mv a p r / 4 ^ q % 4 = if q = p then r else a / 4 ^ q % 4 := by
  unfold zp_mv
  rcases zp_5 hp with rfl | rfl | rfl | rfl | rfl <;> rcases zp_5 hq with rfl | rfl | rfl | rfl | rfl <;> simp <;> omega
theorem zp_mlt {n a p r : Nat} (hn : n ≤ 5) (ha : a < 4 ^ n) (hp : p < n) (hr : r < 4) : zp_mv a p r < 4 ^ n := by
  have h6 : n = 0 ∨ n = 1 ∨ n = 2 ∨ n = 3 ∨ n = 4 ∨ n = 5 := by omega
  unfold zp_mv
  rcases h6 with rfl | rfl | rfl | rfl | rfl | rfl <;> rcases zp_5 (show p < 5 by omega) with rfl | rfl | rfl | rfl | rfl <;> simp at ha hp ⊢ <;> omega
theorem zp_mnl {n a p r : Nat} (hp : p < n) (h : ¬ a / 4 ^ p % 4 = r) : zp_mn n a r < n := zs_clt hp (by simpa using h)
theorem zn_mvd1 {a p r : Nat} (hp : p < 5) (hr : r < 4) (ha : a < 1024) : ((zn a &&& ((zq_shl (3 : Int32) ((2 : Int32) * zn p)) ^^^ (-1 : Int32))) ||| (zq_shl (zn r) ((2 : Int32) * zn p))) = zn (zp_mv a p r) := zn_mvd p hp r hr a ha
theorem zy_mvX (N j : Nat) (X : zq_M) {a p r : Nat} (hp : p < 5) (hr : r < 4) (ha : a < 1024) : f_X6_moved N j X (zn a) (zn p) (zn r) = some (zn (zp_mv a p r)) := by
  unfold f_X6_moved
  rw [zn_mvd1 hp hr ha]
theorem zy_mvM (N : Nat) (M : zq_M) {a p r : Nat} (hp : p < 5) (hr : r < 4) (ha : a < 1024) : f_X11_moved N M (zn a) (zn p) (zn r) = some (zn (zp_mv a p r)) := by
  unfold f_X11_moved
  rw [zn_mvd1 hp hr ha]
theorem zy_plM (N : Nat) (M : zq_M) {a p : Nat} (hp : p < 5) (ha : a < 1024) : f_X11_placeOf N M (zn a) (zn p) = some (zn (a / 4 ^ p % 4)) := by
  unfold f_X11_placeOf
  rw [zn_plc (by omega) hp]
theorem zy_hasM (N : Nat) (M : zq_M) {a p : Nat} (hp : p < 32) (ha : a < 2147483648) : f_X11_has N M (zn a) (zn p) = some (if zs_bit a p = true then 1 else 0) := by
  unfold f_X11_has
  simp (disch := omega) only [zl_0, zl_1, zl_2, zl_3, zl_4, zl_5, zl_6, zn_ck, zn_ix, zn_add, zn_sub, zn_mul, zn_le, zn_lt, zn_eq, zn_plc1, zn_shl, zn_or, zn_bitc, Option.bind_some, zq_p, zq_b, Nat.one_mul, Nat.zero_add, Nat.add_zero]
  cases zs_bit a p <;> rfl
theorem zy_who {N j : Nat} {X : zq_M} {h n r : Nat} {P : Nat → Nat} (hN : 7 < N) (h0 : X.1 h 0 = zn n) (hn : n ≤ 5) (hp : ∀ i, i < 5 → X.1 (h + 3) i = zn (P i)) (hP : ∀ i, i < 5 → P i < 4) (hr : r < 4) : f_X5_whoIsAt N j X h (zn r) = some (zn (zs_set (fun p => P p == r) n)) := by
  unfold f_X5_whoIsAt
  refine zL (α := Int32 → Int32 → Option Int32) (fun (_ : Unit) k f => f (zn (zs_set (fun p => P p == r) k)) (zn k)) (fun _ _ => True) (fun o => o = some (zn (zs_set (fun p => P p == r) n))) n ?_ ?_ N 0 () (by omega) (by omega) trivial
  · intro f k _ hk _ ih
    have ih := ih () trivial
    have hP := hP k (by omega)
    unfold b_X5_whoIsAt_4
    simp (disch := omega) only [zl_0, zl_1, zl_2, zl_3, zl_4, zl_5, zl_6, zn_ck, zn_ix, zn_add, zn_sub, zn_mul, zn_le, zn_lt, zn_eq, zn_plc1, zn_shl, zn_or, zn_bitc, Option.bind_some, zq_p, zq_b, Nat.one_mul, Nat.zero_add, Nat.add_zero, h0, hp k (by omega), zs_or]
    rw [if_neg (by omega)]
    by_cases hc : P k = r
    · rw [zs_st (by simp [hc])] at ih
      simp only [hc, not_true, if_false]; exact ih
    · rw [zs_sf (by simp [hc])] at ih
      simp only [hc, not_false_iff, if_true]; exact ih
  · intro f _ _
    unfold b_X5_whoIsAt_4
    simp (disch := omega) only [zl_0, zl_1, zl_2, zl_3, zl_4, zl_5, zl_6, zn_ck, zn_ix, zn_add, zn_sub, zn_mul, zn_le, zn_lt, zn_eq, zn_plc1, zn_shl, zn_or, zn_bitc, Option.bind_some, zq_p, zq_b, Nat.one_mul, Nat.zero_add, Nat.add_zero, h0]
    rw [if_pos (by omega)]
theorem zy_whk {N j : Nat} {X : zq_M} {n r a : Nat} (hN : 7 < N) (h0 : X.1 1 0 = zn n) (hn : n ≤ 5) (ha : a < 1024) (hr : r < 4) : f_X6_whoIsAt N j X (zn a) (zn r) = some (zn (zs_set (fun p => a / 4 ^ p % 4 == r) n)) := by
  unfold f_X6_whoIsAt
  refine zL (α := Int32 → Int32 → Option Int32) (fun (_ : Unit) k f => f (zn (zs_set (fun p => a / 4 ^ p % 4 == r) k)) (zn k)) (fun _ _ => True) (fun o => o = some (zn (zs_set (fun p => a / 4 ^ p % 4 == r) n))) n ?_ ?_ N 0 () (by omega) (by omega) trivial
  · intro f k _ hk _ ih
    have ih := ih () trivial
    unfold b_X6_whoIsAt_5
    simp (disch := omega) only [zl_0, zl_1, zl_2, zl_3, zl_4, zl_5, zl_6, zn_ck, zn_ix, zn_add, zn_sub, zn_mul, zn_le, zn_lt, zn_eq, zn_plc1, zn_shl, zn_or, zn_bitc, Option.bind_some, zq_p, zq_b, Nat.one_mul, Nat.zero_add, Nat.add_zero, h0, zs_or]
    rw [if_neg (by omega)]
    by_cases hc : a / 4 ^ k % 4 = r
    · rw [zs_st (by simp [hc])] at ih
      simp only [hc, not_true, if_false]; exact ih
    · rw [zs_sf (by simp [hc])] at ih
      simp only [hc, not_false_iff, if_true]; exact ih
  · intro f _ _
    unfold b_X6_whoIsAt_5
    simp (disch := omega) only [zl_0, zl_1, zl_2, zl_3, zl_4, zl_5, zl_6, zn_ck, zn_ix, zn_add, zn_sub, zn_mul, zn_le, zn_lt, zn_eq, zn_plc1, zn_shl, zn_or, zn_bitc, Option.bind_some, zq_p, zq_b, Nat.one_mul, Nat.zero_add, Nat.add_zero, h0]
    rw [if_pos (by omega)]
theorem zy_mnM {N : Nat} {M : zq_M} {n r a : Nat} (hN : 7 < N) (h0 : M.1 69 0 = zn n) (hn : n ≤ 5) (ha : a < 1024) (hr : r < 4) : f_X11_manyIn N M (zn a) (zn r) = some (zn (zp_mn n a r)) := by
  unfold f_X11_manyIn zp_mn
  refine zL (α := Int32 → Int32 → Option Int32) (fun (_ : Unit) k f => f (zn (zs_cnt (fun p => a / 4 ^ p % 4 == r) k)) (zn k)) (fun _ _ => True) (fun o => o = some (zn (zs_cnt (fun p => a / 4 ^ p % 4 == r) n))) n ?_ ?_ N 0 () (by omega) (by omega) trivial
  · intro f k _ hk _ ih
    have ih := ih () trivial
    unfold b_X11_manyIn_5
    simp (disch := omega) only [zl_0, zl_1, zl_2, zl_3, zl_4, zl_5, zl_6, zn_ck, zn_ix, zn_add, zn_sub, zn_mul, zn_le, zn_lt, zn_eq, zn_plc1, zn_shl, zn_or, zn_bitc, Option.bind_some, zq_p, zq_b, Nat.one_mul, Nat.zero_add, Nat.add_zero, h0, zy_plM]
    rw [if_neg (by omega)]
    by_cases hc : a / 4 ^ k % 4 = r
    · rw [zs_ct (by simp [hc])] at ih
      simp only [hc, not_true, if_false]; exact ih
    · rw [zs_cf (by simp [hc])] at ih
      simp only [hc, not_false_iff, if_true]; exact ih
  · intro f _ _
    unfold b_X11_manyIn_5
    simp (disch := omega) only [zl_0, zl_1, zl_2, zl_3, zl_4, zl_5, zl_6, zn_ck, zn_ix, zn_add, zn_sub, zn_mul, zn_le, zn_lt, zn_eq, zn_plc1, zn_shl, zn_or, zn_bitc, Option.bind_some, zq_p, zq_b, Nat.one_mul, Nat.zero_add, Nat.add_zero, h0]
    rw [if_pos (by omega)]
