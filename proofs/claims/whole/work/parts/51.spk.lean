def zs_any (f : Nat → Bool) : Nat → Bool
  | 0 => false
  | n + 1 => zs_any f n || f n
theorem zs_any_iff {f : Nat → Bool} {n : Nat} : zs_any f n = true ↔ ∃ k, k < n ∧ f k = true := by
  induction n with
  | zero => simp [zs_any]
  | succ n ih =>
    show (zs_any f n || f n) = true ↔ _
    rw [Bool.or_eq_true, ih]
    constructor
    · rintro (⟨k, a, b⟩ | a)
      · exact ⟨k, by omega, b⟩
      · exact ⟨n, by omega, a⟩
    · rintro ⟨k, a, b⟩
      by_cases e : k = n
      · subst e; exact Or.inr b
      · exact Or.inl ⟨k, by omega, b⟩
theorem zs_any_f {f : Nat → Bool} {n : Nat} (h : zs_any f n = false) (h2 : f n = false) : zs_any f (n + 1) = false := by
  show (zs_any f n || f n) = false
  rw [h, h2]; rfl
theorem zs_one {f : Nat → Bool} {n x : Nat} (hx : x < n) (h : ∀ p, p < n → (f p = true ↔ p = x)) : zs_set f n = 2 ^ x := by
  apply zs_ext
  intro k
  by_cases hk : k < n
  · rw [zs_bset _ hk, zs_bt, Nat.testBit_two_pow]
    have := h k hk
    by_cases e : k = x
    · subst e; rw [this.mpr rfl]; simp
    · have e2 : f k = false := by
        cases hf : f k with
        | false => rfl
        | true => exact absurd (this.mp hf) e
      rw [e2]; simp; omega
  · rw [zs_bset2 _ (by omega), zs_bt, Nat.testBit_two_pow]
    simp; omega
theorem zs_zero {f : Nat → Bool} {n : Nat} (h : ∀ p, p < n → f p = false) : zs_set f n = 0 := by
  induction n with
  | zero => rfl
  | succ n ih => rw [zs_sf (by rw [h n (by omega)]; decide), ih (fun p hp => h p (by omega))]
theorem zs_orr (f g : Nat → Bool) (n : Nat) : zs_set f n ||| zs_set g n = zs_set (fun p => f p || g p) n := by
  apply zs_ext
  intro k
  rw [zs_bt, Nat.testBit_or, ← zs_bt, ← zs_bt]
  by_cases hk : k < n
  · rw [zs_bset _ hk, zs_bset _ hk, zs_bset _ hk]
  · rw [zs_bset2 _ (by omega), zs_bset2 _ (by omega), zs_bset2 _ (by omega)]; rfl
theorem zn_sti {a b : Nat} (ha : a < 1073741824) (hb : b < 1073741824) : (zn a - zn b).toInt = (a : Int) - b := by
  rw [Int32.toInt_sub, zn_ti (by omega), zn_ti (by omega)]
  apply Int.bmod_eq_of_le <;> omega
theorem zn_nti {a b : Nat} (ha : a < 1073741824) (hb : b < 1073741824) : (-(zn a - zn b)).toInt = (b : Int) - a := by
  rw [Int32.toInt_neg, zn_sti ha hb, show -((a : Int) - b) = b - a by omega]
  apply Int.bmod_eq_of_le <;> omega
theorem zn_lsub {a b c : Nat} (ha : a < 1073741824) (hb : b < 1073741824) (hc : c < 1073741824) : (zn c < zn a - zn b) = (c + b < a) := by
  apply propext
  rw [Int32.lt_iff_toInt_lt, zn_sti ha hb, zn_ti (by omega)]
  omega
theorem zn_lnsub {a b c : Nat} (ha : a < 1073741824) (hb : b < 1073741824) (hc : c < 1073741824) : (zn c < -(zn a - zn b)) = (c + a < b) := by
  apply propext
  rw [Int32.lt_iff_toInt_lt, zn_nti ha hb, zn_ti (by omega)]
  omega
theorem zn_sub0 {a b : Nat} (ha : a < 1073741824) (hb : b < 1073741824) : (zn a - zn b < 0) = (a < b) := by
  apply propext
  rw [Int32.lt_iff_toInt_lt, zn_sti ha hb]
  show _ < (0 : Int) ↔ _
  omega
theorem zn_sube {a b : Nat} (ha : a < 1073741824) (hb : b < 1073741824) : (zn a - zn b = 0) = (a = b) := by
  apply propext
  rw [← Int32.toInt_inj, zn_sti ha hb]
  show _ = (0 : Int) ↔ _
  omega
theorem zn_slt {a b c : Nat} (ha : a < 1073741824) (hb : b < 1073741824) (hc : c < 1073741824) : (zn a - zn b < -(zn c)) = (a + c < b) := by
  apply propext
  rw [Int32.lt_iff_toInt_lt, zn_sti ha hb, Int32.toInt_neg, zn_ti (by omega)]
  rw [Int.bmod_eq_of_le (by omega) (by omega)]
  omega
def zyX (S : Nat → Nat → Nat) (X : zq_M) : Prop :=
  X.1 1 0 = zn (S 0 0) ∧ X.1 1 7 = zn (S 0 1) ∧ (∀ i, i < 5 → X.1 2 i = zn (S 1 i)) ∧ (∀ i, i < 5 → X.1 3 i = zn (S 2 i)) ∧ (∀ i, i < 5 → X.1 4 i = zn (S 3 i)) ∧ (∀ i, i < 5 → X.1 5 i = zn (S 4 i)) ∧ (∀ i, i < 3 → X.1 6 i = zn (S 5 i)) ∧ (∀ i, i < 3 → X.1 7 i = zn (S 6 i))
def zyB (S : Nat → Nat → Nat) : Prop :=
  S 0 0 ≤ 5 ∧ S 0 1 < 10000 ∧ S 0 3 < 100 ∧ (∀ i, i < 5 → S 1 i < 100) ∧ (∀ i, i < 5 → S 2 i < 100) ∧ (∀ i, i < 5 → S 3 i < 4) ∧ (∀ i, i < 5 → S 4 i < 256) ∧ (∀ i, i < 3 → S 5 i < 7) ∧ (∀ i, i < 3 → S 6 i < 10) ∧ (∀ i, i < 5 → S 0 0 ≤ i → S 3 i = 0)
def zyM (S : Nat → Nat → Nat) (M : zq_M) : Prop :=
  M.1 69 0 = zn (S 0 0) ∧ M.1 69 1 = zn (zv_pk (S 3)) ∧ M.1 69 2 = zn (S 0 1) ∧ (∀ i, i < 5 → M.1 70 i = zn (S 1 i)) ∧ (∀ i, i < 5 → M.1 71 i = zn (S 2 i)) ∧ (∀ i, i < 5 → M.1 72 i = zn (S 4 i)) ∧ (∀ i, i < 3 → M.1 73 i = zn (S 5 i)) ∧ (∀ i, i < 3 → M.1 74 i = zn (S 6 i))
def zyH (j : Nat) (S : Nat → Nat → Nat) (X : zq_M) (h : Nat) : Prop := X.2.2 35 1 = some h ∧ zq_ho (zq_shX j) h = true ∧ X.1 h 6 = zn (S 0 3) ∧ (h = 23 ∨ 111 ≤ h)
def zk_s (S : Nat → Nat → Nat) (r p : Nat) : Nat := if S 5 r = 3 ∨ S 5 r = 6 then S 2 p else S 1 p
def zk_near (n same : Nat) (s : Nat → Nat) (T : Nat → Bool) (p : Nat) : Bool := zs_any (fun q => !(q == p) && T q && decide (s q ≤ s p + same) && decide (s p ≤ s q + same)) n
def zk_mid (k v m pos g : Nat) : Bool :=
  if k = 1 then pos == (m - 1) / 2 else if k = 2 then pos + v + 1 == m else if k = 4 then pos == (m - 1) / 2 || (m % 2 == 0 && pos == m / 2) else if k = 5 then pos == (g + v) % m else if k = 6 ∧ v < m then pos == 0 else m % 2 == 1 && pos == (m - 1) / 2
def zk_sp (S : Nat → Nat → Nat) (r : Nat) (T : Nat → Bool) (g p : Nat) : Bool := T p && !(decide (0 < S 0 3) && zk_near (S 0 0) (S 0 3) (zk_s S r) T p) && zk_mid (S 5 r) (S 6 r) (zs_cnt T (S 0 0)) (zk_rk (zk_s S r) T (S 0 0) p) g
def zk_fi (k v m g : Nat) : Nat :=
  if k = 1 ∨ k = 4 then (m - 1) / 2 else if k = 2 then (if v < m then m - 1 - v else m) else if k = 5 then (g + v) % m else if k = 6 ∧ v < m then 0 else if m % 2 = 1 then (m - 1) / 2 else m
theorem zk_midfi {k v m pos g : Nat} (hm : 0 < m) (hp : pos < m) : zk_mid k v m pos g = (pos == zk_fi k v m g || (k == 4 && m % 2 == 0 && pos == m / 2)) := by
  unfold zk_mid zk_fi
  rw [Bool.eq_iff_iff]
  by_cases h1 : k = 1
  · simp [h1]
  by_cases h2 : k = 2
  · subst h2
    by_cases hv : v < m
    · rw [if_neg (by omega), if_pos rfl, if_neg (by omega), if_pos rfl, if_pos hv]
      simp only [Bool.or_eq_true, Bool.and_eq_true, beq_iff_eq]
      omega
    · rw [if_neg (by omega), if_pos rfl, if_neg (by omega), if_pos rfl, if_neg hv]
      simp only [Bool.or_eq_true, Bool.and_eq_true, beq_iff_eq]
      omega
  by_cases h4 : k = 4
  · simp [h4]
  by_cases h5 : k = 5
  · simp [h5]
  by_cases h6 : k = 6 ∧ v < m
  · simp [h1, h2, h4, h5, h6]
  · rw [if_neg h1, if_neg h2, if_neg h4, if_neg h5, if_neg h6, if_neg (by omega), if_neg h2, if_neg h5, if_neg h6]
    by_cases e : m % 2 = 1
    · rw [if_pos e]
      simp only [Bool.or_eq_true, Bool.and_eq_true, beq_iff_eq]
      omega
    · rw [if_neg e]
      simp only [Bool.or_eq_true, Bool.and_eq_true, beq_iff_eq]
      omega
theorem zn_neg9 : ∀ m : Nat, m < 6 → ∀ v : Nat, v < 10 → 0 < m → m ≤ v → zn m - 1 - zn v < 0 := by decide +kernel
theorem zy_pil {N j : Nat} {X : zq_M} {k v m g : Nat} (hk : k < 7) (hv : v < 10) (hm : 0 < m) (hm5 : m ≤ 5) (hg : g < 100000) : ∃ fi, f_X6_placeInLine N j X (zn k) (zn v) (zn m) (zn g) = some fi ∧ (fi < 0 ∧ zk_fi k v m g = m ∨ fi = zn (zk_fi k v m g) ∧ zk_fi k v m g < m) := by
  unfold f_X6_placeInLine j_X6_placeInLine_16 j_X6_placeInLine_56
  have b1 : (zq_irem (zn m) 2 = 1) = (m % 2 = 1) := by
    rw [zl_2, zn_irem (by omega) (by omega)]; exact zn_eq (b := 1) (by omega) (by omega)
  have b2 : (zn m - 1) / 2 = zn ((m - 1) / 2) := by
    rw [zl_2, zl_1, zn_sub (by omega), zn_div (by omega) (by omega)]
  have b3 : (zn m ≤ 0) = (m ≤ 0) := zn_le (b := 0) (by omega) (by omega)
  have b4 : zq_irem (zn g + zn v) (zn m) = zn ((g + v) % m) := by rw [zn_add, zn_irem (by omega) (by omega)]
  have b5 : (zn m ≤ zn v) = (m ≤ v) := zn_le (by omega) (by omega)
  have n1 : (-1 : Int32) < 0 := by decide
  have b6 : ∀ {ρ : Type} (o : Option ρ), zq_dv (zn m) o = o := fun o => zn_dv (by omega) (by omega)
  have c7 : k = 0 ∨ k = 1 ∨ k = 2 ∨ k = 3 ∨ k = 4 ∨ k = 5 ∨ k = 6 := by omega
  have k1 : (zn k = 1) = (k = 1) := zn_eq (b := 1) (by omega) (by omega)
  have k2 : (zn k = 2) = (k = 2) := zn_eq (b := 2) (by omega) (by omega)
  have k3 : (zn k = 3) = (k = 3) := zn_eq (b := 3) (by omega) (by omega)
  have k4 : (zn k = 4) = (k = 4) := zn_eq (b := 4) (by omega) (by omega)
  have k5 : (zn k = 5) = (k = 5) := zn_eq (b := 5) (by omega) (by omega)
  have k6 : (zn k = 6) = (k = 6) := zn_eq (b := 6) (by omega) (by omega)
  simp only [b1, b2, b3, b4, b5, b6, k1, k2, k3, k4, k5, k6]
  unfold zk_fi
  have hmod := Nat.mod_lt (g + v) hm
  by_cases e2 : m % 2 = 1
  · simp only [e2, not_true, if_false, if_true]
    rcases c7 with rfl | rfl | rfl | rfl | rfl | rfl | rfl
    · exact ⟨_, by first | (simp; rfl) | simp, Or.inr ⟨by simp, by simp; omega⟩⟩
    · exact ⟨_, by first | (simp; rfl) | simp, Or.inr ⟨by simp, by simp; omega⟩⟩
    · by_cases hvm : v < m
      · refine ⟨_, by first | (simp; rfl) | simp, Or.inr ⟨?_, by simp [hvm]; omega⟩⟩
        simp only [hvm, if_true]
        rw [zl_1, zn_sub (by omega), zn_sub (by omega)]; simp
      · exact ⟨_, by first | (simp; rfl) | simp, Or.inl ⟨zn_neg9 m (by omega) v hv hm (by omega), by simp [hvm]⟩⟩
    · exact ⟨_, by first | (simp; rfl) | simp, Or.inr ⟨by simp, by simp; omega⟩⟩
    · exact ⟨_, by first | (simp; rfl) | simp, Or.inr ⟨by simp, by simp; omega⟩⟩
    · have : ¬ m ≤ 0 := by omega
      exact ⟨_, by first | (simp [this]; rfl) | simp [this], Or.inr ⟨by simp, by simpa using hmod⟩⟩
    · by_cases hvm : v < m
      · have : ¬ m ≤ v := by omega
        exact ⟨_, by first | (simp [this]; rfl) | simp [this], Or.inr ⟨by first | (simp [hvm]; rfl) | simp [hvm], by simp [hvm]; omega⟩⟩
      · have : m ≤ v := by omega
        exact ⟨_, by first | (simp [this]; rfl) | simp [this], Or.inr ⟨by simp [hvm], by simp [hvm]; omega⟩⟩
  · simp only [e2, not_false_iff, if_false, if_true]
    rcases c7 with rfl | rfl | rfl | rfl | rfl | rfl | rfl
    · exact ⟨_, by first | (simp; rfl) | simp, Or.inl ⟨n1, by simp⟩⟩
    · exact ⟨_, by first | (simp; rfl) | simp, Or.inr ⟨by simp, by simp; omega⟩⟩
    · by_cases hvm : v < m
      · refine ⟨_, by first | (simp; rfl) | simp, Or.inr ⟨?_, by simp [hvm]; omega⟩⟩
        simp only [hvm, if_true]
        rw [zl_1, zn_sub (by omega), zn_sub (by omega)]; simp
      · exact ⟨_, by first | (simp; rfl) | simp, Or.inl ⟨zn_neg9 m (by omega) v hv hm (by omega), by simp [hvm]⟩⟩
    · exact ⟨_, by first | (simp; rfl) | simp, Or.inl ⟨n1, by simp⟩⟩
    · exact ⟨_, by first | (simp; rfl) | simp, Or.inr ⟨by simp, by simp; omega⟩⟩
    · have : ¬ m ≤ 0 := by omega
      exact ⟨_, by first | (simp [this]; rfl) | simp [this], Or.inr ⟨by simp, by simpa using hmod⟩⟩
    · by_cases hvm : v < m
      · have : ¬ m ≤ v := by omega
        exact ⟨_, by first | (simp [this]; rfl) | simp [this], Or.inr ⟨by first | (simp [hvm]; rfl) | simp [hvm], by simp [hvm]; omega⟩⟩
      · have : m ≤ v := by omega
        exact ⟨_, by first | (simp [this]; rfl) | simp [this], Or.inl ⟨n1, by simp [hvm]⟩⟩
