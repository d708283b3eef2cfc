theorem za_5 {ρ : Type} (o : Option ρ) : zq_ac 0 0 5 5 5 o = o := by unfold zq_ac; rw [if_neg (by decide)]
theorem za_3 {ρ : Type} (o : Option ρ) : zq_ac 0 0 3 3 3 o = o := by unfold zq_ac; rw [if_neg (by decide)]
theorem za_12 {ρ : Type} (o : Option ρ) : zq_ac 0 0 12 12 12 o = o := by unfold zq_ac; rw [if_neg (by decide)]
theorem zc_g (X : zq_M) (a b n : Nat) (hn : n < 2147483648) (c k : Nat) : (zq_cp1 X a 0 b 0 (zn n)).1 c k = if c = b ∧ k < n then X.1 a k else X.1 c k := by
  have h0 : (0 : Int32).toNatClampNeg = 0 := rfl
  have h1 : (zn n).toNatClampNeg = n := zn_ix hn
  unfold zq_cp1
  rw [h0, h1]
  show (if c = b then va_cpy (X.1 a) (X.1 b) 0 0 n k else X.1 c k) = _
  by_cases h : c = b
  · subst h
    rw [if_pos rfl]
    by_cases h2 : k < n
    · rw [pk_cpy_in (by omega) (by omega), if_pos ⟨rfl, h2⟩]; simp
    · rw [pk_cpy_out (by omega), if_neg (by omega)]
  · rw [if_neg h, if_neg (by omega)]
theorem zc_5 (X : zq_M) (a b c k : Nat) : (zq_cp1 X a 0 b 0 5).1 c k = if c = b ∧ k < 5 then X.1 a k else X.1 c k := zc_g X a b 5 (by omega) c k
theorem zc_3 (X : zq_M) (a b c k : Nat) : (zq_cp1 X a 0 b 0 3).1 c k = if c = b ∧ k < 3 then X.1 a k else X.1 c k := zc_g X a b 3 (by omega) c k
theorem zc_12 (X : zq_M) (a b c k : Nat) : (zq_cp1 X a 0 b 0 12).1 c k = if c = b ∧ k < 12 then X.1 a k else X.1 c k := zc_g X a b 12 (by omega) c k
theorem zc_2 (X : zq_M) (a b : Nat) (n : Int32) : (zq_cp1 X a 0 b 0 n).2 = X.2 := rfl
def zc_al (X X1 : zq_M) (h a : Nat) : Prop := X1.2 = X.2 ∧ (∀ c k, c < h ∨ h + 9 < c → X1.1 c k = X.1 c k) ∧ X1.1 h 0 = X.1 a 0 ∧ X1.1 h 7 = X.1 a 7 ∧ X1.1 h 8 = X.1 a 8 ∧ X1.1 h 11 = X.1 a 11 ∧ X1.1 h 13 = X.1 a 13 ∧ X1.1 h 14 = X.1 a 14 ∧ (∀ i, i < 5 → X1.1 (h + 1) i = X.1 (a + 1) i) ∧ (∀ i, i < 5 → X1.1 (h + 2) i = X.1 (a + 2) i) ∧ (∀ i, i < 5 → X1.1 (h + 3) i = X.1 (a + 3) i) ∧ (∀ i, i < 5 → X1.1 (h + 4) i = X.1 (a + 4) i) ∧ (∀ i, i < 3 → X1.1 (h + 5) i = X.1 (a + 5) i) ∧ (∀ i, i < 3 → X1.1 (h + 6) i = X.1 (a + 6) i) ∧ (∀ i, i < 12 → X1.1 (h + 7) i = X.1 (a + 7) i) ∧ (∀ i, i < 12 → X1.1 (h + 8) i = X.1 (a + 8) i) ∧ (∀ i, i < 12 → X1.1 (h + 9) i = X.1 (a + 9) i)
theorem zc_go (N j : Nat) (X : zq_M) : ∃ X1, f_X5_copyFrom N j X 11 1 = some X1 ∧ zc_al X X1 11 1 := by
  unfold f_X5_copyFrom
  simp only [zq_b, za_5, za_3, za_12]
  refine ⟨_, rfl, rfl, ?_, ?_, ?_, ?_, ?_, ?_, ?_, ?_, ?_, ?_, ?_, ?_, ?_, ?_, ?_, ?_⟩
  · intro c k hc
    simp only [zq_g1, zc_5, zc_3, zc_12]
    repeat rw [if_neg (by omega)]
  all_goals first
    | (simp [zq_g1, zc_5, zc_3, zc_12]; done)
    | (intro i hi; simp [zq_g1, zc_5, zc_3, zc_12, hi]; done)
theorem zc_back (N j : Nat) (X : zq_M) : ∃ X1, f_X5_copyFrom N j X 1 11 = some X1 ∧ zc_al X X1 1 11 := by
  unfold f_X5_copyFrom
  simp only [zq_b, za_5, za_3, za_12]
  refine ⟨_, rfl, rfl, ?_, ?_, ?_, ?_, ?_, ?_, ?_, ?_, ?_, ?_, ?_, ?_, ?_, ?_, ?_, ?_⟩
  · intro c k hc
    simp only [zq_g1, zc_5, zc_3, zc_12]
    repeat rw [if_neg (by omega)]
  all_goals first
    | (simp [zq_g1, zc_5, zc_3, zc_12]; done)
    | (intro i hi; simp [zq_g1, zc_5, zc_3, zc_12, hi]; done)
