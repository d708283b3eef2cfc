theorem zw_n1 {n : Nat} (h : n < 2147483648) : (zn n - 1).toInt = (n : Int) - 1 := by
  cases n with
  | zero => rfl
  | succ n =>
    have : zn (n + 1) - 1 = zn n := by
      have := zn_sub (a := n + 1) (b := 1) (by omega)
      exact this
    rw [this, zn_ti (by omega)]
    omega
theorem zw_in {a : Int32} {n : Nat} (h0 : ¬ a < 0) (h1 : ¬ (zn n < a)) (hn : n < 2147483648) : ∃ k, k ≤ n ∧ a = zn k := by
  rw [Int32.lt_iff_toInt_lt] at h0 h1
  rw [zn_ti hn] at h1
  have e0 : (0 : Int32).toInt = 0 := rfl
  rw [e0] at h0
  refine ⟨a.toInt.toNat, by omega, ?_⟩
  apply Int32.toInt_inj.mp
  rw [zn_ti (by omega)]
  omega
theorem zw_inn {a : Int32} {n : Nat} (h0 : ¬ a < 0) (h1 : ¬ (zn n - 1 < a)) (hn : n < 2147483648) : ∃ k, k < n ∧ a = zn k := by
  rw [Int32.lt_iff_toInt_lt] at h0 h1
  rw [zw_n1 hn] at h1
  have e0 : (0 : Int32).toInt = 0 := rfl
  rw [e0] at h0
  refine ⟨a.toInt.toNat, by omega, ?_⟩
  apply Int32.toInt_inj.mp
  rw [zn_ti (by omega)]
  omega
theorem zw_x (N j : Nat) (X : zq_M) (a l h : Int32) : f_X10_isFromTo N j X a l h = some (if a < l ∨ h < a then 0 else 1) := by
  unfold f_X10_isFromTo
  by_cases h1 : a < l <;> by_cases h2 : h < a <;> simp [h1, h2]
theorem zw_m (N : Nat) (X : zq_M) (a l h : Int32) : f_X11_within N X a l h = some (if a < l ∨ h < a then 0 else 1) := by
  unfold f_X11_within
  by_cases h1 : a < l <;> by_cases h2 : h < a <;> simp [h1, h2]
theorem zw_gz {ρ : Type} (p : Prop) [Decidable p] (o : Option ρ) : zq_gz (if p then 0 else 1) o = o := by
  unfold zq_gz
  by_cases h : p <;> simp [h]
theorem zw_xp (N j : Nat) (X : zq_M) (a : Int32) : f_X10_isPerson N j X a = some (if a < 0 ∨ X.1 1 0 - 1 < a then 0 else 1) := by
  unfold f_X10_isPerson
  rw [zw_x]; simp only [Option.bind_some, zw_gz]
theorem zw_mp (N : Nat) (X : zq_M) (a : Int32) : f_X11_isPerson N X a = some (if a < 0 ∨ X.1 69 0 - 1 < a then 0 else 1) := by
  unfold f_X11_isPerson
  rw [zw_m]; simp only [Option.bind_some, zw_gz]
theorem zw_xr (N j : Nat) (X : zq_M) (a : Int32) : f_X10_isRoom N j X a = some (if a < 0 ∨ 2 < a then 0 else 1) := by
  unfold f_X10_isRoom
  rw [zw_x]; simp only [Option.bind_some, zw_gz]
theorem zw_mr (N : Nat) (X : zq_M) (a : Int32) : f_X11_isRoom N X a = some (if a < 0 ∨ 2 < a then 0 else 1) := by
  unfold f_X11_isRoom
  rw [zw_m]; simp only [Option.bind_some, zw_gz]
theorem zw_xl (N j : Nat) (X : zq_M) (a : Int32) : f_X10_isPlace N j X a = some (if a < 0 ∨ 3 < a then 0 else 1) := by
  unfold f_X10_isPlace
  rw [zw_x]; simp only [Option.bind_some, zw_gz]
theorem zw_ml (N : Nat) (X : zq_M) (a : Int32) : f_X11_isPlace N X a = some (if a < 0 ∨ 3 < a then 0 else 1) := by
  unfold f_X11_isPlace
  rw [zw_m]; simp only [Option.bind_some, zw_gz]
theorem zw_xt (N j : Nat) (X : zq_M) (a : Int32) : f_X10_isThing N j X a = some (if a < 0 ∨ 7 < a then 0 else 1) := by
  unfold f_X10_isThing
  rw [zw_x]; simp only [Option.bind_some, zw_gz]
theorem zw_mt (N : Nat) (X : zq_M) (a : Int32) : f_X11_isThing N X a = some (if a < 0 ∨ 7 < a then 0 else 1) := by
  unfold f_X11_isThing
  rw [zw_m]; simp only [Option.bind_some, zw_gz]
theorem zw_xa (N j : Nat) (X : zq_M) (a : Int32) : f_X10_isTape N j X a = some (if a < 0 ∨ 5 < a then 0 else 1) := by
  unfold f_X10_isTape
  rw [zw_x]; simp only [Option.bind_some, zw_gz]
theorem zw_ma (N : Nat) (X : zq_M) (a : Int32) : f_X11_isTape N X a = some (if a < 0 ∨ 5 < a then 0 else 1) := by
  unfold f_X11_isTape
  rw [zw_m]; simp only [Option.bind_some, zw_gz]
theorem zI_count (N : Nat) : zq_op_count N zI := by
  intro q j X M a hq hI
  have hI1 := zI_idle q j X M hI
  obtain ⟨h1, h2, h3, h4, h5, h6⟩ := hI
  obtain ⟨e1, e2, e3, e4, e5, e6, e7, _⟩ := h1.2
  unfold f_X10_count f_X11_count
  rw [e1, e6, e7, h3.2.1, h4.2.1, h6.2.1]
  repeat' split
  all_goals exact ⟨_, rfl, rfl, hI1⟩
