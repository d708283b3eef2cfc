theorem zw_jud (j : Nat) {q : Nat} {X M : zq_M} {t : Nat} (b : Int32) (ht : t < 6) (hI : zI q j X M) (N0 : Nat) (N : Nat) : ∀ i, i ≤ zx X 1 0 → zx X 1 0 < N + i → ∃ r, zq_loop (fun _ => none) (b_X10_firstOtherwise_2 N0 j X (57 + 2 * t) b) N (zn i) = some r ∧ zq_loop (fun _ => none) (b_X11_judge_34 M (zn t) b) N (zn i) = some r := by
  induction N with
  | zero => intro i h1 h2; omega
  | succ N ih =>
    intro i h1 h2
    show ∃ r, b_X10_firstOtherwise_2 N0 j X (57 + 2 * t) b (zq_loop (fun _ => none) (b_X10_firstOtherwise_2 N0 j X (57 + 2 * t) b) N) (zn i) = some r ∧ b_X11_judge_34 M (zn t) b (zq_loop (fun _ => none) (b_X11_judge_34 M (zn t) b) N) (zn i) = some r
    generalize zq_loop (fun _ => none) (b_X10_firstOtherwise_2 N0 j X (57 + 2 * t) b) N = rX at ih ⊢
    generalize zq_loop (fun _ => none) (b_X11_judge_34 M (zn t) b) N = rM at ih ⊢
    obtain ⟨n, hn, e0⟩ := hI.1.1.1
    have e00 : zx X 1 0 = n := by unfold zx; rw [e0, zn_ix (by omega)]
    rw [e00] at h1 h2 ih
    have e1 := hI.1.2.1
    obtain ⟨g1, g2, g3, g4, ⟨l, hl, g5⟩, g6⟩ := hI.2.2.2.2.1 t ht
    have d4 : ¬ ((1 : Int32) = 0) := by decide
    have d5 : (100 : Int32) + zn i = zn (100 + i) := zn_add 100 i
    unfold b_X10_firstOtherwise_2 b_X11_judge_34 f_X7_hasPlace
    rw [e1, e0, zn_ck (a := t) (n := 6) (by omega) (by omega), zn_ix (a := t) (by omega), g2, zn_ck (a := t) (n := 6) (by omega) (by omega), g3, g5]
    by_cases h3 : i = n
    · have : zn n ≤ zn i := by rw [zn_le (by omega) (by omega)]; omega
      simp only [this, if_true]
      exact ⟨_, rfl, rfl⟩
    have h4 : ¬ (zn n ≤ zn i) := by rw [zn_le (by omega) (by omega)]; omega
    simp only [h4, if_false, d5]
    by_cases c1 : b < 0
    · simp only [c1, if_true, Option.bind_some, ite_self]
      exact ⟨_, rfl, rfl⟩
    obtain ⟨k, hk, rfl⟩ := zn_nt b (by simpa using c1)
    have c2 : zn l - zn i - 1 = zn l - zn (i + 1) := by
      apply Int32.toInt_inj.mp
      rw [Int32.toInt_sub, zw_sb (by omega) (by omega), zw_sb (by omega) (by omega), show (1 : Int32).toInt = 1 from rfl]
      rw [Int.bmod_eq_of_le] <;> omega
    rw [c2]
    simp only [c1, if_false]
    by_cases c3 : k + i < l
    · have f1 : ¬ (zn l ≤ zn k) := by rw [zn_le (by omega) (by omega)]; omega
      have f2 : zn k ≤ zn l - zn (i + 1) := by rw [Int32.le_iff_toInt_le, zw_sb (by omega) (by omega), zn_ti hk]; omega
      have f3 : ¬ (zn (k + i) < 0) := zw_nlt (by omega)
      have f4 : ¬ (zn l ≤ zn (k + i)) := by rw [zn_le (by omega) (by omega)]; omega
      have f5 : (60 : Int32) * zn t + zn k + zn i = zn (60 * t + k + i) := by rw [show (60 : Int32) = zn 60 from rfl, zn_mul, zn_add, zn_add]
      simp only [f1, f2, zn_add, f3, f4, if_true, if_false, Option.bind_some, d4, not_false_iff, f5]
      rcases g4 with ⟨g4, g7⟩ | ⟨s, hs, g4⟩
      · rw [g5] at g7
        have := (zn_eq (b := 0) (by omega) (by omega)).mp g7
        omega
      simp only [zn_ck (a := k + i) (n := 60) (show k + i < 60 by omega) (by omega), zn_ck (a := i) (n := 5) (show i < 5 by omega) (by omega), zn_ck (a := 60 * t + k + i) (n := 360) (show 60 * t + k + i < 360 by omega) (by omega), zn_ix (a := k + i) (by omega), zn_ix (a := i) (by omega), zn_ix (a := 60 * t + k + i) (by omega)]
      rw [g4, if_neg (zw_nlt (by omega)), show 57 + 2 * t + 1 = 58 + 2 * t from by omega]
      have e9 : M.1 72 i = X.1 5 i := hI.1.2.2.2.2.2.2.2.2.2.2.1 i (by omega)
      have e8 := g6 (by rw [g4]; exact zw_ge (by omega)) (k + i) (by omega)
      rw [show 60 * t + k + i = 60 * t + (k + i) from by omega, e8, e9]
      by_cases c4 : (lg_cmp (X.2.1 (58 + 2 * t) (k + i)) (X.1 5 i).toInt64) = 0
      · rw [if_pos c4, if_pos c4]
        rw [show zn i + 1 = zn (i + 1) from zn_add i 1]
        exact ih (i + 1) (by omega) (by omega)
      · rw [if_neg c4, if_neg c4]
        exact ⟨_, rfl, rfl⟩
    · have f2 : ¬ (zn k ≤ zn l - zn (i + 1)) := by rw [Int32.le_iff_toInt_le, zw_sb (by omega) (by omega), zn_ti hk]; omega
      simp only [f2, if_false, ite_self]
      by_cases c5 : zn l ≤ zn k
      · simp only [c5, if_true, Option.bind_some]
        exact ⟨_, rfl, rfl⟩
      · have c6 := c5
        rw [zn_le (by omega) hk] at c6
        have f4 : zn l ≤ zn (k + i) := by rw [zn_le (by omega) (by omega)]; omega
        simp only [c5, if_false, Option.bind_some, d4, zn_add, f4, if_true, ite_self, not_true]
        exact ⟨_, rfl, rfl⟩
theorem zI_judge (N : Nat) (hN : 60 < N) : zq_op_judge N zI := by
  intro q j X M a b hq hI
  have hI1 := zI_idle q j X M hI
  unfold f_X10_judge f_X11_judge f_X7_holdsRow j_X10_judge_34 j_X11_judge_32 f_X10_firstOtherwise
  simp only [zw_xa, zw_ma, Option.bind_some]
  have d4 : ¬ ((1 : Int32) = 0) := by decide
  by_cases c0 : a < 0 ∨ 5 < a
  · simp only [c0, if_true, not_true, if_false]
    exact ⟨_, rfl, rfl, hI1⟩
  simp only [c0, d4, if_false, not_false_iff, if_true]
  obtain ⟨t, ht, rfl⟩ := zw_in (n := 5) (fun h => c0 (Or.inl h)) (fun h => c0 (Or.inr h)) (by omega)
  obtain ⟨g1, g2, g3, g4, ⟨n, hn, g5⟩, g6⟩ := hI.2.2.2.2.1 t (by omega)
  have nn := fun (f : Nat → Option Int32) => zw_nn (f := f) g1 (zw_ta j t (by omega))
  have ck := fun (o : Option Int32) => zn_ck (o := o) (a := t) (n := 6) (by omega) (by omega)
  have ix : zq_ix (zn t) = t := zn_ix (by omega)
  have hn5 : zx X 1 0 < 6 := (zx_bd hI.1.1.1 (by omega)).2
  obtain ⟨r, r1, r2⟩ := zw_jud j b (t := t) (by omega) hI N N 0 (by omega) (by omega)
  have r1 : zq_loop (fun _ => none) (b_X10_firstOtherwise_2 N j X (57 + 2 * t) b) N 0 = some r := r1
  have r2 : zq_loop (fun _ => none) (b_X11_judge_34 M (zn t) b) N 0 = some r := r2
  simp only [ck, ix, nn, r1, r2, g2]
  by_cases c1 : X.1 (57 + 2 * t) 0 < 0
  · simp only [c1, if_true, Option.bind_some]
    exact ⟨_, rfl, rfl, hI1⟩
  simp only [c1, if_false, Option.bind_some, d4]
  by_cases c2 : X.1 (57 + 2 * t) 0 = 2
  · simp only [c2, if_true]
    exact ⟨_, rfl, rfl, hI1⟩
  · simp only [c2, if_false]
    exact ⟨_, rfl, rfl, hI1⟩
