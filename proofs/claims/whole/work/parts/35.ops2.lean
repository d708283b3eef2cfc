theorem zI_trace (N : Nat) : zq_op_trace N zI := by
  intro q j X M a hq hI
  have hI1 := zI_idle q j X M hI
  obtain ⟨h1, h2, h3, ⟨⟨n, hn, e1⟩, e2, e3⟩, h5, h6⟩ := hI
  unfold f_X10_trace f_X0_bodyAt f_X11_trace
  rw [zw_x, zw_m]
  simp only [Option.bind_some]
  by_cases c0 : a < 0
  · simp only [c0, true_or, if_true, Option.bind_some]
    exact ⟨_, rfl, rfl, hI1⟩
  obtain ⟨k, hk, rfl⟩ := zn_nt a (by simpa using c0)
  rw [e2, e1]
  have q1 : (20 : Int32) = zn 20 := rfl
  have q2 : (19 : Int32) = zn 19 := rfl
  have q3 : (0 : Int32) = zn 0 := rfl
  have q4 : (1 : Int32) = zn 1 := rfl
  by_cases c1 : 19 < k
  · have d1 : (19 : Int32) < zn k := by rw [q2, zn_lt (by omega) hk]; exact c1
    have d2 : (if (20 : Int32) < zn n then (20 : Int32) else zn n) - 1 < zn k := by
      by_cases c3 : (20 : Int32) < zn n
      · rw [if_pos c3]; exact d1
      · rw [if_neg c3]
        rw [q1, zn_lt (by omega) (by omega)] at c3
        rw [Int32.lt_iff_toInt_lt, zw_n1 (by omega), zn_ti hk]; omega
    simp only [d1, d2, or_true, if_true, Option.bind_some]
    exact ⟨_, rfl, rfl, hI1⟩
  have d1 : ¬ ((19 : Int32) < zn k) := by rw [q2, zn_lt (by omega) hk]; exact c1
  by_cases c2 : n ≤ k
  · have d2 : (if (20 : Int32) < zn n then (20 : Int32) else zn n) - 1 < zn k := by
      have c3 : ¬ ((20 : Int32) < zn n) := by rw [q1, zn_lt (by omega) (by omega)]; omega
      rw [if_neg c3]
      rw [Int32.lt_iff_toInt_lt, zw_n1 (by omega), zn_ti hk]; omega
    have d3 : zn n ≤ zn k := by rw [zn_le (by omega) hk]; exact c2
    simp only [c0, d1, d2, d3, or_true, or_self, if_true, if_false, Option.bind_some]
    exact ⟨_, rfl, rfl, hI1⟩
  · have d2 : ¬ ((if (20 : Int32) < zn n then (20 : Int32) else zn n) - 1 < zn k) := by
      by_cases c3 : (20 : Int32) < zn n
      · rw [if_pos c3]; exact d1
      · rw [if_neg c3]
        rw [Int32.lt_iff_toInt_lt, zw_n1 (by omega), zn_ti hk]; omega
    have d3 : ¬ (zn n ≤ zn k) := by rw [zn_le (by omega) hk]; exact c2
    have d4 : ¬ ((1 : Int32) = 0) := by decide
    simp only [c0, d1, d2, d3, d4, or_self, if_false, Option.bind_some]
    rw [zn_ck (by omega) (by omega), zn_ck (by omega) (by omega), zn_ix hk]
    simp only [Option.bind_some]
    exact ⟨_, rfl, by rw [e3 k (by omega)], hI1⟩
theorem zI_learn (N : Nat) : zq_op_learn N zI := by
  intro q j X M a b hq hI
  have hI1 := zI_idle q j X M hI
  unfold f_X10_learn f_X11_learn
  rw [zw_xp, zw_mp, zw_x, zw_m, hI.1.2.1]
  simp only [Option.bind_some]
  by_cases c0 : a < 0 ∨ X.1 1 0 - 1 < a
  · simp only [c0, if_true, not_true, if_false]
    exact ⟨_, _, _, rfl, rfl, hI1⟩
  have d4 : ¬ ((1 : Int32) = 0) := by decide
  simp only [c0, d4, if_false, not_false_iff, if_true]
  by_cases c1 : b < 0 ∨ 255 < b
  · simp only [c1, if_true, not_true, if_false]
    exact ⟨_, _, _, rfl, rfl, hI1⟩
  simp only [c1, d4, if_false, not_false_iff, if_true]
  obtain ⟨n, hn, en⟩ := hI.1.1.1
  rw [en] at c0
  obtain ⟨k, hk, rfl⟩ := zw_inn (fun h => c0 (Or.inl h)) (fun h => c0 (Or.inr h)) (by omega)
  obtain ⟨v, hv, rfl⟩ := zw_in (n := 255) (fun h => c1 (Or.inl h)) (fun h => c1 (Or.inr h)) (by omega)
  rw [zn_ck (by omega) (by omega), zn_ck (by omega) (by omega), zn_ck (by omega) (by omega), zn_ck (by omega) (by omega), zn_ix (by omega)]
  unfold zq_b
  refine ⟨_, _, _, rfl, by rw [hI.1.2.2.2.2.2.2.2.2.2.2.1 k (by omega)], ?_⟩
  exact zI_now hI (zq_un (by omega)) (fun c hc => zq_un (by omega)) rfl rfl (fun k hk => zq_us1 (by omega)) (fun c hc => zq_un (by omega)) rfl (zv_now_arr (m := 256) (by decide) (by omega) hI1.1)
