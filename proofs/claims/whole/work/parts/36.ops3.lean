theorem zI_room (N : Nat) : zq_op_room N zI := by
  intro q j X M a b c hq hI
  have hI1 := zI_idle q j X M hI
  unfold f_X10_room f_X11_room
  rw [zw_xr, zw_mr, zw_x, zw_m, zw_x, zw_m]
  simp only [Option.bind_some]
  have d4 : ¬ ((1 : Int32) = 0) := by decide
  by_cases c0 : a < 0 ∨ 2 < a
  · simp only [c0, if_true, not_true, if_false]
    exact ⟨_, _, _, rfl, rfl, hI1⟩
  simp only [c0, d4, if_false, not_false_iff, if_true]
  by_cases c1 : b < 0 ∨ 6 < b
  · simp only [c1, if_true, not_true, if_false]
    exact ⟨_, _, _, rfl, rfl, hI1⟩
  simp only [c1, d4, if_false, not_false_iff, if_true]
  by_cases c2 : c < 0 ∨ 9 < c
  · simp only [c2, if_true, not_true, if_false]
    exact ⟨_, _, _, rfl, rfl, hI1⟩
  simp only [c2, d4, if_false, not_false_iff, if_true]
  obtain ⟨k, hk, rfl⟩ := zw_in (n := 2) (fun h => c0 (Or.inl h)) (fun h => c0 (Or.inr h)) (by omega)
  obtain ⟨v, hv, rfl⟩ := zw_in (n := 6) (fun h => c1 (Or.inl h)) (fun h => c1 (Or.inr h)) (by omega)
  obtain ⟨w, hw, rfl⟩ := zw_in (n := 9) (fun h => c2 (Or.inl h)) (fun h => c2 (Or.inr h)) (by omega)
  rw [zn_ck (by omega) (by omega), zn_ck (by omega) (by omega), zn_ck (by omega) (by omega), zn_ck (by omega) (by omega), zn_ix (by omega)]
  simp only [zq_b]
  rw [zn_ck (by omega) (by omega), zn_ck (by omega) (by omega)]
  obtain ⟨_, _, _, _, _, _, _, _, _, _, e11, _⟩ := hI.1.2
  refine ⟨_, _, _, rfl, by rw [e11 k (by omega)], ?_⟩
  refine zI_now hI ?_ ?_ rfl rfl ?_ ?_ rfl (zv_now_arr (m := 10) (by decide) (by omega) (zv_now_arr (m := 7) (by decide) (by omega) hI1.1))
  · rw [zq_un (by omega), zq_un (by omega)]
  · intro c hc; rw [zq_un (by omega), zq_un (by omega)]
  · intro c hc; rw [zq_us1 (by omega), zq_us1 (by omega)]
  · intro c hc; rw [zq_un (by omega), zq_un (by omega)]
theorem zI_txt {q j : Nat} {X M X1 M1 : zq_M} (h : zI q j X M) (hx0 : ∀ k, k ≠ 4 → X1.1 0 k = X.1 0 k) (hx : ∀ c, 0 < c ∧ c ≠ 21 → X1.1 c = X.1 c) (h2 : X1.2 = X.2) (hm : ∀ k, k ≠ 12 → M1.1 69 k = M.1 69 k) (ha : ∀ c, c ≠ 69 ∧ c ≠ 75 → M1.1 c = M.1 c) (h3 : M1.2 = M.2) (hn : zv_txt X1 M1) : zI (q + 1) j X1 M1 := by
  obtain ⟨g1, g2, g3, g4, g5, g6⟩ := zI_idle q j X M h
  refine ⟨?_, ?_, hn, ?_, ?_, ?_⟩
  · obtain ⟨h1, h2⟩ := g1
    have e6 : zx X1 0 6 = zx X 0 6 := by unfold zx; rw [hx0 6 (by omega)]
    refine ⟨?_, ?_⟩
    · rw [e6]; exact zv_sc_fr (fun c _ _ => hx c (by omega)) h1
    · unfold zv_eq zx at h2 ⊢
      rw [hx 1 (by omega), hx (1 + 1) (by omega), hx (1 + 2) (by omega), hx (1 + 3) (by omega), hx (1 + 4) (by omega), hx (1 + 5) (by omega), hx (1 + 6) (by omega), hx (1 + 7) (by omega), hx (1 + 8) (by omega), hx (1 + 9) (by omega), hm 0 (by omega), hm 1 (by omega), hm 2 (by omega), hm 3 (by omega), hm 11 (by omega), hm 36 (by omega), hm 42 (by omega), ha 70 (by omega), ha 71 (by omega), ha 72 (by omega), ha 73 (by omega), ha 74 (by omega), ha 93 (by omega), ha 94 (by omega), ha 96 (by omega)]
      exact h2
  · exact zv_img_fr (fun c hc hc2 => hx c (by omega)) (hx0 2 (by omega)) (hx0 6 (by omega)) (fun k hk hk2 => hm k (by omega)) (fun c hc hc2 => ha c (by omega)) g2
  · exact zv_act_fr (congrFun (hx 54 (by omega)) 1) (hx 55 (by omega)) (hm 61 (by omega)) (ha 106 (by omega)) g4
  · exact zv_tap_fr (fun c hc hc2 => hx c (by omega)) (fun c hc hc2 => by rw [h2]) (by rw [h2]) (ha 107 (by omega)) (ha 108 (by omega)) (by rw [h3]) g5
  · exact zv_hou_fr (hx0 6 (by omega)) (fun c hc => hx c (by omega)) (by rw [h2]) (hm 10 (by omega)) (fun c hc hc2 => ha c (by omega)) g6
theorem zI_feed (N : Nat) : zq_op_feed N zI := by
  intro q j X M a hq hI
  have hI1 := zI_idle q j X M hI
  unfold f_X10_feed f_X11_feed
  rw [zw_x, zw_m]
  simp only [Option.bind_some]
  have d4 : ¬ ((1 : Int32) = 0) := by decide
  by_cases c0 : a < 0 ∨ 127 < a
  · simp only [c0, if_true, not_true, if_false]
    exact ⟨_, _, _, rfl, rfl, hI1⟩
  simp only [c0, d4, if_false, not_false_iff, if_true]
  obtain ⟨k, hk, rfl⟩ := zw_in (n := 127) (fun h => c0 (Or.inl h)) (fun h => c0 (Or.inr h)) (by omega)
  obtain ⟨⟨n, hn, e1⟩, e2, e3⟩ := hI.2.2.1
  rw [e2, e1]
  by_cases c1 : n = 100
  · subst c1
    rw [if_neg (by decide), if_neg (by decide)]
    exact ⟨_, _, _, rfl, rfl, hI1⟩
  have q1 : (100 : Int32) = zn 100 := rfl
  rw [q1, if_pos (by rw [zn_lt (by omega) (by omega)]; omega), if_pos (by rw [zn_eq (by omega) (by omega)]; omega)]
  rw [zn_ck (by omega) (by omega), zn_ck (by omega) (by omega), zn_ix (by omega)]
  simp only [zq_b]
  have f1 : (zq_u1 X 21 n (zn k)).1 0 4 + 1 = zn (n + 1) := by
    rw [zq_us1 (by omega), e1]; exact zn_add n 1
  have f2 : (zq_u1 M 75 n (zn k)).1 69 12 + 1 = zn (n + 1) := by
    rw [zq_us1 (by omega), e2, e1]; exact zn_add n 1
  rw [f1, f2]
  refine ⟨zn (n + 1), _, _, by rw [zq_g1, if_pos ⟨rfl, rfl⟩], by rw [zq_g1, if_pos ⟨rfl, rfl⟩], ?_⟩
  refine zI_txt hI ?_ ?_ rfl ?_ ?_ rfl ?_
  · intro c hc; rw [zq_us1 (by omega), zq_us1 (by omega)]
  · intro c hc; rw [zq_un (by omega), zq_un (by omega)]
  · intro c hc; rw [zq_us1 (by omega), zq_us1 (by omega)]
  · intro c hc; rw [zq_un (by omega), zq_un (by omega)]
  · refine ⟨⟨n + 1, by omega, by rw [zq_g1, if_pos ⟨rfl, rfl⟩]⟩, by rw [zq_g1, if_pos ⟨rfl, rfl⟩, zq_g1, if_pos ⟨rfl, rfl⟩], ?_⟩
    intro i hi
    refine ⟨?_, ?_⟩
    · obtain ⟨b, hb, hb2⟩ := (e3 i hi).1
      unfold zv_bd
      rw [zq_us1 (by omega), zq_g1]
      by_cases h2 : 21 = 21 ∧ i = n
      · rw [if_pos h2]; exact ⟨k, by omega, rfl⟩
      · rw [if_neg h2]; exact ⟨b, hb, hb2⟩
    · rw [zq_us1 (c := 69) (by omega), zq_us1 (c := 0) (by omega)]
      exact zv_e_u (e3 i hi).2 (by omega)
theorem zI_book (N : Nat) : zq_op_book N zI := by
  intro q j X M a hq hI
  have hI1 := zI_idle q j X M hI
  unfold f_X10_book f_X11_book
  have d4 : ¬ ((1 : Int32) = 0) := by decide
  by_cases c0 : a = -1
  · simp only [c0, not_true, if_false, zq_b]
    refine ⟨_, _, _, rfl, rfl, ?_⟩
    exact zI_now hI (funext fun k => zq_us1 (by omega)) (fun c hc => zq_un (by omega)) rfl rfl (fun k hk => zq_us1 (by omega)) (fun c hc => zq_un (by omega)) rfl (zv_now_slot (v := 0) (m := 13) (by decide) (by omega) hI1.1)
  simp only [c0, not_false_iff, if_true, zw_m, zw_xt, zw_mt, Option.bind_some]
  by_cases c1 : a < 0
  · simp only [c1, true_or, if_true]
    exact ⟨_, _, _, rfl, rfl, hI1⟩
  obtain ⟨k, hk, rfl⟩ := zn_nt a (by simpa using c1)
  have q5 : (5 : Int32) = zn 5 := rfl
  have q49 : (49 : Int32) = zn 49 := rfl
  have q10 : (10 : Int32) = zn 10 := rfl
  have q7 : (7 : Int32) = zn 7 := rfl
  have q12 : (12 : Int32) = zn 12 := rfl
  rw [q5, q10, q49, q7, q12, zn_div (by omega) (by omega), zn_irem (by omega) (by omega)]
  have b1 : (zn 5 ≤ zn (k / 10)) = (5 ≤ k / 10) := zn_le (by omega) (by omega)
  have b2 : (zn 49 < zn k) = (49 < k) := zn_lt (by omega) (by omega)
  have b3 : (zn 7 < zn (k % 10)) = (7 < k % 10) := zn_lt (by omega) (by omega)
  simp only [b1, b2, b3]
  by_cases c2 : 49 < k
  · have c3 : 5 ≤ k / 10 := by omega
    simp only [c1, c2, c3, or_true, if_false, if_true]
    exact ⟨_, _, _, rfl, rfl, hI1⟩
  have c3 : ¬ (5 ≤ k / 10) := by omega
  have c4 : ¬ (zn (k % 10) < 0) := by rw [show (0 : Int32) = zn 0 from rfl, zn_lt (by omega) (by omega)]; omega
  simp only [c1, c2, c3, c4, d4, or_self, false_or, if_false]
  by_cases c5 : 7 < k % 10
  · simp only [c5, if_true, not_true, if_false]
    exact ⟨_, _, _, rfl, rfl, hI1⟩
  simp only [c5, d4, not_false_iff, if_true, if_false]
  obtain ⟨⟨h1, h2, h3, h4, h5, h6, h7, h8, h9, h10, h11, h12, ⟨n, hn, h13⟩, h14, h15, h16, h17⟩, ⟨e1, e2, e3, e4, e5, e6, e7, e8, e9, e10, e11, e12, e13, e14, e15⟩⟩ := hI1.1
  have b4 : (zn n < zn 12) = (n < 12) := zn_lt (by omega) (by omega)
  have b5 : (zn n = zn 12) = (n = 12) := zn_eq (by omega) (by omega)
  simp only [e7, h13, b4, b5]
  by_cases c6 : n = 12
  · subst c6
    rw [if_neg (by omega), if_neg (by omega)]
    exact ⟨_, _, _, rfl, rfl, hI1⟩
  rw [if_pos (by omega), if_pos c6, zn_ck (by omega) (by omega), zn_ck (by omega) (by omega), zn_ix (by omega)]
  simp only [zq_b]
  have f1 : (zq_u1 X 10 n (zn k)).1 1 13 + 1 = zn (n + 1) := by
    rw [zq_us1 (by omega), h13]; exact zn_add n 1
  have f2 : (zq_u1 M 96 n (zn k)).1 69 42 + 1 = zn (n + 1) := by
    rw [zq_us1 (by omega), e7, h13]; exact zn_add n 1
  rw [f1, f2]
  refine ⟨zn (n + 1), _, _, by rw [zq_g1, if_pos ⟨rfl, rfl⟩], by rw [zq_g1, if_pos ⟨rfl, rfl⟩], ?_⟩
  have hA : zv_now (q + 1) (zq_u1 X 10 n (zn k)) (zq_u1 M 96 n (zn k)) := by
    refine ⟨⟨zv_bd_u h1 (by omega), fun i hi => zv_bd_u (h2 i hi) (by omega), fun i hi => zv_bd_u (h3 i hi) (by omega), fun i hi => zv_bd_u (h4 i hi) (by omega), fun i hi => zv_bd_u (h5 i hi) (by omega), fun i hi => zv_bd_u (h6 i hi) (by omega), fun i hi => zv_bd_u (h7 i hi) (by omega), zv_bd_u h8 (by omega), zv_bd_u h9 (by omega), zv_bd_u h10 (by omega), fun i hi => zv_bd_u (h11 i hi) (by omega), fun i hi => zv_bd_u (h12 i hi) (by omega), zv_bd_u ⟨n, hn, h13⟩ (by omega), ?_, ?_, ?_, ?_⟩, ?_⟩
    · intro i hi
      rw [zq_g1]
      by_cases h2 : 1 + 9 = 10 ∧ i = n
      · rw [if_pos h2]
        exact ⟨k / 10, k % 10, by omega, by omega, by congr 1; omega⟩
      · rw [if_neg h2]; exact h14 i hi
    · rw [zq_us1 (by omega), zx_u (by omega)]
      rcases h15 with h | h
      · exact Or.inl h
      · exact Or.inr (zv_bd_u h (by omega))
    · intro i hi
      rw [zq_us1 (by omega), zx_u (by omega)]; exact h16 i hi
    · intro i hi hi2
      rw [zx_u (by omega)] at hi2
      rw [zx_u (c1 := 1 + 7) (by omega), zx_u (c1 := 1 + 8) (by omega), zx_u (c1 := 1) (by omega)]
      exact h17 i hi hi2
    · refine ⟨zv_e_u e1 (by omega), ?_, zv_e_u e3 (by omega), zv_e_u e4 (by omega), zv_e_u e5 (by omega), zv_e_u e6 (by omega), zv_e_u e7 (by omega), fun i hi => zv_e_u (e8 i hi) (by omega), fun i hi => zv_e_u (e9 i hi) (by omega), fun i hi => zv_e_u (e10 i hi) (by omega), fun i hi => zv_e_u (e11 i hi) (by omega), fun i hi => zv_e_u (e12 i hi) (by omega), fun i hi => zv_e_u (e13 i hi) (by omega), fun i hi => zv_e_u (e14 i hi) (by omega), fun i hi => zv_e_u (e15 i hi) (by omega)⟩
      rw [zq_us1 (by omega), zx_u (by omega)]; exact e2
  refine zI_now hI ?_ ?_ rfl rfl ?_ ?_ rfl (zv_now_slot (m := 13) (by decide) (by omega) hA)
  · funext c; rw [zq_us1 (by omega), zq_us1 (by omega)]
  · intro c hc; rw [zq_un (by omega), zq_un (by omega)]
  · intro c hc; rw [zq_us1 (by omega), zq_us1 (by omega)]
  · intro c hc; rw [zq_un (by omega), zq_un (by omega)]
