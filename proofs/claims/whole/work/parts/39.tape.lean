theorem zw_ta (j t : Nat) (h : t < 6) : zq_ta (zq_shX j) (57 + 2 * t) = true := by
  have : t = 0 ∨ t = 1 ∨ t = 2 ∨ t = 3 ∨ t = 4 ∨ t = 5 := by omega
  rcases this with rfl | rfl | rfl | rfl | rfl | rfl <;> rfl
theorem zw_nn {ρ : Type} {r : Option Nat} {b : Nat → Bool} {f : Nat → Option ρ} {h : Nat} (hr : r = some h) (hb : b h = true) : zq_nn r b f = f h := by
  rw [hr]
  unfold zq_nn
  simp only [hb, if_true]
theorem zw_tak (N j : Nat) (X : zq_M) (k a : Nat) (hk : k < 7) (ha : a < 7) : f_X10_isKindOrUnder (N + 8) j X (zn k) (zn a) = some (if a = 0 ∨ k = a ∨ (k = 4 ∧ a = 1) ∨ (k = 5 ∧ a = 2) ∨ (k = 6 ∧ a = 3) then 1 else 0) := by
  have h1 : k = 0 ∨ k = 1 ∨ k = 2 ∨ k = 3 ∨ k = 4 ∨ k = 5 ∨ k = 6 := by omega
  have h2 : a = 0 ∨ a = 1 ∨ a = 2 ∨ a = 3 ∨ a = 4 ∨ a = 5 ∨ a = 6 := by omega
  rcases h1 with rfl | rfl | rfl | rfl | rfl | rfl | rfl <;> rcases h2 with rfl | rfl | rfl | rfl | rfl | rfl | rfl <;> rfl
theorem zI_taken (N : Nat) : zq_op_taken (N + 8) zI := by
  intro q j X M a b hq hI
  have hI1 := zI_idle q j X M hI
  unfold f_X10_taken f_X11_taken
  simp only [zw_x, zw_m, zw_xr, zw_mr, Option.bind_some]
  have d4 : ¬ ((1 : Int32) = 0) := by decide
  by_cases c0 : b < 0 ∨ 6 < b
  · simp only [c0, if_true, not_true, if_false]
    exact ⟨_, rfl, rfl, hI1⟩
  simp only [c0, d4, if_false, not_false_iff, if_true]
  by_cases c1 : a < 0 ∨ 2 < a
  · simp only [c1, if_true, not_true, if_false]
    exact ⟨_, rfl, rfl, hI1⟩
  simp only [c1, d4, if_false, not_false_iff, if_true]
  obtain ⟨k, hk, rfl⟩ := zw_in (n := 6) (fun h => c0 (Or.inl h)) (fun h => c0 (Or.inr h)) (by omega)
  obtain ⟨l, hl, rfl⟩ := zw_in (n := 2) (fun h => c1 (Or.inl h)) (fun h => c1 (Or.inr h)) (by omega)
  have hl3 : l < 3 := by omega
  have e11 : M.1 73 l = X.1 6 l := hI.1.2.2.2.2.2.2.2.2.2.2.2.1 l hl3
  obtain ⟨v, hv, e6⟩ : zv_bd X 6 l 7 := hI.1.1.2.2.2.2.2.1 l hl3
  rw [zn_ck (by omega) (by omega), zn_ck (by omega) (by omega), zn_ix (by omega)]
  unfold j_X11_taken_51 j_X11_taken_61
  rw [zn_ix (by omega), e11, e6, zw_tak N j X v k hv (by omega)]
  have h1 : v = 0 ∨ v = 1 ∨ v = 2 ∨ v = 3 ∨ v = 4 ∨ v = 5 ∨ v = 6 := by omega
  have h2 : k = 0 ∨ k = 1 ∨ k = 2 ∨ k = 3 ∨ k = 4 ∨ k = 5 ∨ k = 6 := by omega
  rcases h1 with rfl | rfl | rfl | rfl | rfl | rfl | rfl <;> rcases h2 with rfl | rfl | rfl | rfl | rfl | rfl | rfl <;> exact ⟨_, rfl, rfl, hI1⟩
theorem zI_read (N : Nat) : zq_op_read N zI := by
  intro q j X M a b hq hI
  have hI1 := zI_idle q j X M hI
  unfold f_X10_read f_X11_read f_X7_hasPlace
  simp only [zw_x, zw_m, zw_xa, zw_ma, Option.bind_some]
  have d4 : ¬ ((1 : Int32) = 0) := by decide
  by_cases c0 : a < 0 ∨ 5 < a
  · simp only [c0, if_true, not_true, if_false]
    exact ⟨_, rfl, rfl, hI1⟩
  simp only [c0, d4, if_false, not_false_iff, if_true]
  obtain ⟨t, ht, rfl⟩ := zw_in (n := 5) (fun h => c0 (Or.inl h)) (fun h => c0 (Or.inr h)) (by omega)
  obtain ⟨g1, g2, g3, g4, ⟨n, hn, g5⟩, g6⟩ := hI.2.2.2.2.1 t (by omega)
  rw [zn_ck (by omega) (by omega), zn_ck (by omega) (by omega), zn_ix (by omega), zw_nn g1 (zw_ta j t (by omega)), zn_ck (by omega) (by omega), zn_ck (by omega) (by omega), g2, g3]
  simp only [zw_nn g1 (zw_ta j t (by omega))]
  rw [g5]
  by_cases c1 : b < 0
  · simp only [c1, true_or, if_true, Option.bind_some, not_true, if_false, ite_self]
    exact ⟨_, rfl, rfl, hI1⟩
  obtain ⟨k, hk, rfl⟩ := zn_nt b (by simpa using c1)
  by_cases c2 : n ≤ k
  · have d1 : zn n ≤ zn k := by rw [zn_le (by omega) hk]; exact c2
    have d2 : zn n - 1 < zn k := by rw [Int32.lt_iff_toInt_lt, zw_n1 (by omega), zn_ti hk]; omega
    simp only [c1, d1, d2, or_true, if_true, Option.bind_some, not_true, if_false, ite_self]
    exact ⟨_, rfl, rfl, hI1⟩
  have d1 : ¬ (zn n ≤ zn k) := by rw [zn_le (by omega) hk]; exact c2
  have d2 : ¬ (zn n - 1 < zn k) := by rw [Int32.lt_iff_toInt_lt, zw_n1 (by omega), zn_ti hk]; omega
  have e60 : (60 : Int32) * zn t + zn k = zn (60 * t + k) := by rw [zn_l, zn_mul, zn_add]
  simp only [c1, d1, d2, d4, or_self, if_true, Option.bind_some, not_false_iff, if_false, e60]
  rw [zn_ck (by omega) (by omega), zn_ix (by omega), zn_ck (by omega) (by omega), zn_ix (by omega)]
  rcases g4 with ⟨g4, g7⟩ | ⟨s, hs, g4⟩
  · rw [g5] at g7
    have := (zn_eq (b := 0) (by omega) (by omega)).mp g7
    omega
  · have h0 : ¬ (zn s < 0) := by rw [show (0 : Int32) = zn 0 from rfl, zn_lt (by omega) (by omega)]; omega
    have h1 : (0 : Int32) ≤ zn s := by rw [show (0 : Int32) = zn 0 from rfl, zn_le (by omega) (by omega)]; omega
    rw [g4] at g6 ⊢
    rw [if_neg h0]
    refine ⟨_, rfl, ?_, hI1⟩
    rw [g6 h1 k (by omega), show 57 + 2 * t + 1 = 58 + 2 * t from by omega]
theorem zv_tap_i {X M : zq_M} {t k : Nat} {w : Int64} (hk : k < 60) (h : zv_tap X M) : zv_tap (zq_u2 X (58 + 2 * t) k w) (zq_u2 M 109 (60 * t + k) w) := by
  intro u hu
  obtain ⟨g1, g2, g3, g4, g5, g6⟩ := h u hu
  refine ⟨g1, g2, g3, g4, g5, ?_⟩
  intro h0 i hi
  rw [zq_g2, zq_g2]
  by_cases h2 : 109 = 109 ∧ 60 * u + i = 60 * t + k
  · have h3 : 58 + 2 * u = 58 + 2 * t ∧ i = k := by omega
    rw [if_pos h2, if_pos h3]
  · have h3 : ¬ (58 + 2 * u = 58 + 2 * t ∧ i = k) := by omega
    rw [if_neg h2, if_neg h3]
    exact g6 h0 i hi
theorem zI_tap {q j : Nat} {X M X1 M1 : zq_M} (h : zI q j X M) (hx : ∀ c, c < 57 ∨ 67 < c → X1.1 c = X.1 c) (h2 : X1.2.2 = X.2.2) (hm : ∀ c, c ≠ 107 ∧ c ≠ 108 → M1.1 c = M.1 c) (ht : zv_tap X1 M1) : zI (q + 1) j X1 M1 := by
  obtain ⟨g1, g2, g3, g4, g5, g6⟩ := zI_idle q j X M h
  refine ⟨?_, ?_, ?_, ?_, ht, ?_⟩
  · exact zv_now_fr (fun c hc => hx c (by omega)) (fun k hk => by rw [hm 69 (by omega)]) (fun c hc => hm c (by omega)) g1
  · exact zv_img_fr (fun c hc hc2 => hx c (by omega)) (by rw [hx 0 (by omega)]) (by rw [hx 0 (by omega)]) (fun k hk hk2 => by rw [hm 69 (by omega)]) (fun c hc hc2 => hm c (by omega)) g2
  · exact zv_txt_fr (by rw [hx 0 (by omega)]) (hx 21 (by omega)) (by rw [hm 69 (by omega)]) (hm 75 (by omega)) g3
  · exact zv_act_fr (by rw [hx 54 (by omega)]) (hx 55 (by omega)) (by rw [hm 69 (by omega)]) (hm 106 (by omega)) g4
  · exact zv_hou_fr (by rw [hx 0 (by omega)]) (fun c hc => hx c (by omega)) (by rw [h2]) (by rw [hm 69 (by omega)]) (fun c hc hc2 => hm c (by omega)) g6
theorem zw_nar (N j : Nat) (X M : zq_M) (h s : Nat) (w : Int64) (hs : s < 5) (e : X.1 h 0 = zn s) : ∃ v, f_X7_narrowed N j X h w = some v ∧ f_X11_narrow N M (zn s) w = some v := by
  have h1 : s = 0 ∨ s = 1 ∨ s = 2 ∨ s = 3 ∨ s = 4 := by omega
  unfold f_X7_narrowed f_X11_narrow
  rw [e]
  rcases h1 with rfl | rfl | rfl | rfl | rfl
  · exact ⟨_, rfl, rfl⟩
  · exact ⟨_, rfl, rfl⟩
  · exact ⟨_, rfl, rfl⟩
  · exact ⟨_, rfl, rfl⟩
  · by_cases h2 : (lg_cmp w 0) = 0
    · refine ⟨0, ?_, ?_⟩
      · rw [if_neg (by decide), if_neg (by decide), if_neg (by decide), if_neg (by decide), if_pos h2]
      · rw [if_pos (by decide), if_pos (by decide), if_pos (by decide), if_neg (by decide), if_pos h2]
    · refine ⟨1, ?_, ?_⟩
      · rw [if_neg (by decide), if_neg (by decide), if_neg (by decide), if_neg (by decide), if_neg h2]
      · rw [if_pos (by decide), if_pos (by decide), if_pos (by decide), if_neg (by decide), if_neg h2]
theorem zI_item (N : Nat) : zq_op_item N zI := by
  intro q j X M a b w hq hI
  have hI1 := zI_idle q j X M hI
  unfold f_X10_item f_X11_item f_X7_hasPlace f_X7_holdsRow f_X7_put
  simp only [zw_x, zw_m, zw_xa, zw_ma, Option.bind_some]
  have d4 : ¬ ((1 : Int32) = 0) := by decide
  by_cases c0 : a < 0 ∨ 5 < a
  · simp only [c0, if_true, not_true, if_false]
    exact ⟨_, _, _, rfl, rfl, hI1⟩
  simp only [c0, d4, if_false, not_false_iff, if_true]
  obtain ⟨t, ht, rfl⟩ := zw_in (n := 5) (fun h => c0 (Or.inl h)) (fun h => c0 (Or.inr h)) (by omega)
  obtain ⟨g1, g2, g3, g4, ⟨n, hn, g5⟩, g6⟩ := hI.2.2.2.2.1 t (by omega)
  rw [zn_ck (by omega) (by omega), zn_ck (by omega) (by omega), zn_ix (by omega), zw_nn g1 (zw_ta j t (by omega)), zn_ck (by omega) (by omega), zn_ck (by omega) (by omega), g2, g3]
  rcases g4 with ⟨g4, g7⟩ | ⟨s, hs, g4⟩
  · rw [g4]
    rw [if_pos (show (-1 : Int32) < 0 by decide), if_neg (show ¬ ((0 : Int32) ≤ -1) by decide)]
    simp only [Option.bind_some, not_true, if_false]
    exact ⟨_, _, _, rfl, rfl, hI1⟩
  have h0 : ¬ (zn s < 0) := by rw [show (0 : Int32) = zn 0 from rfl, zn_lt (by omega) (by omega)]; omega
  have h1 : (0 : Int32) ≤ zn s := by rw [show (0 : Int32) = zn 0 from rfl, zn_le (by omega) (by omega)]; omega
  obtain ⟨v, f1, f2⟩ := zw_nar N j X M (57 + 2 * t) s w hs g4
  rw [g4, if_neg h0, if_pos h1, g5]
  simp only [Option.bind_some, d4, not_false_iff, if_true]
  by_cases c1 : b < 0
  · simp only [c1, true_or, if_true, Option.bind_some, not_true, if_false]
    exact ⟨_, _, _, rfl, rfl, hI1⟩
  obtain ⟨k, hk, rfl⟩ := zn_nt b (by simpa using c1)
  by_cases c2 : n ≤ k
  · have d1 : zn n ≤ zn k := by rw [zn_le (by omega) hk]; exact c2
    have d2 : zn n - 1 < zn k := by rw [Int32.lt_iff_toInt_lt, zw_n1 (by omega), zn_ti hk]; omega
    simp only [c1, d1, d2, or_true, if_true, Option.bind_some, not_true, if_false, ite_self]
    exact ⟨_, _, _, rfl, rfl, hI1⟩
  have d1 : ¬ (zn n ≤ zn k) := by rw [zn_le (by omega) hk]; exact c2
  have d2 : ¬ (zn n - 1 < zn k) := by rw [Int32.lt_iff_toInt_lt, zw_n1 (by omega), zn_ti hk]; omega
  have e60 : (60 : Int32) * zn t + zn k = zn (60 * t + k) := by rw [zn_l, zn_mul, zn_add]
  simp only [c1, d1, d2, d4, or_self, if_true, Option.bind_some, not_false_iff, if_false, e60, f1, f2]
  rw [zn_ck (by omega) (by omega), zn_ix (by omega), zn_ck (by omega) (by omega), zn_ix (by omega)]
  simp only [zq_b, Option.bind_some]
  refine ⟨_, _, _, rfl, rfl, ?_⟩
  rw [show 57 + 2 * t + 1 = 58 + 2 * t from by omega]
  exact zI_tap hI (fun c hc => rfl) rfl (fun c hc => rfl) (zv_tap_i (by omega) hI.2.2.2.2.1)
