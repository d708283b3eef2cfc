theorem zI_acf {q j n : Nat} {X M X1 M1 : zq_M} (h : zI q j X M) (hx : ∀ c, c ≠ 54 ∧ c ≠ 55 → X1.1 c = X.1 c) (h2 : X1.2 = X.2) (hm : ∀ k, k ≠ 61 → M1.1 69 k = M.1 69 k) (ha : ∀ c, c ≠ 69 ∧ c ≠ 106 → M1.1 c = M.1 c) (h3 : M1.2 = M.2) (hn : n < 4096) (e1 : X1.1 54 1 = zn n) (e2 : M1.1 69 61 = zn n) (e3 : ∀ i, i < 20 → M1.1 106 i = X1.1 55 i) : zI (q + 1) j X1 M1 := by
  obtain ⟨g1, g2, g3, g4, g5, g6⟩ := zI_idle q j X M h
  have hx0 : X1.1 0 = X.1 0 := hx 0 (by omega)
  refine ⟨?_, ?_, ?_, ⟨⟨n, hn, e1⟩, e2.trans e1.symm, e3⟩, ?_, ?_⟩
  · obtain ⟨h1, h2⟩ := g1
    have e6 : zx X1 0 6 = zx X 0 6 := by unfold zx; rw [hx0]
    refine ⟨?_, ?_⟩
    · rw [e6]; exact zv_sc_fr (fun c _ _ => hx c (by omega)) h1
    · unfold zv_eq zx at h2 ⊢
      rw [hx 1 (by omega), hx (1 + 1) (by omega), hx (1 + 2) (by omega), hx (1 + 3) (by omega), hx (1 + 4) (by omega), hx (1 + 5) (by omega), hx (1 + 6) (by omega), hx (1 + 7) (by omega), hx (1 + 8) (by omega), hx (1 + 9) (by omega), hm 0 (by omega), hm 1 (by omega), hm 2 (by omega), hm 3 (by omega), hm 11 (by omega), hm 36 (by omega), hm 42 (by omega), ha 70 (by omega), ha 71 (by omega), ha 72 (by omega), ha 73 (by omega), ha 74 (by omega), ha 93 (by omega), ha 94 (by omega), ha 96 (by omega)]
      exact h2
  · exact zv_img_fr (fun c hc hc2 => hx c (by omega)) (congrFun hx0 2) (congrFun hx0 6) (fun k hk hk2 => hm k (by omega)) (fun c hc hc2 => ha c (by omega)) g2
  · obtain ⟨⟨a, a1, a2⟩, b, c⟩ := g3
    refine ⟨⟨a, a1, by rw [hx0]; exact a2⟩, by rw [hm 12 (by omega), hx0]; exact b, fun i hi => ?_⟩
    obtain ⟨⟨v, v1, v2⟩, c2⟩ := c i hi
    exact ⟨⟨v, v1, by rw [hx 21 (by omega)]; exact v2⟩, by rw [ha 75 (by omega), hx 21 (by omega)]; exact c2⟩
  · exact zv_tap_fr (fun c hc hc2 => hx c (by omega)) (fun c hc hc2 => by rw [h2]) (by rw [h2]) (ha 107 (by omega)) (ha 108 (by omega)) (by rw [h3]) g5
  · exact zv_hou_fr (congrFun hx0 6) (fun c hc => hx c (by omega)) (by rw [h2]) (hm 10 (by omega)) (fun c hc hc2 => ha c (by omega)) g6
theorem zI_act (N : Nat) (hN : 12 < N) : zq_op_act N zI := by
  intro q j X M a b x hq hI
  have hI0 := hI
  obtain ⟨⟨hsc, heq⟩, -, -, ⟨-, -, ea⟩, -, -⟩ := hI
  have d4 : ¬ ((1 : Int32) = 0) := by decide
  have hE : zI (q + 1) j (zq_u1 X 54 1 (zn 0)) (zq_u1 M 69 61 (zn 0)) := by
    refine zI_acf (n := 0) hI0 (fun c hc => by rw [zq_un (by omega)]) rfl (fun k hk => by rw [zq_us1 (by omega)]) (fun c hc => by rw [zq_un (by omega)]) rfl (by omega) (by rw [zq_g1, if_pos ⟨rfl, rfl⟩]) (by rw [zq_g1, if_pos ⟨rfl, rfl⟩]) (fun i hi => ?_)
    rw [zq_un (c := 69) (by omega), zq_un (c := 54) (by omega)]
    exact ea i hi
  unfold f_X10_act f_X11_act f_X0_forget
  simp only [zq_b, Option.bind_some, zl_0]
  rw [zw_xr, zw_mr, zw_x, zw_m]
  simp only [Option.bind_some]
  by_cases c0 : a < 0 ∨ 2 < a
  · simp only [c0, if_true]
    exact ⟨_, _, _, rfl, rfl, hE⟩
  simp only [c0, d4, if_false]
  by_cases c1 : b < 0 ∨ 2 < b
  · have c1' : b < zn 0 ∨ 2 < b := c1
    simp only [c1', if_true, not_true, if_false]
    exact ⟨_, _, _, rfl, rfl, hE⟩
  have c1' : ¬ (b < zn 0 ∨ 2 < b) := c1
  have d5 : ¬ ((1 : Int32) = zn 0) := by decide
  simp only [c1', d5, if_false, not_false_iff, if_true]
  obtain ⟨r, hr, rfl⟩ := zw_in (n := 2) (fun h => c0 (Or.inl h)) (fun h => c0 (Or.inr h)) (by omega)
  obtain ⟨w, hw, rfl⟩ := zw_in (n := 2) (fun h => c1 (Or.inl h)) (fun h => c1 (Or.inr h)) (by omega)
  obtain ⟨_, _, _, _, _, s5, s6, _⟩ := hsc
  obtain ⟨_, _, _, _, _, _, _, _, _, _, t5, t6, _⟩ := heq
  obtain ⟨kk, hkk, k1⟩ := s5 r (by omega)
  obtain ⟨vv, hvv, k2⟩ := s6 r (by omega)
  have k1' : X.1 6 r = zn kk := k1
  have k2' : X.1 7 r = zn vv := k2
  have k3 : M.1 73 r = zn kk := (t5 r (by omega)).trans k1
  have k4 : M.1 74 r = zn vv := (t6 r (by omega)).trans k2
  rw [zn_ck (by omega) (by omega), zn_ck (by omega) (by omega), zn_ix (by omega), zq_un (c1 := 6) (by omega), zq_un (c1 := 7) (by omega), k1', k2']
  unfold f_X0_start f_X0_doFrom fr_X0_doFrom
  simp only [zq_b]
  have hR : za_R X M r kk vv 0 (zq_u1 (zq_u1 (zq_u1 (zq_u1 X 54 1 (zn 0)) 54 2 (zn r)) 54 3 (zn kk)) 54 4 (zn vv)) (zq_u1 M 69 61 (zn 0)) := by
    refine ⟨⟨rfl, fun c hc => ?_⟩, ⟨rfl, fun c hc => ?_, fun k hk => ?_⟩, ?_, ?_, fun i hi => ?_, ?_, ?_, ?_, ?_, ?_⟩
    · rw [zq_un (by omega), zq_un (by omega), zq_un (by omega), zq_un (by omega)]
    · rw [zq_un (by omega)]
    · rw [zq_us1 (by omega)]
    · rw [zq_us1 (by omega), zq_us1 (by omega), zq_us1 (by omega), zq_g1, if_pos ⟨rfl, rfl⟩]
    · rw [zq_g1, if_pos ⟨rfl, rfl⟩]
    · rw [zq_un (c := 69) (by omega), zq_un (c1 := 55) (by omega), zq_un (c1 := 55) (by omega), zq_un (c1 := 55) (by omega), zq_un (c1 := 55) (by omega)]
      exact ea i hi
    · rw [zq_us1 (by omega), zq_us1 (by omega), zq_g1, if_pos ⟨rfl, rfl⟩]
    · rw [zq_us1 (by omega), zq_g1, if_pos ⟨rfl, rfl⟩]
    · rw [zq_g1, if_pos ⟨rfl, rfl⟩]
    · rw [zq_un (by omega)]; exact k3
    · rw [zq_un (by omega)]; exact k4
  generalize hX1 : zq_u1 (zq_u1 (zq_u1 (zq_u1 X 54 1 (zn 0)) 54 2 (zn r)) 54 3 (zn kk)) 54 4 (zn vv) = X1 at hR ⊢
  generalize hM1 : zq_u1 M 69 61 (zn 0) = M1 at hR ⊢
  rw [hR.2.2.2.2.2.2.1]
  have fin : ∀ (v : Int32) X2 M2 n2, za_R X M r kk vv n2 X2 M2 → n2 ≤ 12 → zI (q + 1) j X2 M2 := by
    intro v X2 M2 n2 h hn
    obtain ⟨⟨a1, a2⟩, ⟨b1, b2, b3⟩, c1, c2, c3, -⟩ := h
    exact zI_acf (n := n2) hI0 a2 a1 b3 b2 b1 (by omega) c1 c2 c3
  rcases (show w = 0 ∨ w = 1 ∨ w = 2 by omega) with rfl | rfl | rfl
  · obtain ⟨v, X2, M2, n2, e1, e2, R2, e4⟩ := za_VH (N := N) (j := j) (e := 0) 62 x hN (by omega) hkk (by omega) 0 X1 M1 (by omega) hR
    refine ⟨v, X2, M2, ?_, ?_, fin v X2 M2 n2 R2 (by omega)⟩
    · refine za_c (za_c e1 rfl) rfl
    · rw [if_neg (by decide)]
      exact za_c e2 rfl
  · obtain ⟨v, X2, M2, n2, e1, e2, R2, e4⟩ := za_VS (N := N) (j := j) (e := 0) 59 x hN (by omega) hkk (by omega) 0 X1 M1 (by omega) hR
    refine ⟨v, X2, M2, ?_, ?_, fin v X2 M2 n2 R2 (by omega)⟩
    · refine za_c (za_c e1 rfl) rfl
    · rw [if_pos (by decide), if_neg (by decide)]
      exact za_c e2 rfl
  · obtain ⟨v, X2, M2, n2, e1, e2, R2, e4⟩ := za_VT (N := N) (j := j) (e := 0) 57 x hN (by omega) hkk (by omega) 0 X1 M1 (by omega) hR
    refine ⟨v, X2, M2, ?_, ?_, fin v X2 M2 n2 R2 (by omega)⟩
    · refine za_c (za_c e1 rfl) rfl
    · rw [if_pos (by decide), if_pos (by decide)]
      exact za_c e2 rfl
