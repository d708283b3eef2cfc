theorem zv_bd_u {X : zq_M} {c k v c1 k1 m : Nat} (h : zv_bd X c1 k1 m) (hv : c1 = c → v < m) : zv_bd (zq_u1 X c k (zn v)) c1 k1 m := by
  unfold zv_bd
  rw [zq_g1]
  by_cases h2 : c1 = c ∧ k1 = k
  · rw [if_pos h2]; exact ⟨v, hv h2.1, rfl⟩
  · rw [if_neg h2]; exact h
theorem zv_e_u {M X : zq_M} {c k c' k' c1 k1 c2 k2 : Nat} {v : Int32} (e : M.1 c1 k1 = X.1 c2 k2) (h : (c1 = c ∧ k1 = k) ↔ (c2 = c' ∧ k2 = k')) : (zq_u1 M c k v).1 c1 k1 = (zq_u1 X c' k' v).1 c2 k2 := by
  rw [zq_g1, zq_g1]
  by_cases h2 : c1 = c ∧ k1 = k
  · rw [if_pos h2, if_pos (h.mp h2)]
  · rw [if_neg h2, if_neg (fun h3 => h2 (h.mpr h3))]; exact e
theorem zx_u {X : zq_M} {c k c1 : Nat} {v : Int32} (h : c1 ≠ c) : zx (zq_u1 X c k v) c1 = zx X c1 := by
  funext i
  unfold zx
  rw [zq_g1, if_neg (fun h2 => h h2.1)]
theorem zq_un {X : zq_M} {c k c1 : Nat} {v : Int32} (h : c1 ≠ c) : (zq_u1 X c k v).1 c1 = X.1 c1 := by
  funext i
  rw [zq_g1, if_neg (fun h2 => h h2.1)]
theorem zq_us1 {X : zq_M} {c k c1 k1 : Nat} {v : Int32} (h : c1 ≠ c ∨ k1 ≠ k) : (zq_u1 X c k v).1 c1 k1 = X.1 c1 k1 := by
  rw [zq_g1, if_neg (by omega)]
def zv_ca : List (Nat × Nat × Nat) := [(2, 70, 100), (3, 71, 100), (5, 72, 256), (6, 73, 7), (7, 74, 10), (8, 93, 32), (9, 94, 5)]
theorem zv_now_arr {q c c' m k v : Nat} {X M : zq_M} (hc : (c', c, m) ∈ zv_ca) (hv : v < m) (h : zv_now q X M) (hk : c' = 8 ∨ c' = 9 → zx X 1 11 ≤ k := by intro h; omega) : zv_now q (zq_u1 X c' k (zn v)) (zq_u1 M c k (zn v)) := by
  obtain ⟨⟨h1, h2, h3, h4, h5, h6, h7, h8, h9, h10, h11, h12, h13, h14, h15, h16, h17⟩, ⟨e1, e2, e3, e4, e5, e6, e7, e8, e9, e10, e11, e12, e13, e14, e15⟩⟩ := h
  simp only [zv_ca, List.mem_cons, List.not_mem_nil, or_false, Prod.mk.injEq] at hc
  refine ⟨⟨zv_bd_u h1 (by omega), fun i hi => zv_bd_u (h2 i hi) (by omega), fun i hi => zv_bd_u (h3 i hi) (by omega), fun i hi => zv_bd_u (h4 i hi) (by omega), fun i hi => zv_bd_u (h5 i hi) (by omega), fun i hi => zv_bd_u (h6 i hi) (by omega), fun i hi => zv_bd_u (h7 i hi) (by omega), zv_bd_u h8 (by omega), zv_bd_u h9 (by omega), zv_bd_u h10 (by omega), fun i hi => zv_bd_u (h11 i hi) (by omega), fun i hi => zv_bd_u (h12 i hi) (by omega), zv_bd_u h13 (by omega), ?_, ?_, ?_, ?_⟩, ?_⟩
  · intro i hi
    rw [zq_us1 (by omega)]; exact h14 i hi
  · rw [zq_us1 (by omega), zx_u (by omega)]
    rcases h15 with h | h
    · exact Or.inl h
    · exact Or.inr (zv_bd_u h (by omega))
  · intro i hi
    rw [zq_us1 (by omega), zx_u (by omega)]; exact h16 i hi
  · intro i hi hi2
    rw [zx_u (by omega)] at hi2
    have h18 := h17 i hi hi2
    unfold zx at h18 hi2 hk ⊢
    rw [zq_us1 (by omega), zq_us1 (by omega), zq_us1 (by omega)]
    exact h18
  · refine ⟨zv_e_u e1 (by omega), ?_, zv_e_u e3 (by omega), zv_e_u e4 (by omega), zv_e_u e5 (by omega), zv_e_u e6 (by omega), zv_e_u e7 (by omega), fun i hi => zv_e_u (e8 i hi) (by omega), fun i hi => zv_e_u (e9 i hi) (by omega), fun i hi => zv_e_u (e10 i hi) (by omega), fun i hi => zv_e_u (e11 i hi) (by omega), fun i hi => zv_e_u (e12 i hi) (by omega), fun i hi => zv_e_u (e13 i hi) (by omega), fun i hi => zv_e_u (e14 i hi) (by omega), fun i hi => zv_e_u (e15 i hi) (by omega)⟩
    rw [zq_us1 (by omega), zx_u (by omega)]; exact e2
def zv_cs : List (Nat × Nat × Nat) := [(8, 3, 10000), (11, 36, 13), (13, 42, 13)]
theorem zv_now_slot {q c c' m v : Nat} {X M : zq_M} (hc : (c', c, m) ∈ zv_cs) (hv : v < m) (h : zv_now q X M) (ho : c' = 11 → ∀ i, i < v → zs_cnt (zs_bit (zx X (1 + 7) i)) 10 % 2 = 1 ∧ zx X (1 + 8) i < zx X 1 0 := by intro h; omega) : zv_now q (zq_u1 X 1 c' (zn v)) (zq_u1 M 69 c (zn v)) := by
  obtain ⟨⟨h1, h2, h3, h4, h5, h6, h7, h8, h9, h10, h11, h12, h13, h14, h15, h16, h17⟩, ⟨e1, e2, e3, e4, e5, e6, e7, e8, e9, e10, e11, e12, e13, e14, e15⟩⟩ := h
  simp only [zv_cs, List.mem_cons, List.not_mem_nil, or_false, Prod.mk.injEq] at hc
  have hn : ∀ {m1 k1 : Nat}, zv_bd X 1 k1 m1 → (k1 = c' → v < m1) → zv_bd (zq_u1 X 1 c' (zn v)) 1 k1 m1 := by
    intro m1 k1 hb hv2
    unfold zv_bd
    rw [zq_g1]
    by_cases h2 : 1 = 1 ∧ k1 = c'
    · rw [if_pos h2]; exact ⟨v, hv2 h2.2, rfl⟩
    · rw [if_neg h2]; exact hb
  refine ⟨⟨hn h1 (by omega), fun i hi => zv_bd_u (h2 i hi) (by omega), fun i hi => zv_bd_u (h3 i hi) (by omega), fun i hi => zv_bd_u (h4 i hi) (by omega), fun i hi => zv_bd_u (h5 i hi) (by omega), fun i hi => zv_bd_u (h6 i hi) (by omega), fun i hi => zv_bd_u (h7 i hi) (by omega), hn h8 (by omega), hn h9 (by omega), hn h10 (by omega), fun i hi => zv_bd_u (h11 i hi) (by omega), fun i hi => zv_bd_u (h12 i hi) (by omega), hn h13 (by omega), ?_, ?_, ?_, ?_⟩, ?_⟩
  · intro i hi
    rw [zq_us1 (by omega)]; exact h14 i hi
  · rw [zq_us1 (by omega), zx_u (by omega)]
    rcases h15 with h | h
    · exact Or.inl h
    · exact Or.inr (hn h (by omega))
  · intro i hi
    rw [zq_us1 (by omega)]
    unfold zx
    rw [zq_us1 (by omega)]
    exact h16 i hi
  · intro i hi hi2
    have e8 : zx (zq_u1 X 1 c' (zn v)) (1 + 7) i = zx X (1 + 7) i := by rw [zx_u (by omega)]
    have e9 : zx (zq_u1 X 1 c' (zn v)) (1 + 8) i = zx X (1 + 8) i := by rw [zx_u (by omega)]
    have e0 : zx (zq_u1 X 1 c' (zn v)) 1 0 = zx X 1 0 := by unfold zx; rw [zq_us1 (by omega)]
    rw [e8, e9, e0]
    by_cases hc11 : c' = 11
    · refine ho hc11 i ?_
      unfold zx at hi2
      rw [zq_g1, if_pos ⟨rfl, hc11.symm⟩, zn_ix (by omega)] at hi2
      exact hi2
    · refine h17 i hi ?_
      unfold zx at hi2 ⊢
      rw [zq_us1 (by omega)] at hi2
      exact hi2
  · refine ⟨zv_e_u e1 (by omega), ?_, zv_e_u e3 (by omega), zv_e_u e4 (by omega), zv_e_u e5 (by omega), zv_e_u e6 (by omega), zv_e_u e7 (by omega), fun i hi => zv_e_u (e8 i hi) (by omega), fun i hi => zv_e_u (e9 i hi) (by omega), fun i hi => zv_e_u (e10 i hi) (by omega), fun i hi => zv_e_u (e11 i hi) (by omega), fun i hi => zv_e_u (e12 i hi) (by omega), fun i hi => zv_e_u (e13 i hi) (by omega), fun i hi => zv_e_u (e14 i hi) (by omega), fun i hi => zv_e_u (e15 i hi) (by omega)⟩
    rw [zq_us1 (by omega), zx_u (by omega)]; exact e2
theorem zI_now {q j : Nat} {X M X1 M1 : zq_M} (h : zI q j X M) (hx0 : X1.1 0 = X.1 0) (hx : ∀ c, 11 ≤ c ∧ (c < 28 ∨ c = 55 ∨ 55 < c) → X1.1 c = X.1 c) (h54 : X1.1 54 1 = X.1 54 1) (h2 : X1.2 = X.2) (hm : ∀ k, k = 10 ∨ k = 12 ∨ 45 ≤ k ∧ k ≤ 52 ∨ k = 61 → M1.1 69 k = M.1 69 k) (ha : ∀ c, 75 ≤ c ∧ c ≤ 81 ∨ c = 83 ∨ 98 ≤ c ∧ c ≤ 108 → M1.1 c = M.1 c) (h3 : M1.2.1 109 = M.2.1 109) (hn : zv_now (q + 1) X1 M1) : zI (q + 1) j X1 M1 := by
  obtain ⟨g1, g2, g3, g4, g5, g6⟩ := zI_idle q j X M h
  refine ⟨hn, ?_, ?_, ?_, ?_, ?_⟩
  · exact zv_img_fr (fun c hc hc2 => hx c (by omega)) (congrFun hx0 2) (congrFun hx0 6) (fun k hk hk2 => hm k (by omega)) (fun c hc hc2 => ha c (by omega)) g2
  · exact zv_txt_fr (congrFun hx0 4) (hx 21 (by omega)) (hm 12 (by omega)) (ha 75 (by omega)) g3
  · exact zv_act_fr h54 (hx 55 (by omega)) (hm 61 (by omega)) (ha 106 (by omega)) g4
  · exact zv_tap_fr (fun c hc hc2 => hx c (by omega)) (fun c hc hc2 => by rw [h2]) (by rw [h2]) (ha 107 (by omega)) (ha 108 (by omega)) h3 g5
  · exact zv_hou_fr (congrFun hx0 6) (fun c hc => hx c (by omega)) (by rw [h2]) (hm 10 (by omega)) (fun c hc hc2 => ha c (by omega)) g6
