theorem zv_sc_fr {X X1 : zq_M} {s q hc : Nat} (h : ∀ c, s ≤ c → c ≤ s + 9 → X1.1 c = X.1 c) (hs : zv_sc X s q hc) : zv_sc X1 s q hc := by
  have e0 := h s (by omega) (by omega)
  have e1 := h (s + 1) (by omega) (by omega)
  have e2 := h (s + 2) (by omega) (by omega)
  have e3 := h (s + 3) (by omega) (by omega)
  have e4 := h (s + 4) (by omega) (by omega)
  have e5 := h (s + 5) (by omega) (by omega)
  have e6 := h (s + 6) (by omega) (by omega)
  have e7 := h (s + 7) (by omega) (by omega)
  have e8 := h (s + 8) (by omega) (by omega)
  have e9 := h (s + 9) (by omega) (by omega)
  unfold zv_sc zv_bd zx at hs ⊢
  rw [e0, e1, e2, e3, e4, e5, e6, e7, e8, e9]
  exact hs
theorem zv_now_fr {q : Nat} {X M X1 M1 : zq_M} (hx : ∀ c, c ≤ 10 → X1.1 c = X.1 c) (hm : ∀ k, k < 4 ∨ k = 11 ∨ k = 36 ∨ k = 42 → M1.1 69 k = M.1 69 k) (ha : ∀ c, 70 ≤ c ∧ c ≤ 74 ∨ c = 93 ∨ c = 94 ∨ c = 96 → M1.1 c = M.1 c) (h : zv_now q X M) : zv_now q X1 M1 := by
  obtain ⟨h1, h2⟩ := h
  refine ⟨?_, ?_⟩
  · rw [show zx X1 0 6 = zx X 0 6 from by unfold zx; rw [hx 0 (by omega)]]
    exact zv_sc_fr (fun c _ _ => hx c (by omega)) h1
  · unfold zv_eq zx at h2 ⊢
    rw [hx 1 (by omega), hx (1 + 1) (by omega), hx (1 + 2) (by omega), hx (1 + 3) (by omega), hx (1 + 4) (by omega), hx (1 + 5) (by omega), hx (1 + 6) (by omega), hx (1 + 7) (by omega), hx (1 + 8) (by omega), hx (1 + 9) (by omega), hm 0 (by omega), hm 1 (by omega), hm 2 (by omega), hm 3 (by omega), hm 11 (by omega), hm 36 (by omega), hm 42 (by omega), ha 70 (by omega), ha 71 (by omega), ha 72 (by omega), ha 73 (by omega), ha 74 (by omega), ha 93 (by omega), ha 94 (by omega), ha 96 (by omega)]
    exact h2
theorem zv_img_fr {q : Nat} {X M X1 M1 : zq_M} (hx : ∀ c, 11 ≤ c → c ≤ 20 → X1.1 c = X.1 c) (h02 : X1.1 0 2 = X.1 0 2) (h06 : X1.1 0 6 = X.1 0 6) (hm : ∀ k, 45 ≤ k → k ≤ 52 → M1.1 69 k = M.1 69 k) (ha : ∀ c, 98 ≤ c → c ≤ 105 → M1.1 c = M.1 c) (h : zv_img q X M) : zv_img q X1 M1 := by
  unfold zv_img at h ⊢
  rw [show zx X1 0 6 = zx X 0 6 from by unfold zx; rw [h06], h02, hm 45 (by omega) (by omega)]
  rcases h with h | ⟨ha1, hb, h1, h2⟩
  · exact Or.inl h
  · refine Or.inr ⟨ha1, hb, zv_sc_fr (fun c a b => hx c a (by omega)) h1, ?_⟩
    unfold zv_eq zx at h2 ⊢
    rw [hx 11 (by omega) (by omega), hx (11 + 1) (by omega) (by omega), hx (11 + 2) (by omega) (by omega), hx (11 + 3) (by omega) (by omega), hx (11 + 4) (by omega) (by omega), hx (11 + 5) (by omega) (by omega), hx (11 + 6) (by omega) (by omega), hx (11 + 7) (by omega) (by omega), hx (11 + 8) (by omega) (by omega), hx (11 + 9) (by omega) (by omega), hm 47 (by omega) (by omega), hm 48 (by omega) (by omega), hm 49 (by omega) (by omega), hm 50 (by omega) (by omega), hm 46 (by omega) (by omega), hm 51 (by omega) (by omega), hm 52 (by omega) (by omega), ha 98 (by omega) (by omega), ha 99 (by omega) (by omega), ha 100 (by omega) (by omega), ha 101 (by omega) (by omega), ha 102 (by omega) (by omega), ha 103 (by omega) (by omega), ha 104 (by omega) (by omega), ha 105 (by omega) (by omega)]
    exact h2
theorem zv_txt_fr {X M X1 M1 : zq_M} (h04 : X1.1 0 4 = X.1 0 4) (hx : X1.1 21 = X.1 21) (hm : M1.1 69 12 = M.1 69 12) (ha : M1.1 75 = M.1 75) (h : zv_txt X M) : zv_txt X1 M1 := by
  unfold zv_txt zv_bd at h ⊢
  rw [h04, hx, hm, ha]
  exact h
theorem zv_act_fr {q : Nat} {X M X1 M1 : zq_M} (h04 : X1.1 54 1 = X.1 54 1) (hx : X1.1 55 = X.1 55) (hm : M1.1 69 61 = M.1 69 61) (ha : M1.1 106 = M.1 106) (h : zv_act q X M) : zv_act q X1 M1 := by
  unfold zv_act at h ⊢
  rw [h04, hx, hm, ha]
  exact h
theorem zv_tap_fr {X M X1 M1 : zq_M} (hx : ∀ c, 57 ≤ c → c ≤ 67 → X1.1 c = X.1 c) (h2 : ∀ c, 58 ≤ c → c ≤ 68 → X1.2.1 c = X.2.1 c) (h3 : X1.2.2 56 = X.2.2 56) (ha : M1.1 107 = M.1 107) (hb : M1.1 108 = M.1 108) (hc : M1.2.1 109 = M.2.1 109) (h : zv_tap X M) : zv_tap X1 M1 := by
  intro t ht
  have := h t ht
  unfold zv_bd at this ⊢
  rw [hx (57 + 2 * t) (by omega) (by omega), h2 (58 + 2 * t) (by omega) (by omega), h3, ha, hb, hc]
  exact this
theorem zh_x_fr {X X1 : zq_M} {h C : Nat} {W U E : Nat → Nat} {T : Nat → List Nat} (hx : ∀ c, h ≤ c → c ≤ h + 4 → X1.1 c = X.1 c) (hh : zh_x X h C W U E T) : zh_x X1 h C W U E T := by
  unfold zh_x at hh ⊢
  rw [hx h (by omega) (by omega), hx (h + 1) (by omega) (by omega), hx (h + 2) (by omega) (by omega), hx (h + 3) (by omega) (by omega), hx (h + 4) (by omega) (by omega)]
  exact hh
theorem zh_m_fr {M M1 : zq_M} {i C : Nat} {W U F : Nat → Nat} {T : Nat → List Nat} (ha : ∀ c, 76 ≤ c → (c ≤ 81 ∨ c = 83) → M1.1 c = M.1 c) (hh : zh_m M i C W U F T) : zh_m M1 i C W U F T := by
  unfold zh_m at hh ⊢
  rw [ha 76 (by omega) (by omega), ha 77 (by omega) (by omega), ha 78 (by omega) (by omega), ha 79 (by omega) (by omega), ha 80 (by omega) (by omega), ha 81 (by omega) (by omega)]
  exact hh
theorem zv_hh_fr {X M X1 M1 : zq_M} {h i : Nat} (hx : ∀ c, h ≤ c → c ≤ h + 4 → X1.1 c = X.1 c) (ha : ∀ c, 76 ≤ c → (c ≤ 81 ∨ c = 83) → M1.1 c = M.1 c) (hh : zv_hh X M h i) : zv_hh X1 M1 h i := by
  obtain ⟨C, W, U, E, F, T, h1, h2⟩ := hh
  exact ⟨C, W, U, E, F, T, zh_x_fr hx h1, zh_m_fr ha h2⟩
theorem zv_hou_fr {j : Nat} {X M X1 M1 : zq_M} (h6 : X1.1 0 6 = X.1 0 6) (hx : ∀ c, c = 23 ∨ 111 ≤ c → X1.1 c = X.1 c) (h3 : X1.2.2 22 = X.2.2 22) (hm : M1.1 69 10 = M.1 69 10) (ha : ∀ c, 76 ≤ c → (c ≤ 81 ∨ c = 83) → M1.1 c = M.1 c) (h : zv_hou j X M) : zv_hou j X1 M1 := by
  obtain ⟨a1, a2, a3, a4, a6, a5, a7, a8⟩ := h
  refine ⟨?_, ?_, ?_, ?_, ?_, ?_, a7, fun i hi => by rw [h3]; exact a8 i hi⟩
  · unfold zv_bd at a1 ⊢; rw [h6]; exact a1
  · rw [hm, h6]; exact a2
  · rw [hx 23 (by omega)]; exact a3
  · rw [hx 23 (by omega)]; exact a4
  · rw [ha 83 (by omega) (by omega)]; exact a6
  · intro i hi
    unfold zx at hi
    rw [h6] at hi
    obtain ⟨h, b1, b2, b3⟩ := a5 i hi
    refine ⟨h, b1, ?_, ?_⟩
    · rw [h3]; exact b2
    · exact zv_hh_fr (fun c c1 c2 => hx c (by omega)) ha b3
def zfx (X X1 : zq_M) : Prop := (∀ c, c ≤ 27 ∨ 55 ≤ c → X1.1 c = X.1 c) ∧ X1.1 54 1 = X.1 54 1 ∧ X1.2.1 = X.2.1 ∧ X1.2.2 22 = X.2.2 22 ∧ X1.2.2 56 = X.2.2 56
def zfm (M M1 : zq_M) : Prop := (∀ k, k < 4 ∨ k = 10 ∨ k = 11 ∨ k = 12 ∨ k = 36 ∨ k = 42 ∨ 45 ≤ k ∧ k ≤ 52 ∨ k = 61 → M1.1 69 k = M.1 69 k) ∧ (∀ c, 70 ≤ c ∧ c ≤ 81 ∨ c = 83 ∨ c = 93 ∨ c = 94 ∨ c = 96 ∨ 98 ≤ c ∧ c ≤ 108 → M1.1 c = M.1 c) ∧ M1.2.1 109 = M.2.1 109
theorem zfx_r (X : zq_M) : zfx X X := ⟨fun _ _ => rfl, rfl, rfl, rfl, rfl⟩
theorem zfm_r (X : zq_M) : zfm X X := ⟨fun _ _ => rfl, fun _ _ => rfl, rfl⟩
theorem zfx_t {X Y Z : zq_M} (h : zfx X Y) (g : zfx Y Z) : zfx X Z := ⟨fun c hc => (g.1 c hc).trans (h.1 c hc), g.2.1.trans h.2.1, g.2.2.1.trans h.2.2.1, g.2.2.2.1.trans h.2.2.2.1, g.2.2.2.2.trans h.2.2.2.2⟩
theorem zfm_t {X Y Z : zq_M} (h : zfm X Y) (g : zfm Y Z) : zfm X Z := ⟨fun c hc => (g.1 c hc).trans (h.1 c hc), fun c hc => (g.2.1 c hc).trans (h.2.1 c hc), g.2.2.trans h.2.2⟩
theorem zI_scr {q j : Nat} {X M X1 M1 : zq_M} (hx : zfx X X1) (hm : zfm M M1) (h : zI q j X M) : zI q j X1 M1 := by
  obtain ⟨x1, x2, x3, x4, x5⟩ := hx
  obtain ⟨m1, m2, m3⟩ := hm
  obtain ⟨h1, h2, h3, h4, h5, h6⟩ := h
  refine ⟨?_, ?_, ?_, ?_, ?_, ?_⟩
  · exact zv_now_fr (fun c hc => x1 c (by omega)) (fun k hk => m1 k (by omega)) (fun c hc => m2 c (by omega)) h1
  · exact zv_img_fr (fun c hc hc2 => x1 c (by omega)) (congrFun (x1 0 (by omega)) 2) (congrFun (x1 0 (by omega)) 6) (fun k hk hk2 => m1 k (by omega)) (fun c hc hc2 => m2 c (by omega)) h2
  · exact zv_txt_fr (congrFun (x1 0 (by omega)) 4) (x1 21 (by omega)) (m1 12 (by omega)) (m2 75 (by omega)) h3
  · exact zv_act_fr x2 (x1 55 (by omega)) (m1 61 (by omega)) (m2 106 (by omega)) h4
  · exact zv_tap_fr (fun c hc hc2 => x1 c (by omega)) (fun c hc hc2 => by rw [x3]) x5 (m2 107 (by omega)) (m2 108 (by omega)) m3 h5
  · exact zv_hou_fr (congrFun (x1 0 (by omega)) 6) (fun c hc => x1 c (by omega)) x4 (m1 10 (by omega)) (fun c hc hc2 => m2 c (by omega)) h6
