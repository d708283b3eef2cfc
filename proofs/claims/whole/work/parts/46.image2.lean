theorem zc_sc {X X1 : zq_M} {h a q hc : Nat} (g : zc_al X X1 h a) (hs : zv_sc X a q hc) : zv_sc X1 h q hc := by
  obtain ⟨_, _, g0, g7, g8, g11, g13, g14, b1, b2, b3, b4, b5, b6, b7, b8, b9⟩ := g
  obtain ⟨h1, h2, h3, h4, h5, h6, h7, h8, h9, h10, h11, h12, h13, h14, h15, h16, h17⟩ := hs
  unfold zv_sc zv_bd zx at *
  refine ⟨by rw [g0]; exact h1, fun i hi => by rw [b1 i hi]; exact h2 i hi, fun i hi => by rw [b2 i hi]; exact h3 i hi, fun i hi => by rw [b3 i hi]; exact h4 i hi, fun i hi => by rw [b4 i hi]; exact h5 i hi, fun i hi => by rw [b5 i hi]; exact h6 i hi, fun i hi => by rw [b6 i hi]; exact h7 i hi, by rw [g7]; exact h8, by rw [g8]; exact h9, by rw [g11]; exact h10, fun i hi => by rw [b7 i hi]; exact h11 i hi, fun i hi => by rw [b8 i hi]; exact h12 i hi, by rw [g13]; exact h13, fun i hi => by rw [b9 i hi]; exact h14 i hi, by rw [g14]; exact h15, fun i hi hk => by rw [b3 i hi]; rw [g0] at hk; exact h16 i hi hk, fun i hi hk => by rw [b7 i hi, b8 i hi, g0]; rw [g11] at hk; exact h17 i hi hk⟩
theorem zc_pk {X X1 : zq_M} {h a : Nat} (g : zc_al X X1 h a) : zv_pk (zx X1 (h + 3)) = zv_pk (zx X (a + 3)) := by
  obtain ⟨_, _, _, _, _, _, _, _, _, _, b3, _⟩ := g
  unfold zv_pk zx
  rw [b3 0 (by omega), b3 1 (by omega), b3 2 (by omega), b3 3 (by omega), b3 4 (by omega)]
theorem zI_image (N : Nat) (hN : 60 < N) : zq_op_image N zI := by
  intro q j X M hq hI
  have hI1 := zI_idle q j X M hI
  obtain ⟨X1, x1, xa⟩ := zc_go N j X
  have xa2 := xa
  obtain ⟨k1, k2, k0, k7, k8, k11, k13, k14, b1, b2, b3, b4, b5, b6, b7, b8, b9⟩ := xa2
  obtain ⟨g1, g2, g3, g4, g5, g6⟩ := hI1
  unfold f_X10_image f_X11_image
  rw [x1]
  have z1 : ∀ (o : Option (Int32 × zq_M)), zq_gz (1 : Int32) o = o := fun o => by unfold zq_gz; rw [if_pos (Or.inr rfl)]
  simp only [Option.bind_some, z1, zq_b]
  obtain ⟨M0, hM0⟩ : ∃ M0 : zq_M, M0 = zq_u1 (zq_u1 (zq_u1 (zq_u1 (zq_u1 (zq_u1 (zq_u1 (zq_u1 M 69 45 1) 69 46 (M.1 69 11)) 69 47 (M.1 69 0)) 69 48 (M.1 69 1)) 69 49 (M.1 69 2)) 69 50 (M.1 69 3)) 69 51 (M.1 69 36)) 69 52 (M.1 69 42) := ⟨_, rfl⟩
  have n2 : M0.2 = M.2 := by rw [hM0]; rfl
  have nc : ∀ c k, c ≠ 69 ∨ k < 45 ∨ 52 < k → M0.1 c k = M.1 c k := by
    intro c k hc
    rw [hM0, zq_us1 (by omega), zq_us1 (by omega), zq_us1 (by omega), zq_us1 (by omega), zq_us1 (by omega), zq_us1 (by omega), zq_us1 (by omega), zq_us1 (by omega)]
  have s45 : M0.1 69 45 = 1 := by rw [hM0]; simp [zq_g1]
  have s46 : M0.1 69 46 = M.1 69 11 := by rw [hM0]; simp [zq_g1]
  have s47 : M0.1 69 47 = M.1 69 0 := by rw [hM0]; simp [zq_g1]
  have s48 : M0.1 69 48 = M.1 69 1 := by rw [hM0]; simp [zq_g1]
  have s49 : M0.1 69 49 = M.1 69 2 := by rw [hM0]; simp [zq_g1]
  have s50 : M0.1 69 50 = M.1 69 3 := by rw [hM0]; simp [zq_g1]
  have s51 : M0.1 69 51 = M.1 69 36 := by rw [hM0]; simp [zq_g1]
  have s52 : M0.1 69 52 = M.1 69 42 := by rw [hM0]; simp [zq_g1]
  obtain ⟨M1, m1, m2, m3, d5a, d5b, d5c, d3a, d3b, d12a, d12b, d12c⟩ := zm_5 N M0 (by omega)
  have hm : zq_loop (fun _ _ => none) (b_X11_image_63 N) N 0 (zq_u1 (zq_u1 (zq_u1 (zq_u1 (zq_u1 (zq_u1 (zq_u1 (zq_u1 M 69 45 1) 69 46 (M.1 69 11)) 69 47 (M.1 69 0)) 69 48 (M.1 69 1)) 69 49 (M.1 69 2)) 69 50 (M.1 69 3)) 69 51 (M.1 69 36)) 69 52 (M.1 69 42)) = some (M0.1 69 0, M1) := by rw [← hM0]; exact m1
  refine ⟨X1.1 1 0, zq_u1 X1 0 2 1, M1, rfl, ?_, ?_⟩
  · refine Eq.trans ?_ (hm.trans ?_)
    · rfl
    · rw [nc 69 0 (by omega), k2 1 0 (by omega), g1.2.1]
  have hX : ∀ c k, c < 11 ∨ 20 < c → c ≠ 0 ∨ k ≠ 2 → (zq_u1 X1 0 2 1).1 c k = X.1 c k := by
    intro c k hc hk
    rw [zq_us1 (by omega), k2 c k (by omega)]
  have hXX : ∀ c, c ≠ 0 → (zq_u1 X1 0 2 1).1 c = X1.1 c := fun c hc => zq_un (by omega)
  refine ⟨?_, ?_, ?_, ?_, ?_, ?_⟩
  · obtain ⟨a1, a2⟩ := g1
    refine ⟨?_, ?_⟩
    · rw [show zx (zq_u1 X1 0 2 1) 0 6 = zx X 0 6 from by unfold zx; rw [hX 0 6 (by omega) (by omega)]]
      exact zv_sc_fr (fun c _ _ => funext fun k => hX c k (by omega) (by omega)) a1
    · have hf : ∀ c, 0 < c ∧ c < 11 → (zq_u1 X1 0 2 1).1 c = X.1 c := fun c hc => funext fun k => hX c k (by omega) (by omega)
      have hg : ∀ k, k < 45 → M1.1 69 k = M.1 69 k := fun k hk => (m3 69 k (by omega)).trans (nc 69 k (by omega))
      have hh : ∀ c, c ≠ 69 ∧ (c < 98 ∨ 105 < c) → M1.1 c = M.1 c := fun c hc => funext fun k => (m3 c k (by omega)).trans (nc c k (by omega))
      unfold zv_eq zx at a2 ⊢
      rw [hf 1 (by omega), hf (1 + 1) (by omega), hf (1 + 2) (by omega), hf (1 + 3) (by omega), hf (1 + 4) (by omega), hf (1 + 5) (by omega), hf (1 + 6) (by omega), hf (1 + 7) (by omega), hf (1 + 8) (by omega), hf (1 + 9) (by omega), hg 0 (by omega), hg 1 (by omega), hg 2 (by omega), hg 3 (by omega), hg 11 (by omega), hg 36 (by omega), hg 42 (by omega), hh 70 (by omega), hh 71 (by omega), hh 72 (by omega), hh 73 (by omega), hh 74 (by omega), hh 93 (by omega), hh 94 (by omega), hh 96 (by omega)]
      exact a2
  · right
    refine ⟨by rw [zq_g1, if_pos ⟨rfl, rfl⟩], (m3 69 45 (by omega)).trans s45, ?_, ?_⟩
    · rw [show zx (zq_u1 X1 0 2 1) 0 6 = zx X 0 6 from by unfold zx; rw [hX 0 6 (by omega) (by omega)]]
      exact zv_sc_fr (fun c _ _ => hXX c (by omega)) (zc_sc xa g1.1)
    · obtain ⟨e1, e2, e3, e4, e5, e6, e7, e8, e9, e10, e11, e12, e13, e14, e15⟩ := g1.2
      have t : ∀ c k, c ≠ 0 → (zq_u1 X1 0 2 1).1 c k = X1.1 c k := fun c k hc => zq_us1 (by omega)
      have u : ∀ k, M1.1 69 k = M0.1 69 k := fun k => m3 69 k (by omega)
      refine ⟨?_, ?_, ?_, ?_, ?_, ?_, ?_, ?_, ?_, ?_, ?_, ?_, ?_, ?_, ?_⟩
      · rw [u, s47, e1, t _ _ (by omega), k0]
      · rw [u, s48, e2, zx_u (by omega), zc_pk xa]
      · rw [u, s49, e3, t _ _ (by omega), k7]
      · rw [u, s50, e4, t _ _ (by omega), k8]
      · rw [u, s46, e5, t _ _ (by omega), k14]
      · rw [u, s51, e6, t _ _ (by omega), k11]
      · rw [u, s52, e7, t _ _ (by omega), k13]
      · intro i hi; rw [d5a i hi, nc _ _ (by omega), e8 i hi, t _ _ (by omega), b1 i hi]
      · intro i hi; rw [d5b i hi, nc _ _ (by omega), e9 i hi, t _ _ (by omega), b2 i hi]
      · intro i hi; rw [d5c i hi, nc _ _ (by omega), e10 i hi, t _ _ (by omega), b4 i hi]
      · intro i hi; rw [d3a i hi, nc _ _ (by omega), e11 i hi, t _ _ (by omega), b5 i hi]
      · intro i hi; rw [d3b i hi, nc _ _ (by omega), e12 i hi, t _ _ (by omega), b6 i hi]
      · intro i hi; rw [d12a i hi, nc _ _ (by omega), e13 i hi, t _ _ (by omega), b7 i hi]
      · intro i hi; rw [d12b i hi, nc _ _ (by omega), e14 i hi, t _ _ (by omega), b8 i hi]
      · intro i hi; rw [d12c i hi, nc _ _ (by omega), e15 i hi, t _ _ (by omega), b9 i hi]
  · exact zv_txt_fr (hX 0 4 (by omega) (by omega)) (funext fun k => hX 21 k (by omega) (by omega)) ((m3 69 12 (by omega)).trans (nc 69 12 (by omega))) (funext fun k => (m3 75 k (by omega)).trans (nc 75 k (by omega))) g3
  · exact zv_act_fr (hX 54 1 (by omega) (by omega)) (funext fun k => hX 55 k (by omega) (by omega)) ((m3 69 61 (by omega)).trans (nc 69 61 (by omega))) (funext fun k => (m3 106 k (by omega)).trans (nc 106 k (by omega))) g4
  · exact zv_tap_fr (fun c hc hc2 => funext fun k => hX c k (by omega) (by omega)) (fun c hc hc2 => by rw [zq_g12, k1]) (by rw [zq_g12, k1]) (funext fun k => (m3 107 k (by omega)).trans (nc 107 k (by omega))) (funext fun k => (m3 108 k (by omega)).trans (nc 108 k (by omega))) (by rw [m2, n2]) g5
  · exact zv_hou_fr (hX 0 6 (by omega) (by omega)) (fun c hc => funext fun k => hX c k (by omega) (by omega)) (by rw [zq_g12, k1]) ((m3 69 10 (by omega)).trans (nc 69 10 (by omega))) (fun c hc hc2 => funext fun k => (m3 c k (by omega)).trans (nc c k (by omega))) g6
