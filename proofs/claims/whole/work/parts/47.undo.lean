theorem zI_undo (N : Nat) (hN : 60 < N) : zq_op_undo N zI := by
  intro q j X M hq hI
  have hI1 := zI_idle q j X M hI
  have hI2 := hI1
  obtain ⟨g1, g2, g3, g4, g5, g6⟩ := hI1
  unfold f_X10_undo f_X11_undo
  rcases g2 with ⟨i1, i2⟩ | ⟨i1, i2, i3, i4⟩
  · rw [i1, i2, if_neg (by decide), if_neg (by decide)]
    exact ⟨_, _, _, rfl, rfl, hI2⟩
  rw [i1, i2, if_pos (by decide), if_pos (by decide)]
  obtain ⟨X1, x1, xa⟩ := zc_back N j X
  have xa2 := xa
  obtain ⟨k1, k2, k0, k7, k8, k11, k13, k14, b1, b2, b3, b4, b5, b6, b7, b8, b9⟩ := xa2
  rw [x1]
  simp only [Option.bind_some, zq_b]
  obtain ⟨M0, hM0⟩ : ∃ M0 : zq_M, M0 = zq_u1 (zq_u1 (zq_u1 (zq_u1 (zq_u1 (zq_u1 (zq_u1 M 69 11 (M.1 69 46)) 69 0 (M.1 69 47)) 69 1 (M.1 69 48)) 69 2 (M.1 69 49)) 69 3 (M.1 69 50)) 69 36 (M.1 69 51)) 69 42 (M.1 69 52) := ⟨_, rfl⟩
  have n2 : M0.2 = M.2 := by rw [hM0]; rfl
  have nc : ∀ c k, c ≠ 69 ∨ (3 < k ∧ k ≠ 11 ∧ k ≠ 36 ∧ k ≠ 42) → M0.1 c k = M.1 c k := by
    intro c k hc
    rw [hM0, zq_us1 (by omega), zq_us1 (by omega), zq_us1 (by omega), zq_us1 (by omega), zq_us1 (by omega), zq_us1 (by omega), zq_us1 (by omega)]
  have s46 : M0.1 69 11 = M.1 69 46 := by rw [hM0]; simp [zq_g1]
  have s47 : M0.1 69 0 = M.1 69 47 := by rw [hM0]; simp [zq_g1]
  have s48 : M0.1 69 1 = M.1 69 48 := by rw [hM0]; simp [zq_g1]
  have s49 : M0.1 69 2 = M.1 69 49 := by rw [hM0]; simp [zq_g1]
  have s50 : M0.1 69 3 = M.1 69 50 := by rw [hM0]; simp [zq_g1]
  have s51 : M0.1 69 36 = M.1 69 51 := by rw [hM0]; simp [zq_g1]
  have s52 : M0.1 69 42 = M.1 69 52 := by rw [hM0]; simp [zq_g1]
  obtain ⟨M1, m1, m2, m3, d5a, d5b, d5c, d3a, d3b, d12a, d12b, d12c⟩ := zu_5 N M0 (by omega)
  have hm : zq_loop (fun _ _ => none) (b_X11_undo_68 N) N 0 (zq_u1 (zq_u1 (zq_u1 (zq_u1 (zq_u1 (zq_u1 (zq_u1 M 69 11 (M.1 69 46)) 69 0 (M.1 69 47)) 69 1 (M.1 69 48)) 69 2 (M.1 69 49)) 69 3 (M.1 69 50)) 69 36 (M.1 69 51)) 69 42 (M.1 69 52)) = some (M0.1 69 0, M1) := by rw [← hM0]; exact m1
  refine ⟨X1.1 1 0, X1, M1, rfl, ?_, ?_⟩
  · refine Eq.trans ?_ (hm.trans ?_)
    · rfl
    · rw [s47, i4.1, k0]
  have hX : ∀ c, c = 0 ∨ 10 < c → X1.1 c = X.1 c := fun c hc => funext fun k => k2 c k (by omega)
  have hg : ∀ k, 3 < k ∧ k ≠ 11 ∧ k ≠ 36 ∧ k ≠ 42 → M1.1 69 k = M.1 69 k := fun k hk => (m3 69 k (by omega)).trans (nc 69 k (by omega))
  have hh : ∀ c, c ≠ 69 ∧ (c < 70 ∨ 74 < c) ∧ c ≠ 93 ∧ c ≠ 94 ∧ c ≠ 96 → M1.1 c = M.1 c := fun c hc => funext fun k => (m3 c k (by omega)).trans (nc c k (by omega))
  have h06 : zx X1 0 6 = zx X 0 6 := by unfold zx; rw [hX 0 (by omega)]
  refine ⟨?_, ?_, ?_, ?_, ?_, ?_⟩
  · refine ⟨by rw [h06]; exact zc_sc xa i3, ?_⟩
    obtain ⟨e1, e2, e3, e4, e5, e6, e7, e8, e9, e10, e11, e12, e13, e14, e15⟩ := i4
    have u : ∀ k, M1.1 69 k = M0.1 69 k := fun k => m3 69 k (by omega)
    refine ⟨?_, ?_, ?_, ?_, ?_, ?_, ?_, ?_, ?_, ?_, ?_, ?_, ?_, ?_, ?_⟩
    · rw [u, s47, e1, k0]
    · rw [u, s48, e2, zc_pk xa]
    · rw [u, s49, e3, k7]
    · rw [u, s50, e4, k8]
    · rw [u, s46, e5, k14]
    · rw [u, s51, e6, k11]
    · rw [u, s52, e7, k13]
    · intro i hi; rw [d5a i hi, nc _ _ (by omega), e8 i hi, b1 i hi]
    · intro i hi; rw [d5b i hi, nc _ _ (by omega), e9 i hi, b2 i hi]
    · intro i hi; rw [d5c i hi, nc _ _ (by omega), e10 i hi, b4 i hi]
    · intro i hi; rw [d3a i hi, nc _ _ (by omega), e11 i hi, b5 i hi]
    · intro i hi; rw [d3b i hi, nc _ _ (by omega), e12 i hi, b6 i hi]
    · intro i hi; rw [d12a i hi, nc _ _ (by omega), e13 i hi, b7 i hi]
    · intro i hi; rw [d12b i hi, nc _ _ (by omega), e14 i hi, b8 i hi]
    · intro i hi; rw [d12c i hi, nc _ _ (by omega), e15 i hi, b9 i hi]
  · exact zv_img_fr (fun c hc hc2 => hX c (by omega)) (by rw [hX 0 (by omega)]) (by rw [hX 0 (by omega)]) (fun k hk hk2 => hg k (by omega)) (fun c hc hc2 => hh c (by omega)) (Or.inr ⟨i1, i2, i3, i4⟩)
  · exact zv_txt_fr (by rw [hX 0 (by omega)]) (hX 21 (by omega)) (hg 12 (by omega)) (hh 75 (by omega)) g3
  · exact zv_act_fr (by rw [hX 54 (by omega)]) (hX 55 (by omega)) (hg 61 (by omega)) (hh 106 (by omega)) g4
  · exact zv_tap_fr (fun c hc hc2 => hX c (by omega)) (fun c hc hc2 => by rw [k1]) (by rw [k1]) (hh 107 (by omega)) (hh 108 (by omega)) (by rw [m2, n2]) g5
  · exact zv_hou_fr (by rw [hX 0 (by omega)]) (fun c hc => hX c (by omega)) (by rw [k1]) (hg 10 (by omega)) (fun c hc hc2 => hh c (by omega)) g6
