theorem zc_sc {X X1 : zq_M} {h a q hc : Nat} (g : zc_al X X1 h a) (hs : zv_sc X a q hc) : zv_sc X1 h q hc := by
  obtain ⟨_, _, g0, g7, g8, g11, g13, g14, b1, b2, b3, b4, b5, b6, b7, b8, b9⟩ := g
  obtain ⟨h1, h2, h3, h4, h5, h6, h7, h8, h9, h10, h11, h12, h13, h14, h15, h16⟩ := hs
  unfold zv_sc zv_bd zx at *
  refine ⟨by rw [g0]; exact h1, fun i hi => by rw [b1 i hi]; exact h2 i hi, fun i hi => by rw [b2 i hi]; exact h3 i hi, fun i hi => by rw [b3 i hi]; exact h4 i hi, fun i hi => by rw [b4 i hi]; exact h5 i hi, fun i hi => by rw [b5 i hi]; exact h6 i hi, fun i hi => by rw [b6 i hi]; exact h7 i hi, by rw [g7]; exact h8, by rw [g8]; exact h9, by rw [g11]; exact h10, fun i hi => by rw [b7 i hi]; exact h11 i hi, fun i hi => by rw [b8 i hi]; exact h12 i hi, by rw [g13]; exact h13, fun i hi => by rw [b9 i hi]; exact h14 i hi, by rw [g14]; exact h15, fun i hi hk => by rw [b3 i hi]; rw [g0] at hk; exact h16 i hi hk⟩
theorem zc_pk {X X1 : zq_M} {h a : Nat} (g : zc_al X X1 h a) : zv_pk (zx X1 (h + 3)) = zv_pk (zx X (a + 3)) := by
  obtain ⟨_, _, _, _, _, _, _, _, _, _, b3, _⟩ := g
  unfold zv_pk zx
  rw [b3 0 (by omega), b3 1 (by omega), b3 2 (by omega), b3 3 (by omega), b3 4 (by omega)]
theorem zI_image (N : Nat) (hN : 60 < N) : zq_op_image N zI := by
  intro q j X M hq hI
  have hI1 := zI_idle q j X M hI
  obtain ⟨X1, x1, xa⟩ := zc_go N j X
  have xa2 := xa
  obtain ⟨k1, k2, k0, k7, k8, k11, k13, k14, b1, b2, b3, b4, b5, b6, b7, b8, b9⟩ := xa2
  obtain ⟨g1, g2, g3, g4, g5, g6⟩ := hI1
  unfold f_X10_image f_X11_image
  rw [x1]
  have z1 : ∀ (o : Option (Int32 × zq_M)), zq_gz (1 : Int32) o = o := fun o => by unfold zq_gz; rw [if_pos (Or.inr rfl)]
  simp only [Option.bind_some, z1, zq_b]
  obtain ⟨M1, m1, m2, m3, d5a, d5b, d5c, d3a, d3b, d12a, d12b, d12c⟩ := zm_5 N (zq_u1 (zq_u1 (zq_u1 (zq_u1 (zq_u1 (zq_u1 (zq_u1 (zq_u1 M 69 45 1) 69 46 ((zq_u1 M 69 45 1).1 69 11)) 69 47 ((zq_u1 (zq_u1 M 69 45 1) 69 46 ((zq_u1 M 69 45 1).1 69 11)).1 69 0)) 69 48 (M.1 69 1)) 69 49 (M.1 69 2)) 69 50 (M.1 69 3)) 69 51 (M.1 69 36)) 69 52 (M.1 69 42)) (by omega)
  sorry
