theorem zX_nh {ρ : Type} {j h : Nat} {f : Nat → Option ρ} (hh : zq_ho (zq_shX j) h = true) : zq_nn (some h) (zq_ho (zq_shX j)) f = f h := by
  unfold zq_nn
  exact if_pos hh
theorem zX_cx (x : Nat) : zn x = zt_cx (3 + x) := by
  unfold zt_cx
  rw [if_neg (by omega), if_neg (by omega), if_neg (by omega), Nat.add_sub_cancel_left]
theorem zX_test {N j h L B p : Nat} {t : Nat → Nat} {T : List Nat} {X0 X : zq_M} (hN : 20 < N) (hs : zXS j h t L B X0 T p X) (hb : B + T.length < 100) : ((zX_te (zX_nx t L) p).1 = false → ∃ X1, f_X3_readTest N j X = some (0, X1) ∧ zXS j h t L B X0 T (zX_te (zX_nx t L) p).2.1 X1) ∧ ((zX_te (zX_nx t L) p).1 = true → ∃ X1, f_X3_readTest N j X = some (1, X1) ∧ zXS j h t L B X0 (T ++ (zX_te (zX_nx t L) p).2.2) (zX_te (zX_nx t L) p).2.1 X1) := by
  have H := hs.1
  have m1 : (-1 : Int32) < 0 := by decide
  have m2 : ¬ (0 : Int32) ≤ -1 := by decide
  unfold f_X3_readTest zX_te
  rw [zX_one hN H (Or.inr (Or.inl rfl)), Option.bind_some]
  simp only [zq_p]
  by_cases c1 : zX_pl (zX_nx t L p) < 6
  · have p1 := zX_pp (t := t) (zX_plv c1)
    have i1 : zX_ix 5 (zX_nx t L p) = zn (zX_pl (zX_nx t L p)) := by
      unfold zX_ix
      rw [if_neg (by decide), if_pos rfl, if_pos c1]
    have H2 := zX_at H (q := p + 1) (by omega)
    have hs2 := zX_28 hs (zf28_u (zf28_r X)) H2
    simp only [if_pos c1]
    rw [i1, if_neg (zn_n0 (by omega)), if_pos (zn_p0 (by omega)), zX_one hN H2 (Or.inr (Or.inr rfl)), Option.bind_some]
    simp only [zq_p]
    unfold j_X3_readTest_21
    by_cases c2 : 60 ≤ zX_nx t L (p + 1) ∧ zX_nx t L (p + 1) ≤ 62
    · have p2 := zX_pp (t := t) (L := L) (p := p + 1) (by omega)
      have i2 : zX_ix 6 (zX_nx t L (p + 1)) = zn (zX_nx t L (p + 1) - 60) := by
        unfold zX_ix
        rw [if_neg (by decide), if_neg (by decide), if_pos c2]
      have H3 := zX_at H2 (q := p + 2) (by omega)
      have hs3 := zX_28 hs2 (zf28_u (zf28_r _)) H3
      simp only [if_pos c2]
      rw [i2, if_neg (zn_n0 (by omega)), if_pos (zn_p0 (by omega))]
      obtain ⟨X4, n1, n2, n3⟩ := zX_rnum hN H3
      obtain ⟨b1, b2, b3, b4⟩ := zX_nub (t := t) (L := L) (p := p + 2) (by omega)
      have hs4 := zX_28 hs3 n3 n2
      rw [n1, Option.bind_some]
      simp only [zq_p]
      unfold j_X3_readTest_34
      by_cases c3 : (zX_nu (zX_nx t L) (p + 2)).1 = true
      · simp only [if_pos c3]
        refine ⟨fun h => (by cases h), fun _ => ?_⟩
        have e6 : X4.2.2 28 3 = some h := n2.2.2.2.2.2.1
        rw [if_pos (zn_p0 (by omega)), e6, zX_nh n2.2.2.2.2.2.2.1]
        unfold f_X2_addTest
        rw [show (3 : Int32) = zn 3 from rfl, show (6 : Int32) = zn 6 from rfl, zn_mul, zn_add, zn_mul, zn_add, zX_cx]
        obtain ⟨X5, y1, y2⟩ := zX_add (N := N) (k := 3 + (((zX_nu (zX_nx t L) (p + 2)).2.2 * 3 + (zX_nx t L (p + 1) - 60)) * 6 + zX_pl (zX_nx t L p))) hs4 hb
        rw [y1]
        exact ⟨X5, rfl, y2⟩
      · simp only [if_neg c3]
        rw [if_neg m2]
        exact ⟨fun _ => ⟨X4, rfl, hs4⟩, fun h => (by cases h)⟩
    · have i2 : zX_ix 6 (zX_nx t L (p + 1)) = -1 := by
        unfold zX_ix
        rw [if_neg (by decide), if_neg (by decide), if_neg c2]
      simp only [if_neg c2]
      rw [i2, if_pos m1, if_neg m2]
      unfold j_X3_readTest_34
      rw [if_neg m2]
      exact ⟨fun _ => ⟨_, rfl, hs2⟩, fun h => (by cases h)⟩
  · have i1 : zX_ix 5 (zX_nx t L p) = -1 := by
      unfold zX_ix
      rw [if_neg (by decide), if_pos rfl, if_neg c1]
    simp only [if_neg c1]
    rw [i1, if_pos m1, if_neg m2]
    unfold j_X3_readTest_21 j_X3_readTest_34
    rw [if_neg m2, if_neg m2]
    exact ⟨fun _ => ⟨X, rfl, hs⟩, fun h => (by cases h)⟩
