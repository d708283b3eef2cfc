theorem zq_uc {X : zq_M} {c k c' k' : Nat} {v w : Int32} (h : c ≠ c' ∨ k ≠ k') : zq_u1 (zq_u1 X c k v) c' k' w = zq_u1 (zq_u1 X c' k' w) c k v := by
  unfold zq_u1 zq_up
  refine Prod.ext ?_ rfl
  funext a b
  simp only
  by_cases h1 : a = c' ∧ b = k' <;> by_cases h2 : a = c ∧ b = k
  · omega
  · rw [if_pos h1, if_neg h2, if_pos h1]
  · rw [if_neg h1, if_pos h2, if_pos h2]
  · rw [if_neg h1, if_neg h2, if_neg h2, if_neg h1]
theorem zx_bd {X : zq_M} {c k m : Nat} (h : zv_bd X c k m) (hm : m ≤ 2147483648) : X.1 c k = zn (zx X c k) ∧ zx X c k < m := by
  obtain ⟨a, h1, h2⟩ := h
  have : zx X c k = a := by unfold zx; rw [h2, zn_ix (by omega)]
  rw [this]; exact ⟨h2, h1⟩
theorem zv_now_n {q n : Nat} {X M : zq_M} (hn : n + 1 < 6) (h1 : X.1 1 0 = zn n) (h : zv_now q X M) : zv_now q (zq_u1 X 1 0 (zn (n + 1))) (zq_u1 M 69 0 (zn (n + 1))) := by
  obtain ⟨⟨h1, h2, h3, h4, h5, h6, h7, h8, h9, h10, h11, h12, h13, h14, h15, h16, h17⟩, ⟨e1, e2, e3, e4, e5, e6, e7, e8, e9, e10, e11, e12, e13, e14, e15⟩⟩ := h
  have hs : ∀ {k1 m1 : Nat}, k1 ≠ 0 → zv_bd X 1 k1 m1 → zv_bd (zq_u1 X 1 0 (zn (n + 1))) 1 k1 m1 := by
    intro k1 m1 hk hb
    unfold zv_bd
    rw [zq_us1 (by omega)]; exact hb
  refine ⟨⟨zv_bd_u h1 (by omega), fun i hi => zv_bd_u (h2 i hi) (by omega), fun i hi => zv_bd_u (h3 i hi) (by omega), fun i hi => zv_bd_u (h4 i hi) (by omega), fun i hi => zv_bd_u (h5 i hi) (by omega), fun i hi => zv_bd_u (h6 i hi) (by omega), fun i hi => zv_bd_u (h7 i hi) (by omega), hs (by omega) h8, hs (by omega) h9, hs (by omega) h10, fun i hi => zv_bd_u (h11 i hi) (by omega), fun i hi => zv_bd_u (h12 i hi) (by omega), hs (by omega) h13, ?_, ?_, ?_, ?_⟩, ?_⟩
  · intro i hi
    rw [zq_us1 (by omega)]; exact h14 i hi
  · rw [zq_us1 (by omega), zx_u (by omega)]
    rcases h15 with h | h
    · exact Or.inl h
    · exact Or.inr (hs (by omega) h)
  · intro i hi hi2
    rw [zq_us1 (by omega)]
    refine h16 i hi ?_
    have e1 : zx (zq_u1 X 1 0 (zn (n + 1))) 1 0 = n + 1 := by
      unfold zx; rw [zq_g1, if_pos ⟨rfl, rfl⟩, zn_ix (by omega)]
    have e2 : zx X 1 0 = n := by
      unfold zx; rw [‹X.1 1 0 = zn n›, zn_ix (by omega)]
    omega
  · intro i hi hi2
    rw [zx_u (c1 := 1 + 7) (by omega), zx_u (c1 := 1 + 8) (by omega)]
    have h18 := h17 i hi (by
      unfold zx at hi2 ⊢
      rw [zq_us1 (by omega)] at hi2
      exact hi2)
    refine ⟨h18.1, Nat.lt_of_lt_of_le h18.2 ?_⟩
    unfold zx
    rw [zq_g1, if_pos ⟨rfl, rfl⟩, ‹X.1 1 0 = zn n›, zn_ix (by omega), zn_ix (by omega)]
    omega
  · refine ⟨zv_e_u e1 (by omega), ?_, zv_e_u e3 (by omega), zv_e_u e4 (by omega), zv_e_u e5 (by omega), zv_e_u e6 (by omega), zv_e_u e7 (by omega), fun i hi => zv_e_u (e8 i hi) (by omega), fun i hi => zv_e_u (e9 i hi) (by omega), fun i hi => zv_e_u (e10 i hi) (by omega), fun i hi => zv_e_u (e11 i hi) (by omega), fun i hi => zv_e_u (e12 i hi) (by omega), fun i hi => zv_e_u (e13 i hi) (by omega), fun i hi => zv_e_u (e14 i hi) (by omega), fun i hi => zv_e_u (e15 i hi) (by omega)⟩
    rw [zq_us1 (by omega), zx_u (by omega)]; exact e2
theorem zx_set {X : zq_M} {c i v : Nat} (hv : v < 2147483648) : zx (zq_u1 X c i (zn v)) c = zv_set (zx X c) i v := by
  funext k
  unfold zx zv_set
  rw [zq_g1]
  by_cases h : k = i
  · rw [if_pos ⟨rfl, h⟩, if_pos h, zn_ix hv]
  · rw [if_neg (fun h2 => h h2.2), if_neg h]
theorem zv_now_pl {q i v : Nat} {X M : zq_M} (hi : i < zx X 1 0) (hv : v < 4) (h : zv_now q X M) : zv_now q (zq_u1 X 4 i (zn v)) (zq_u1 M 69 1 (zn (zv_pk (zv_set (zx X 4) i v)))) := by
  obtain ⟨⟨h1, h2, h3, h4, h5, h6, h7, h8, h9, h10, h11, h12, h13, h14, h15, h16, h17⟩, ⟨e1, e2, e3, e4, e5, e6, e7, e8, e9, e10, e11, e12, e13, e14, e15⟩⟩ := h
  have hp : ∀ {c k c1 k1 : Nat}, M.1 c1 k1 = X.1 c k → c ≠ 4 → (c1 ≠ 69 ∨ k1 ≠ 1) → (zq_u1 M 69 1 (zn (zv_pk (zv_set (zx X 4) i v)))).1 c1 k1 = (zq_u1 X 4 i (zn v)).1 c k := by
    intro c k c1 k1 e hc hk
    rw [zq_us1 (c := 69) hk, zq_us1 (c := 4) (by omega)]; exact e
  refine ⟨⟨zv_bd_u h1 (by omega), fun i hi => zv_bd_u (h2 i hi) (by omega), fun i hi => zv_bd_u (h3 i hi) (by omega), fun i hi => zv_bd_u (h4 i hi) (by omega), fun i hi => zv_bd_u (h5 i hi) (by omega), fun i hi => zv_bd_u (h6 i hi) (by omega), fun i hi => zv_bd_u (h7 i hi) (by omega), zv_bd_u h8 (by omega), zv_bd_u h9 (by omega), zv_bd_u h10 (by omega), fun i hi => zv_bd_u (h11 i hi) (by omega), fun i hi => zv_bd_u (h12 i hi) (by omega), zv_bd_u h13 (by omega), ?_, ?_, ?_, ?_⟩, ?_⟩
  · intro i hi
    rw [zq_us1 (by omega)]; exact h14 i hi
  · rw [zq_us1 (by omega), zx_u (by omega)]
    rcases h15 with h | h
    · exact Or.inl h
    · exact Or.inr (zv_bd_u h (by omega))
  · intro k hk hk2
    rw [zx_u (by omega)] at hk2
    rw [zq_us1 (by omega)]
    exact h16 k hk hk2
  · intro i hi hi2
    rw [zx_u (by omega)] at hi2
    rw [zx_u (c1 := 1 + 7) (by omega), zx_u (c1 := 1 + 8) (by omega), zx_u (c1 := 1) (by omega)]
    exact h17 i hi hi2
  · refine ⟨hp e1 (by omega) (by omega), ?_, hp e3 (by omega) (by omega), hp e4 (by omega) (by omega), hp e5 (by omega) (by omega), hp e6 (by omega) (by omega), hp e7 (by omega) (by omega), fun i hi => hp (e8 i hi) (by omega) (by omega), fun i hi => hp (e9 i hi) (by omega) (by omega), fun i hi => hp (e10 i hi) (by omega) (by omega), fun i hi => hp (e11 i hi) (by omega) (by omega), fun i hi => hp (e12 i hi) (by omega) (by omega), fun i hi => hp (e13 i hi) (by omega) (by omega), fun i hi => hp (e14 i hi) (by omega) (by omega), fun i hi => hp (e15 i hi) (by omega) (by omega)⟩
    rw [zq_g1, if_pos ⟨rfl, rfl⟩, zx_set (by omega)]
theorem zI_person (N : Nat) : zq_op_person N zI := by
  intro q j X M a b c hq hI
  have hI1 := zI_idle q j X M hI
  unfold f_X10_person f_X11_person f_X5_addPerson f_X11_moved
  simp only [zw_x, zw_m, zw_xl, zw_ml, Option.bind_some]
  have d4 : ¬ ((1 : Int32) = 0) := by decide
  by_cases c0 : a < 0 ∨ 99 < a
  · simp only [c0, if_true, not_true, if_false]
    exact ⟨_, _, _, rfl, rfl, hI1⟩
  simp only [c0, d4, if_false, not_false_iff, if_true]
  by_cases c1 : b < 0 ∨ 99 < b
  · simp only [c1, if_true, not_true, if_false]
    exact ⟨_, _, _, rfl, rfl, hI1⟩
  simp only [c1, d4, if_false, not_false_iff, if_true]
  by_cases c2 : c < 0 ∨ 3 < c
  · simp only [c2, if_true, not_true, if_false]
    exact ⟨_, _, _, rfl, rfl, hI1⟩
  simp only [c2, d4, if_false, not_false_iff, if_true]
  obtain ⟨k, hk, rfl⟩ := zw_in (n := 99) (fun h => c0 (Or.inl h)) (fun h => c0 (Or.inr h)) (by omega)
  obtain ⟨l, hl, rfl⟩ := zw_in (n := 99) (fun h => c1 (Or.inl h)) (fun h => c1 (Or.inr h)) (by omega)
  obtain ⟨v, hv, rfl⟩ := zw_in (n := 3) (fun h => c2 (Or.inl h)) (fun h => c2 (Or.inr h)) (by omega)
  obtain ⟨n, hn, e0⟩ := hI.1.1.1
  have e1 := hI.1.2.1
  have e2 := hI.1.2.2.1
  rw [e0] at e1
  have q5 : (5 : Int32) = zn 5 := rfl
  have b4 : (zn n < 5) = (n < 5) := zn_lt (b := 5) (by omega) (by omega)
  have b5 : (zn n = 5) = (n = 5) := zn_eq (b := 5) (by omega) (by omega)
  simp only [e0, e1, b4, b5]
  by_cases c6 : n = 5
  · subst c6
    rw [if_neg (by omega), if_neg (by omega)]
    exact ⟨_, _, _, rfl, rfl, hI1⟩
  rw [if_pos (by omega), if_pos c6, zn_ck (by omega) (by omega), zn_ck (by omega) (by omega), zn_ix (by omega)]
  simp only [zq_b]
  simp only [zn_ck (a := n) (n := 5) (by omega) (by omega), Option.bind_some, zq_p]
  have f1 : (zq_u1 (zq_u1 (zq_u1 (zq_u1 X 2 n (zn k)) 3 n (zn l)) 4 n (zn v)) 5 n 0).1 1 0 + 1 = zn (n + 1) := by
    rw [zq_us1 (by omega), zq_us1 (by omega), zq_us1 (by omega), zq_us1 (by omega), e0]; exact zn_add n 1
  have hp : ∀ i, i < 5 → zx X 4 i < 4 := fun i hi => (zx_bd (hI.1.1.2.2.2.1 i hi) (by omega)).2
  have f2 : (zq_u1 (zq_u1 (zq_u1 M 70 n (zn k)) 71 n (zn l)) 72 n 0).1 69 1 = zn (zv_pk (zx X 4)) := by
    rw [zq_us1 (by omega), zq_us1 (by omega), zq_us1 (by omega), e2]
  rw [f1, f2, zn_mv hp (by omega) (by omega)]
  have f3 : (zq_u1 (zq_u1 (zq_u1 (zq_u1 M 70 n (zn k)) 71 n (zn l)) 72 n 0) 69 1 (zn (zv_pk (zv_set (zx X 4) n v)))).1 69 0 + 1 = zn (n + 1) := by
    rw [zq_us1 (by omega), zq_us1 (by omega), zq_us1 (by omega), zq_us1 (by omega), e1]; exact zn_add n 1
  rw [f3]
  refine ⟨_, _, _, rfl, rfl, ?_⟩
  have hA := zv_now_arr (k := n) (v := k) (c' := 2) (c := 70) (m := 100) (by decide) (by omega) hI1.1
  have hB := zv_now_arr (k := n) (v := l) (c' := 3) (c := 71) (m := 100) (by decide) (by omega) hA
  have hC := zv_now_arr (k := n) (v := 0) (c' := 5) (c := 72) (m := 256) (by decide) (by omega) hB
  have hD := zv_now_n (n := n) (by omega) (by rw [zq_us1 (by omega), zq_us1 (by omega), zq_us1 (by omega), e0]) hC
  have hE := zv_now_pl (i := n) (v := v) (by unfold zx; rw [zq_g1, if_pos ⟨rfl, rfl⟩, zn_ix (by omega)]; omega) (by omega) hD
  rw [zx_u (c1 := 4) (by omega), zx_u (c1 := 4) (by omega), zx_u (c1 := 4) (by omega), zx_u (c1 := 4) (by omega)] at hE
  have g1 : zq_u1 (zq_u1 (zq_u1 (zq_u1 (zq_u1 X 2 n (zn k)) 3 n (zn l)) 4 n (zn v)) 5 n 0) 1 0 (zn (n + 1)) = zq_u1 (zq_u1 (zq_u1 (zq_u1 (zq_u1 X 2 n (zn k)) 3 n (zn l)) 5 n (zn 0)) 1 0 (zn (n + 1))) 4 n (zn v) := by
    rw [zq_uc (c := 4) (c' := 5) (by omega), zq_uc (c := 4) (c' := 1) (by omega)]; rfl
  have g2 : zq_u1 (zq_u1 (zq_u1 (zq_u1 (zq_u1 M 70 n (zn k)) 71 n (zn l)) 72 n 0) 69 1 (zn (zv_pk (zv_set (zx X 4) n v)))) 69 0 (zn (n + 1)) = zq_u1 (zq_u1 (zq_u1 (zq_u1 (zq_u1 M 70 n (zn k)) 71 n (zn l)) 72 n (zn 0)) 69 0 (zn (n + 1))) 69 1 (zn (zv_pk (zv_set (zx X 4) n v))) := by
    rw [zq_uc (c := 69) (c' := 69) (by omega)]; rfl
  rw [g1, g2]
  refine zI_now hI ?_ ?_ ?_ rfl ?_ ?_ rfl hE
  · rw [zq_un (by omega), zq_un (by omega), zq_un (by omega), zq_un (by omega), zq_un (by omega)]
  · intro c hc; rw [zq_un (by omega), zq_un (by omega), zq_un (by omega), zq_un (by omega), zq_un (by omega)]
  · rw [zq_us1 (by omega), zq_us1 (by omega), zq_us1 (by omega), zq_us1 (by omega), zq_us1 (by omega)]
  · intro c hc; rw [zq_us1 (by omega), zq_us1 (by omega), zq_us1 (by omega), zq_us1 (by omega), zq_us1 (by omega)]
  · intro c hc; rw [zq_un (by omega), zq_un (by omega), zq_un (by omega), zq_un (by omega), zq_un (by omega)]
