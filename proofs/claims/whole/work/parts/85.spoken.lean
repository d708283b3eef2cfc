theorem zo_tab : ∀ a : Nat, a < 32 → (a = 0 ∨ ¬ zn a = 0) ∧ (a = 0 ∨ 0 < zs_cnt (zs_bit a) 10) ∧ zn a &&& (zn a - 1) = zn (a &&& (a - 1)) ∧ a &&& (a - 1) < 32 ∧ (a = 0 ∨ zs_cnt (zs_bit (a &&& (a - 1))) 10 + 1 = zs_cnt (zs_bit a) 10) ∧ zs_cnt (zs_bit a) 10 < 6 := by decide +kernel
theorem zo_ones (N : Nat) (M : zq_M) {a : Nat} (hN : 6 < N) (ha : a < 32) : f_X11_ones N M (zn a) = some (zn (zs_cnt (zs_bit a) 10)) := by
  have key : ∀ k N a v : Nat, k < N → a < 32 → zs_cnt (zs_bit a) 10 = k → zq_loop (fun _ _ => none) b_X11_ones_4 N (zn v) (zn a) = some (zn (v + k)) := by
    intro k
    induction k with
    | zero =>
      intro N a v hN ha hk
      obtain ⟨M, rfl⟩ : ∃ M, N = M + 1 := ⟨N - 1, by omega⟩
      have t := zo_tab a ha
      have h0 : a = 0 := by omega
      subst h0
      rfl
    | succ k ih =>
      intro N a v hN ha hk
      obtain ⟨M, rfl⟩ : ∃ M, N = M + 1 := ⟨N - 1, by omega⟩
      obtain ⟨t1, t2, t3, t4, t5, t6⟩ := zo_tab a ha
      have h0 : ¬ a = 0 := by
        intro h
        subst h
        have : zs_cnt (zs_bit 0) 10 = 0 := by decide
        omega
      show b_X11_ones_4 (zq_loop (fun _ _ => none) b_X11_ones_4 M) (zn v) (zn a) = _
      have u1 : b_X11_ones_4 (zq_loop (fun _ _ => none) b_X11_ones_4 M) (zn v) (zn a) = zq_loop (fun _ _ => none) b_X11_ones_4 M (zn (v + 1)) (zn (a &&& (a - 1))) := by
        show (if zn a = 0 then _ else _) = _
        rw [if_neg (by rcases t1 with h | h; exact absurd h h0; exact h), t3, zl_1, zn_add]
      rw [u1, ih M _ _ (by omega) t4 (by omega), show v + 1 + k = v + (k + 1) by omega]
  have := zo_tab a ha
  have k1 := key _ N a 0 (by omega) ha rfl
  rw [Nat.zero_add] at k1
  exact k1
theorem zn_rng {a : Int32} {n : Nat} (h : ¬ (a < 1 ∨ zn n < a)) (hn : n < 2147483648) : ∃ k, 1 ≤ k ∧ k ≤ n ∧ a = zn k := by
  obtain ⟨k, hk, rfl⟩ := zw_in (a := a) (n := n) (fun h2 => h (Or.inl (by
    have e0 : (0 : Int32).toInt = 0 := rfl
    have e1 : (1 : Int32).toInt = 1 := rfl
    rw [Int32.lt_iff_toInt_lt] at h2 ⊢
    omega))) (fun h2 => h (Or.inr h2)) hn
  refine ⟨k, ?_, hk, rfl⟩
  by_cases h1 : k = 0
  · subst h1
    exact absurd (Or.inl (by decide)) h
  · omega
theorem zn_rng0 {a : Int32} {n : Nat} (h : a < 1 ∨ zn n < a) (h0 : ¬ (a < 0 ∨ zn n < a)) : a = 0 := by
  rcases h with h | h
  · have e0 : (0 : Int32).toInt = 0 := rfl
    have e1 : (1 : Int32).toInt = 1 := rfl
    apply Int32.toInt_inj.mp
    have h3 : ¬ a < 0 := fun h2 => h0 (Or.inl h2)
    rw [Int32.lt_iff_toInt_lt] at h h3
    omega
  · exact absurd (Or.inr h) h0
theorem zI_spoken (N : Nat) (hN : 12 < N) : zq_op_spoken N zI := by
  intro q j X M a b hq hI
  have hI1 := zI_idle q j X M hI
  obtain ⟨S, h, C, W, U, E, T, hA⟩ := zy_pic N hq hI
  obtain ⟨hS, hq1, hX, hM, -⟩ := hA
  have hn := hS.1
  have hp := zs_p2 hn
  have d4 : ¬ ((1 : Int32) = 0) := by decide
  have hrow : ∃ k, k < 13 ∧ X.1 1 11 = zn k ∧ M.1 69 36 = zn k := by
    obtain ⟨⟨_, _, _, _, _, _, _, _, _, ⟨k, h10, h10e⟩, _⟩, ⟨_, _, _, _, _, e6, _⟩⟩ := hI.1
    exact ⟨k, h10, h10e, e6.trans h10e⟩
  obtain ⟨k, hk, k1, k2⟩ := hrow
  have hodd : ∀ i, i < 12 → i < k → zs_cnt (zs_bit (zx X 8 i)) 10 % 2 = 1 ∧ zx X 9 i < zx X 1 0 := by
    intro i hi hik
    obtain ⟨⟨_, _, _, _, _, _, _, _, _, _, _, _, _, _, _, _, h17⟩, _⟩ := hI.1
    refine h17 i hi ?_
    unfold zx
    rw [k1, zn_ix (by omega)]
    exact hik
  unfold f_X10_spoken f_X11_spoken
  by_cases c0 : a = -1
  · rw [if_neg (fun h => h c0), if_neg (fun h => h c0)]
    refine ⟨_, _, _, rfl, rfl, ?_⟩
    refine zI_now hI ?_ ?_ rfl rfl ?_ ?_ rfl (zv_now_slot (m := 13) (v := 0) (by decide) (by omega) hI1.1 (fun _ i hi => by omega))
    · rw [zq_un (by omega)]
    · intro c hc; rw [zq_un (by omega)]
    · intro c hc; rw [zq_us1 (by omega)]
    · intro c hc; rw [zq_un (by omega)]
  rw [if_pos c0, if_pos c0]
  have w1 : f_X5_everybody N j X 1 = some (zn (2 ^ S 0 0 - 1)) := zy_all hX.1 hn
  have w2 : zq_shl (1 : Int32) (M.1 69 0) - 1 = zn (2 ^ S 0 0 - 1) := by
    rw [hM.1, zl_1, zn_shl (by omega), Nat.one_mul, zn_sub (Nat.one_le_two_pow)]
  rw [w1, w2, Option.bind_some, zw_x, zw_m, Option.bind_some, Option.bind_some]
  by_cases c1 : a < 0 ∨ zn (2 ^ S 0 0 - 1) < a
  · have c2 : a < 1 ∨ zn (2 ^ S 0 0 - 1) < a := by
      rcases c1 with c1 | c1
      · exact Or.inl (by
          have e0 : (0 : Int32).toInt = 0 := rfl
          have e1 : (1 : Int32).toInt = 1 := rfl
          rw [Int32.lt_iff_toInt_lt] at c1 ⊢
          omega)
      · exact Or.inr c1
    simp only [c1, c2, if_true]
    exact ⟨_, _, _, rfl, rfl, hI1⟩
  by_cases c2 : a < 1 ∨ zn (2 ^ S 0 0 - 1) < a
  · have ha := zn_rng0 c2 c1
    subst ha
    have w3 : f_X11_ones N M 0 = some (zn 0) := zo_ones N M (by omega) (show 0 < 32 by omega)
    simp only [c1, c2, if_true, d4, if_false, w3, Option.bind_some]
    have w4 : ¬ ¬ zq_irem (zn 0) (2 : Int32) = 0 := by decide
    rw [if_neg w4]
    exact ⟨_, _, _, rfl, rfl, hI1⟩
  obtain ⟨v, hv1, hv2, rfl⟩ := zn_rng c2 (by omega)
  have hv : v < 32 := by omega
  have t6 := (zo_tab v hv).2.2.2.2.2
  have w3 : f_X11_ones N M (zn v) = some (zn (zs_cnt (zs_bit v) 10)) := zo_ones N M (by omega) hv
  have w4 : f_J6_bitCount_0f7a4 N (zq_shX j) X (zn v) = some (zn (zs_cnt (zs_bit v) 10)) := zb_c _ _ _ (by omega)
  have w5 : zq_irem (zn (zs_cnt (zs_bit v) 10)) (2 : Int32) = zn (zs_cnt (zs_bit v) 10 % 2) := by rw [zl_2, zn_irem (by omega) (by omega)]
  simp only [c1, c2, d4, if_false, w3, w4, Option.bind_some, w5]
  by_cases c3 : zn (zs_cnt (zs_bit v) 10 % 2) = 0
  · rw [if_neg (fun h => h c3), if_neg (fun h => h c3)]
    exact ⟨_, _, _, rfl, rfl, hI1⟩
  rw [if_pos c3, if_pos c3, zw_xp, zw_mp, hX.1, hM.1, Option.bind_some, Option.bind_some]
  have c3' : zs_cnt (zs_bit v) 10 % 2 = 1 := by
    rcases (show zs_cnt (zs_bit v) 10 % 2 = 0 ∨ zs_cnt (zs_bit v) 10 % 2 = 1 by omega) with h | h
    · rw [h] at c3; exact absurd rfl c3
    · exact h
  by_cases c4 : b < 0 ∨ zn (S 0 0) - 1 < b
  · simp only [c4, if_true]
    exact ⟨_, _, _, rfl, rfl, hI1⟩
  simp only [c4, d4, if_false]
  obtain ⟨p, hp, rfl⟩ := zn_pers hn c4
  rw [zy_hasM N M (by omega) (by omega), Option.bind_some]
  have w6 : (zq_shr (zn v) (zn p) &&& 1 = 0) = (zs_bit v p = false) := zn_bit0 (by omega) (by omega)
  simp only [w6]
  cases c5 : zs_bit v p
  · simp only [not_true, if_false, Bool.false_eq_true]
    exact ⟨_, _, _, rfl, rfl, hI1⟩
  simp only [Bool.true_eq_false, not_false_iff, if_true, d4, k1, k2]
  have q12 : (12 : Int32) = zn 12 := rfl
  by_cases c6 : k = 12
  · subst c6
    rw [if_neg (by decide), if_neg (by decide)]
    exact ⟨_, _, _, rfl, rfl, hI1⟩
  rw [if_pos (by rw [q12, zn_lt (by omega) (by omega)]; omega), if_pos (by rw [q12, zn_eq (by omega) (by omega)]; exact c6), zn_ck (by omega) (by omega), zn_ck (by omega) (by omega), zn_ix (by omega)]
  have x1 : (zq_u1 X 8 k (zn v)).1 1 11 = zn k := by rw [zq_us1 (by omega)]; exact k1
  have x2 : (zq_u1 (zq_u1 X 8 k (zn v)) 9 k (zn p)).1 1 11 = zn k := by rw [zq_us1 (by omega)]; exact x1
  have m1 : (zq_u1 M 93 k (zn v)).1 69 36 = zn k := by rw [zq_us1 (by omega)]; exact k2
  have m2 : (zq_u1 (zq_u1 M 93 k (zn v)) 94 k (zn p)).1 69 36 = zn k := by rw [zq_us1 (by omega)]; exact m1
  simp only [zq_b, x1, m1, zn_ix (show k < 2147483648 by omega), x2, m2, zl_1, zn_add]
  rw [zn_ck (by omega) (by omega), zn_ck (by omega) (by omega)]
  have y1 : (zq_u1 (zq_u1 (zq_u1 X 8 k (zn v)) 9 k (zn p)) 1 11 (zn (k + 1))).1 1 11 = zn (k + 1) := by rw [zq_g1, if_pos ⟨rfl, rfl⟩]
  have y2 : (zq_u1 (zq_u1 (zq_u1 M 93 k (zn v)) 94 k (zn p)) 69 36 (zn (k + 1))).1 69 36 = zn (k + 1) := by rw [zq_g1, if_pos ⟨rfl, rfl⟩]
  rw [y1, y2]
  refine ⟨_, _, _, rfl, rfl, ?_⟩
  refine zI_now hI ?_ ?_ rfl rfl ?_ ?_ rfl (zv_now_slot (m := 13) (v := k + 1) (by decide) (by omega) (zv_now_arr (m := 5) (by decide) (by omega) (zv_now_arr (m := 32) (by decide) (by omega) hI1.1 ?_) ?_) ?_)
  · rw [zq_un (by omega), zq_un (by omega), zq_un (by omega)]
  · intro c hc; rw [zq_un (by omega), zq_un (by omega), zq_un (by omega)]
  · intro c hc; rw [zq_us1 (by omega), zq_us1 (by omega), zq_us1 (by omega)]
  · intro c hc; rw [zq_un (by omega), zq_un (by omega), zq_un (by omega)]
  · intro _
    unfold zx
    rw [k1, zn_ix (by omega)]
    exact Nat.le_refl k
  · intro _
    unfold zx
    rw [x1, zn_ix (by omega)]
    exact Nat.le_refl k
  · intro _ i hi
    have z0 : zx (zq_u1 (zq_u1 X 8 k (zn v)) 9 k (zn p)) 1 0 = S 0 0 := by
      unfold zx
      rw [zq_us1 (by omega), zq_us1 (by omega), hX.1, zn_ix (by omega)]
    have z1 : zx X 1 0 = S 0 0 := by
      unfold zx
      rw [hX.1, zn_ix (by omega)]
    rw [z0]
    by_cases h9 : i = k
    · subst h9
      refine ⟨?_, ?_⟩
      · rw [zx_u (by omega)]
        unfold zx
        rw [zq_g1, if_pos ⟨rfl, rfl⟩, zn_ix (by omega)]
        exact c3'
      · show zx (zq_u1 _ 9 i (zn p)) 9 i < _
        unfold zx
        rw [zq_g1, if_pos ⟨rfl, rfl⟩, zn_ix (by omega)]
        exact hp
    · have h10 := hodd i (by omega) (by omega)
      rw [z1] at h10
      refine ⟨?_, ?_⟩
      · rw [zx_u (by omega)]
        have h11 := h10.1
        unfold zx at h11 ⊢
        rw [zq_us1 (by omega)]
        exact h11
      · have h11 := h10.2
        unfold zx at h11 ⊢
        rw [zq_us1 (by omega), zq_us1 (by omega)]
        exact h11
