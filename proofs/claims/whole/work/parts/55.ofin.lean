theorem zfm_9 (M : zq_M) (v : Int32) : zfm M (zq_u1 M 69 9 v) := ⟨fun k hk => zq_us1 (by omega), fun c hc => zq_un (by omega), rfl⟩
theorem zp_bb (b : Bool) : (if (if b = true then (1 : Int32) else 0) = 0 then (0 : Int32) else 1) = if b = true then 1 else 0 := by cases b <;> rfl
theorem zn_bset (f : Nat → Bool) {n p : Nat} (hn : n ≤ 5) (hp : p < n) : (zq_shr (zn (zs_set f n)) (zn p) &&& 1 = 1) = (f p = true) := by
  have := zs_l32 f hn
  rw [zn_bit (by omega) (by omega), zs_bset f hp]
theorem zn_pers {a : Int32} {n : Nat} (hn : n ≤ 5) (c0 : ¬ (a < 0 ∨ zn n - 1 < a)) : ∃ p, p < n ∧ a = zn p := zw_inn (fun h => c0 (Or.inl h)) (fun h => c0 (Or.inr h)) (by omega)
theorem zy_msn {N q j h C p : Nat} {X M : zq_M} {S : Nat → Nat → Nat} {W U E : Nat → Nat} {T : Nat → List Nat} (hN : 12 < N) (hA : zyA N q j X M S h C W U E T) (hp : p < S 0 0) : ∃ X1, f_X10_maySpeakNow N j X (zn p) = some (if (decide (S 3 p < 3) && zk_sp S (S 3 p) (fun q => S 3 q == S 3 p) (S 0 1) p) = true then 1 else 0, X1) ∧ zfx X X1 ∧ (∀ c, c ≠ 37 → X1.1 c = X.1 c) ∧ X1.2.2 35 1 = some h := by
  have hS := hA.1
  have hn := hS.1
  have hX := hA.2.2.1
  obtain ⟨X1, e1, e2, e3⟩ := zy_now (r := S 3 p) hN hA (hS.2.2.2.2.2.1 p (by omega))
  refine ⟨X1, ?_, e2, e3⟩
  unfold f_X10_maySpeakNow
  rw [zn_ck (by omega) (by omega), zn_ix (by omega), hX.2.2.2.2.1 p (by omega), e1]
  simp only [Option.bind_some, zq_p]
  have e := zn_bset (fun p_1 => decide (S 3 p < 3) && zk_sp S (S 3 p) (fun p_2 => S 3 p_2 == S 3 p) (S 0 1) p_1) hn hp
  simp only [e]
  by_cases c : (decide (S 3 p < 3) && zk_sp S (S 3 p) (fun q => S 3 q == S 3 p) (S 0 1) p) = true
  · rw [if_neg (fun h => h c), if_pos c]
  · rw [if_pos c, if_neg c]
theorem zI_of (N : Nat) (hN : 12 < N) : zq_op_of N zI := by
  intro q j X M a b hq hI
  have hI1 := zI_idle q j X M hI
  obtain ⟨S, h, C, W, U, E, T, hA⟩ := zy_pic N hq hI
  have hs := zy_sameA hN hA
  have hms := fun p => zy_msn (p := p) hN hA
  have hmM := fun p => zy_nowM (p := p) hN hA
  obtain ⟨hS, hq1, hX, hM, a1, a2, a3, a4, a5, a6⟩ := hA
  have hn := hS.1
  have hM9 : zyM S (zq_u1 M 69 9 (zn (S 0 3))) := zyM_fr (M := M) (fun k hk => zq_us1 (by omega)) (fun c hc hc2 => zq_un (by omega)) hM
  unfold f_X10_of f_X11_of
  rw [zw_xp, zw_mp, hX.1, hM.1, hs]
  simp only [Option.bind_some, zq_b]
  have d4 : ¬ ((1 : Int32) = 0) := by decide
  by_cases c0 : a < 0 ∨ zn (S 0 0) - 1 < a
  · simp only [c0, if_true, not_true, if_false]
    exact ⟨_, _, _, rfl, rfl, hI1⟩
  simp only [c0, d4, if_false, not_false_iff, if_true]
  obtain ⟨p, hp, rfl⟩ := zn_pers hn c0
  have hI9 : zI (q + 1) j X (zq_u1 M 69 9 (zn (S 0 3))) := zI_scr (zfx_r X) (zfm_9 M _) hI1
  obtain ⟨X1, e1, e2, -⟩ := hms p hp
  rw [zn_ck (by omega) (by omega), zn_ck (by omega) (by omega), zn_ck (by omega) (by omega), zn_ck (by omega) (by omega), zn_ck (by omega) (by omega), zn_ck (by omega) (by omega), zn_ck (by omega) (by omega), zn_ix (by omega)]
  rw [hX.2.2.1 p (by omega), hX.2.2.2.1 p (by omega), hX.2.2.2.2.1 p (by omega), hX.2.2.2.2.2.1 p (by omega), hM9.2.2.2.1 p (by omega), hM9.2.2.2.2.1 p (by omega), hM9.2.2.2.2.2.1 p (by omega), hM9.2.1, hM9.2.2.1, hmM p hp, e1, zy_plM N _ (by omega) (zy_wl hS), zy_plc hS (by omega)]
  simp only [Option.bind_some, zq_p]
  by_cases b0 : b = 0
  · simp only [b0, if_true]; exact ⟨_, _, _, rfl, rfl, hI9⟩
  by_cases b1 : b = 1
  · simp only [b1, if_true]; exact ⟨_, _, _, rfl, rfl, hI9⟩
  by_cases b2 : b = 2
  · simp only [b2, if_true]; exact ⟨_, _, _, rfl, rfl, hI9⟩
  by_cases b3 : b = 3
  · simp only [b3, if_true]; exact ⟨_, _, _, rfl, rfl, hI9⟩
  by_cases b4 : b = 4
  · simp only [b4, if_true]
    refine ⟨if (decide (S 3 p < 3) && zk_sp S (S 3 p) (fun q => S 3 q == S 3 p) (S 0 1) p) = true then 1 else 0, X1, zq_u1 M 69 9 (zn (S 0 3)), ?_, ?_, zI_scr e2 (zfm_9 M _) hI1⟩
    · cases (decide (S 3 p < 3) && zk_sp S (S 3 p) (fun q => S 3 q == S 3 p) (S 0 1) p) <;> rfl
    · cases (decide (S 3 p < 3) && zk_sp S (S 3 p) (fun q => S 3 q == S 3 p) (S 0 1) p) <;> rfl
  simp only [b0, b1, b2, b3, b4, if_false]
  exact ⟨_, _, _, rfl, rfl, hI9⟩
theorem zy_inM {N q j h C r w : Nat} {X M : zq_M} {S : Nat → Nat → Nat} {W U E : Nat → Nat} {T : Nat → List Nat} (hN : 12 < N) (hA : zyA N q j X M S h C W U E T) (hr : r < 3) (hw : w = 2 ∨ w = 3) : zq_loop (fun _ _ => none) (b_X11_inside_56 N (zn r) (zn w) (zq_u1 M 69 9 (zn (S 0 3)))) N (0 : Int32) (0 : Int32) = some (zn (zs_set (fun p => S 3 p == r && (w == 2 || zk_sp S r (fun p => S 3 p == r) (S 0 1) p)) (S 0 0)), zq_u1 M 69 9 (zn (S 0 3))) := by
  have hmM := fun p => zy_nowM (p := p) hN hA
  obtain ⟨hS, hq1, hX, hM, a1, a2, a3, a4, a5, a6⟩ := hA
  have hn := hS.1
  have hM9 : zyM S (zq_u1 M 69 9 (zn (S 0 3))) := zyM_fr (M := M) (fun k hk => zq_us1 (by omega)) (fun c hc hc2 => zq_un (by omega)) hM
  refine zL (α := Int32 → Int32 → Option (Int32 × zq_M)) (fun (_ : Unit) k f => f (zn (zs_set (fun p => S 3 p == r && (w == 2 || zk_sp S r (fun p => S 3 p == r) (S 0 1) p)) k)) (zn k)) (fun _ _ => True) (fun o => o = some (zn (zs_set (fun p => S 3 p == r && (w == 2 || zk_sp S r (fun p => S 3 p == r) (S 0 1) p)) (S 0 0)), zq_u1 M 69 9 (zn (S 0 3)))) (S 0 0) ?_ ?_ N 0 () (by omega) (by omega) trivial
  · intro f k _ hk _ ih
    have ih := ih () trivial
    unfold b_X11_inside_56
    have b3 := hS.2.2.2.2.2.1 k (by omega)
    rw [hM9.1, hM9.2.1, hM9.2.2.1, zy_plM N _ (by omega) (zy_wl hS), zy_plc hS (by omega), hmM k hk]
    simp (disch := omega) only [zl_0, zl_1, zl_2, zl_3, zl_4, zl_5, zl_6, zn_ck, zn_ix, zn_add, zn_sub, zn_mul, zn_le, zn_lt, zn_eq, zn_plc1, zn_shl, zn_or, zn_bitc, Option.bind_some, zq_p, zq_b, Nat.one_mul, Nat.zero_add, Nat.add_zero, zs_or, Nat.or_zero]
    rw [if_neg (by omega)]
    by_cases c1 : S 3 k = r
    · rw [if_neg (fun h => h c1)]
      by_cases c2 : w = 2
      · rw [if_pos c2]
        rw [zs_st (p := fun p => S 3 p == r && (w == 2 || zk_sp S r (fun p => S 3 p == r) (S 0 1) p)) (n := k) (by simp [c1, c2])] at ih
        exact ih
      · rw [if_neg c2, c1, decide_eq_true hr, Bool.true_and]
        by_cases c3 : zk_sp S r (fun p => S 3 p == r) (S 0 1) k = true
        · rw [zs_st (p := fun p => S 3 p == r && (w == 2 || zk_sp S r (fun p => S 3 p == r) (S 0 1) p)) (n := k) (by simp [c1, c3])] at ih
          rw [c3, if_neg (by decide)]
          exact ih
        · rw [zs_sf (p := fun p => S 3 p == r && (w == 2 || zk_sp S r (fun p => S 3 p == r) (S 0 1) p)) (n := k) (by simp only [Bool.not_eq_true] at c3; simp [c2, c3])] at ih
          simp only [Bool.not_eq_true] at c3
          rw [c3, if_pos (by rfl)]
          exact ih
    · rw [if_pos c1]
      rw [zs_sf (p := fun p => S 3 p == r && (w == 2 || zk_sp S r (fun p => S 3 p == r) (S 0 1) p)) (n := k) (by simp [c1])] at ih
      exact ih
  · intro f _ _
    unfold b_X11_inside_56
    rw [hM9.1]
    simp (disch := omega) only [zl_0, zl_1, zl_2, zl_3, zl_4, zl_5, zl_6, zn_ck, zn_ix, zn_add, zn_sub, zn_mul, zn_le, zn_lt, zn_eq, zn_plc1, zn_shl, zn_or, zn_bitc, Option.bind_some, zq_p, zq_b, Nat.one_mul, Nat.zero_add, Nat.add_zero]
    rw [if_pos (by omega)]
theorem zI_inside (N : Nat) (hN : 12 < N) : zq_op_inside N zI := by
  intro q j X M a b hq hI
  have hI1 := zI_idle q j X M hI
  obtain ⟨S, h, C, W, U, E, T, hA⟩ := zy_pic N hq hI
  have hs := zy_sameA hN hA
  have hin := fun r w => zy_inM (r := r) (w := w) hN hA
  have hnw := fun r => zy_now (r := r) hN hA
  obtain ⟨hS, hq1, hX, hM, a1, a2, a3, a4, a5, a6⟩ := hA
  have hn := hS.1
  unfold f_X10_inside f_X11_inside
  rw [zw_xr, zw_mr, zw_m, hs]
  simp only [Option.bind_some, zq_b]
  have d4 : ¬ ((1 : Int32) = 0) := by decide
  by_cases c0 : a < 0 ∨ 2 < a
  · simp only [c0, if_true, not_true, if_false]
    exact ⟨_, _, _, rfl, rfl, hI1⟩
  simp only [c0, d4, if_false, not_false_iff, if_true]
  obtain ⟨r, hr, rfl⟩ := zw_in (n := 2) (fun h => c0 (Or.inl h)) (fun h => c0 (Or.inr h)) (by omega)
  rw [zn_ck (by omega) (by omega), zn_ck (by omega) (by omega), zn_ck (by omega) (by omega), zn_ck (by omega) (by omega), zn_ix (by omega), hX.2.2.2.2.2.2.1 r (by omega), hX.2.2.2.2.2.2.2 r (by omega), hM.2.2.2.2.2.2.1 r (by omega), hM.2.2.2.2.2.2.2 r (by omega)]
  by_cases bb : b < 0 ∨ 3 < b
  · have n0 : ¬ b = 0 := fun h => by subst h; revert bb; decide
    have n1 : ¬ b = 1 := fun h => by subst h; revert bb; decide
    have n2 : ¬ b = 2 := fun h => by subst h; revert bb; decide
    have n3 : ¬ b = 3 := fun h => by subst h; revert bb; decide
    have v2 : (if b < 0 ∨ 3 < b then (0 : Int32) else 1) = 0 := by rw [if_pos bb]
    rw [if_neg n0, if_neg n1, if_neg n2, if_neg n3, if_neg (fun h => h v2)]
    exact ⟨_, _, _, rfl, rfl, hI1⟩
  have v2 : ¬ (if b < 0 ∨ 3 < b then (0 : Int32) else 1) = 0 := by rw [if_neg bb]; decide
  rw [if_pos v2]
  by_cases b0 : b = 0
  · rw [if_pos b0, if_neg (fun h => h b0)]
    exact ⟨_, _, _, rfl, rfl, hI1⟩
  by_cases b1 : b = 1
  · rw [if_neg b0, if_pos b1, if_pos b0, if_neg (fun h => h b1)]
    exact ⟨_, _, _, rfl, rfl, hI1⟩
  have hI9 : zI (q + 1) j X (zq_u1 M 69 9 (zn (S 0 3))) := zI_scr (zfx_r X) (zfm_9 M _) hI1
  rw [if_neg b0, if_neg b1, if_pos b0, if_pos b1]
  by_cases b2 : b = 2
  · rw [if_pos b2]
    have hh := hin r 2 (by omega) (by omega)
    rw [b2, zl_2, hh, zy_who (n := S 0 0) (P := S 3) (by omega) hX.1 hn hX.2.2.2.2.1 hS.2.2.2.2.2.1 (by omega)]
    simp only [Option.bind_some]
    refine ⟨_, _, _, rfl, ?_, hI9⟩
    rw [zs_scg (p := fun p => S 3 p == r && (2 == 2 || zk_sp S r (fun p => S 3 p == r) (S 0 1) p)) (q := fun p => S 3 p == r) (fun p hp => by simp)]
  by_cases b3 : b = 3
  · rw [if_neg b2, if_pos b3]
    have hh := hin r 3 (by omega) (by omega)
    obtain ⟨X1, e1, e2, -⟩ := hnw r (by omega)
    rw [b3, zl_3, hh, e1]
    simp only [Option.bind_some, zq_p]
    refine ⟨_, X1, zq_u1 M 69 9 (zn (S 0 3)), rfl, ?_, zI_scr e2 (zfm_9 M _) hI1⟩
    rw [zs_scg (p := fun p => S 3 p == r && (3 == 2 || zk_sp S r (fun p => S 3 p == r) (S 0 1) p)) (q := fun p => decide (r < 3) && zk_sp S r (fun p => S 3 p == r) (S 0 1) p) (fun p hp => by
      rw [decide_eq_true (show r < 3 by omega)]
      cases hb : (S 3 p == r) with
      | false => unfold zk_sp; simp only [hb]; simp
      | true => simp)]
  · obtain ⟨w, hw, rfl⟩ := zw_in (n := 3) (fun h => bb (Or.inl h)) (fun h => bb (Or.inr h)) (by omega)
    have w0 : ¬ w = 0 := fun h => b0 (by rw [h]; rfl)
    have w1 : ¬ w = 1 := fun h => b1 (by rw [h]; rfl)
    have w2 : ¬ w = 2 := fun h => b2 (by rw [h]; rfl)
    have w3 : ¬ w = 3 := fun h => b3 (by rw [h]; rfl)
    omega
