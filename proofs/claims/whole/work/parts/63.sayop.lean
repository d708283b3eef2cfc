theorem zv_now_kn {q : Nat} {X M X1 M1 : zq_M} (f : Nat → Nat) (hx : ∀ c, c ≤ 10 → c ≠ 5 → X1.1 c = X.1 c) (h5 : ∀ i, i < 5 → X1.1 5 i = zn (f i)) (hf : ∀ i, i < 5 → f i < 256) (h72 : ∀ i, i < 5 → M1.1 72 i = zn (f i)) (hm : ∀ k, k < 4 ∨ k = 11 ∨ k = 36 ∨ k = 42 → M1.1 69 k = M.1 69 k) (ha : ∀ c, 70 ≤ c ∧ c ≤ 74 ∧ c ≠ 72 ∨ c = 93 ∨ c = 94 ∨ c = 96 → M1.1 c = M.1 c) (h : zv_now q X M) : zv_now q X1 M1 := by
  obtain ⟨⟨h1, h2, h3, h4, h5', h6, h7, h8, h9, h10, h11, h12, h13, h14, h15, h16, h17⟩, ⟨e1, e2, e3, e4, e5, e6, e7, e8, e9, e10, e11, e12, e13, e14, e15⟩⟩ := h
  have x0 := hx 0 (by omega) (by omega)
  have x1 := hx 1 (by omega) (by omega)
  have x2 := hx 2 (by omega) (by omega)
  have x3 := hx 3 (by omega) (by omega)
  have x4 := hx 4 (by omega) (by omega)
  have x6 := hx 6 (by omega) (by omega)
  have x7 := hx 7 (by omega) (by omega)
  have x8 := hx 8 (by omega) (by omega)
  have x9 := hx 9 (by omega) (by omega)
  have x10 := hx 10 (by omega) (by omega)
  have b : ∀ {c k m : Nat}, X1.1 c = X.1 c → zv_bd X c k m → zv_bd X1 c k m := by
    intro c k m e hb
    unfold zv_bd at hb ⊢
    rw [e]; exact hb
  have z0 : zx X1 0 6 = zx X 0 6 := by unfold zx; rw [x0]
  refine ⟨⟨b x1 h1, fun i hi => b x2 (h2 i hi), fun i hi => b x3 (h3 i hi), fun i hi => b x4 (h4 i hi), fun i hi => ⟨f i, hf i hi, h5 i hi⟩, fun i hi => b x6 (h6 i hi), fun i hi => b x7 (h7 i hi), b x1 h8, b x1 h9, b x1 h10, fun i hi => b x8 (h11 i hi), fun i hi => b x9 (h12 i hi), b x1 h13, ?_, ?_, ?_, ?_⟩, ?_⟩
  · intro i hi
    show ∃ a b, _ ∧ _ ∧ X1.1 10 i = _
    rw [x10]; exact h14 i hi
  · rw [z0, x1]
    rcases h15 with h | h
    · exact Or.inl h
    · exact Or.inr (b x1 h)
  · intro i hi
    unfold zx
    rw [x1]
    show _ → X1.1 4 i = 0
    rw [x4]; exact h16 i hi
  · intro i hi
    unfold zx
    rw [x1]
    show _ → zs_cnt (zs_bit (zq_ix (X1.1 8 i))) 10 % 2 = 1 ∧ zq_ix (X1.1 9 i) < zq_ix (X.1 1 0)
    rw [x8, x9]; exact h17 i hi
  · refine ⟨?_, ?_, ?_, ?_, ?_, ?_, ?_, fun i hi => ?_, fun i hi => ?_, fun i hi => ?_, fun i hi => ?_, fun i hi => ?_, fun i hi => ?_, fun i hi => ?_, fun i hi => ?_⟩
    · rw [hm 0 (by omega), x1]; exact e1
    · rw [hm 1 (by omega)]
      have : zx X1 (1 + 3) = zx X (1 + 3) := by funext i; unfold zx; rw [show (1 + 3) = 4 from rfl, x4]
      rw [this]; exact e2
    · rw [hm 2 (by omega), x1]; exact e3
    · rw [hm 3 (by omega), x1]; exact e4
    · rw [hm 11 (by omega), x1]; exact e5
    · rw [hm 36 (by omega), x1]; exact e6
    · rw [hm 42 (by omega), x1]; exact e7
    · rw [ha 70 (by omega)]; show _ = X1.1 2 i; rw [x2]; exact e8 i hi
    · rw [ha 71 (by omega)]; show _ = X1.1 3 i; rw [x3]; exact e9 i hi
    · rw [h72 i hi]; exact (h5 i hi).symm
    · rw [ha 73 (by omega)]; show _ = X1.1 6 i; rw [x6]; exact e11 i hi
    · rw [ha 74 (by omega)]; show _ = X1.1 7 i; rw [x7]; exact e12 i hi
    · rw [ha 93 (by omega)]; show _ = X1.1 8 i; rw [x8]; exact e13 i hi
    · rw [ha 94 (by omega)]; show _ = X1.1 9 i; rw [x9]; exact e14 i hi
    · rw [ha 96 (by omega)]; show _ = X1.1 10 i; rw [x10]; exact e15 i hi
theorem zI_say (N : Nat) (hN : 120 < N) : zq_op_say N zI := by
  intro q j X M a b hq hI
  have hI1 := zI_idle q j X M hI
  obtain ⟨S, h, C, W, U, E, T, hA⟩ := zy_pic N hq hI
  have hA0 := hA
  have hs := zy_sameA (by omega) hA
  have hmM := fun p => zy_nowM (p := p) (by omega) hA
  obtain ⟨hS, hq1, hX, hM, a1, a2, a3, a4, a5, a6⟩ := hA
  have hn := hS.1
  unfold f_X10_say f_X11_say
  rw [zw_xp, zw_mp, hX.1, hM.1, zw_xt, zw_mt, hs]
  simp only [Option.bind_some]
  have d4 : ¬ ((1 : Int32) = 0) := by decide
  by_cases c0 : a < 0 ∨ zn (S 0 0) - 1 < a
  · simp only [c0, if_true]
    exact ⟨_, _, _, rfl, rfl, hI1⟩
  simp only [c0, d4, if_false]
  by_cases c1 : b < 0 ∨ 7 < b
  · simp only [c1, if_true, not_true, if_false]
    exact ⟨_, _, _, rfl, rfl, hI1⟩
  simp only [c1, d4, if_false, not_false_iff, if_true]
  obtain ⟨p, hp, rfl⟩ := zn_pers hn c0
  obtain ⟨t, ht, rfl⟩ := zw_in (n := 7) (fun h => c1 (Or.inl h)) (fun h => c1 (Or.inr h)) (by omega)
  obtain ⟨X1, x1, x2, x3, x4⟩ := zy_msn (p := p) (by omega) hA0 hp
  have hI9 : zI q j X1 (zq_u1 M 69 9 (zn (S 0 3))) := zI_scr x2 (zfm_9 M _) hI
  have hA1 := zyA_fr x2 (zfm_9 M (zn (S 0 3))) hA0
  have hI9' := zI_idle _ _ _ _ hI9
  have hM9 := hA1.2.2.2.1
  have hX1 := hA1.2.2.1
  have hk4 := hS.2.2.2.2.2.2.1 p (by omega)
  rw [x1]
  simp only [Option.bind_some, zq_p, zq_b]
  rw [zn_ck (by omega) (by omega), zn_ck (by omega) (by omega), zn_ix (by omega), hM9.2.2.2.2.2.1 p (by omega), zy_hasM N _ (by omega) (by omega), hM9.2.1, hM9.2.2.1, hmM p hp, zy_knX (h := 1) (K := fun _ => S 4 p) (by omega) (by omega) (hX1.2.2.2.2.2.1 p (by omega)) hk4]
  simp only [Option.bind_some]
  by_cases c2 : (decide (S 3 p < 3) && zk_sp S (S 3 p) (fun q => S 3 q == S 3 p) (S 0 1) p) = true
  · rw [if_pos c2, if_neg (show ¬ ((1 : Int32) = 0) by decide)]
    by_cases c3 : zs_bit (S 4 p) t = true
    · rw [if_pos c3, if_pos (show ¬ ((1 : Int32) = 0) by decide), if_neg (show ¬ ((1 : Int32) = 0) by decide), if_pos (show ¬ ((1 : Int32) = 0) by decide)]
      have hK : zyK j X1 S h C W U E T := ⟨hX1, x4, a2, a3, hA1.2.2.2.2.2.2.2.1⟩
      obtain ⟨b0, F, hD⟩ := zyC_D a4.1 hA1.2.2.2.2.2.2.2.2.2
      obtain ⟨X2, y1, y2, y3, y4⟩ := zy_sayX (p := p) (t := t) hN hS hK hp (by omega)
      obtain ⟨M2, m1, m2, m3, m4⟩ := zy_saidM (p := p) (t := t) hN hS ⟨hM9, hD⟩ a4 hp (by omega)
      rw [y1, m1]
      simp only [Option.bind_some]
      refine ⟨_, _, _, rfl, rfl, ?_⟩
      refine zI_now hI9 (y3 0 (by omega)) (fun c hc => y3 c (by omega)) (by rw [y3 54 (by omega)]) y2 (fun k hk => by rw [m3 69 (by omega)]) (fun c hc => m3 c (by omega)) (by rw [m2]) ?_
      exact zv_now_kn (zk_kn S (S 3 p) t (S 0 0)) (fun c h1 h2 => y3 c (by omega)) y4 (fun i hi => zk_knl hS hi (by omega)) m4 (fun k hk => by rw [m3 69 (by omega)]) (fun c hc => m3 c (by omega)) hI9'.1
    · rw [if_neg c3, if_neg (show ¬ ¬ ((0 : Int32) = 0) by decide), if_pos (show (0 : Int32) = 0 from rfl)]
      exact ⟨_, _, _, rfl, rfl, hI9'⟩
  · rw [if_neg c2, if_pos (show (0 : Int32) = 0 from rfl)]
    by_cases c3 : zs_bit (S 4 p) t = true
    · rw [if_pos c3, if_neg (show ¬ ((1 : Int32) = 0) by decide), if_neg (show ¬ ¬ ((0 : Int32) = 0) by decide)]
      exact ⟨_, _, _, rfl, rfl, hI9'⟩
    · rw [if_neg c3, if_pos (show (0 : Int32) = 0 from rfl)]
      exact ⟨_, _, _, rfl, rfl, hI9'⟩
