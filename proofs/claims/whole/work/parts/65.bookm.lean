theorem zb_back {N v : Nat} {M : zq_M} (hN : 120 < N) : ∃ M1, zq_loop (fun _ _ => none) (b_X11_readBook_144 (zn v)) N (0 : Int32) M = some (zn v, M1) ∧ zf1 72 M M1 ∧ ∀ i, i < 5 → M1.1 72 i = M.1 97 i := by
  refine zL (α := Int32 → zq_M → Option (Int32 × zq_M)) (fun (X1 : zq_M) k g => g (zn k) X1) (fun k X1 => zf1 72 M X1 ∧ ∀ i, i < k → X1.1 72 i = M.1 97 i) (fun o => ∃ M1, o = some (zn v, M1) ∧ zf1 72 M M1 ∧ ∀ i, i < 5 → M1.1 72 i = M.1 97 i) 5 ?_ ?_ N 0 M (by omega) (by omega) ⟨zf1_r _ _, fun i hi => by omega⟩
  · intro g k X1 hk ⟨f1, f2⟩ ih
    unfold b_X11_readBook_144
    simp (disch := omega) only [zl_0, zl_1, zl_2, zl_3, zl_4, zl_5, zl_6, zn_ck, zn_ix, zn_add, zn_sub, zn_mul, zn_le, zn_lt, zn_eq, zn_plc1, zn_shl, zn_or, zn_bitc, Option.bind_some, zq_p, zq_b, Nat.one_mul, Nat.zero_add, Nat.add_zero]
    rw [if_neg (by omega)]
    refine ih _ ⟨zf1_u f1, fun i hi => ?_⟩
    rw [zq_g1]
    by_cases e : i = k
    · rw [if_pos ⟨rfl, e⟩, e, f1.2 97 (by omega)]
    · rw [if_neg (fun h => e h.2)]; exact f2 i (by omega)
  · intro g X1 ⟨f1, f2⟩
    unfold b_X11_readBook_144
    simp (disch := omega) only [zl_0, zl_1, zl_2, zl_3, zl_4, zl_5, zl_6, zn_ck, zn_ix, zn_add, zn_sub, zn_mul, zn_le, zn_lt, zn_eq, zn_plc1, zn_shl, zn_or, zn_bitc, Option.bind_some, zq_p, zq_b, Nat.one_mul, Nat.zero_add, Nat.add_zero]
    rw [if_pos (by omega)]
    exact ⟨X1, rfl, f1, f2⟩
theorem zb_put {N : Nat} {M : zq_M} {Q : Option (Int32 × zq_M) → Prop} (hN : 120 < N) (K : ∀ M1, zf1 97 M M1 → (∀ i, i < 5 → M1.1 97 i = M.1 72 i) → Q (zq_loop (fun _ _ => none) (b_X11_readBook_35 N) N (0 : Int32) M1)) : Q (zq_loop (fun _ _ => none) (b_X11_readBook_10 N) N (0 : Int32) M) := by
  refine zL (α := Int32 → zq_M → Option (Int32 × zq_M)) (fun (X1 : zq_M) k g => g (zn k) X1) (fun k X1 => zf1 97 M X1 ∧ ∀ i, i < k → X1.1 97 i = M.1 72 i) Q 5 ?_ ?_ N 0 M (by omega) (by omega) ⟨zf1_r _ _, fun i hi => by omega⟩
  · intro g k X1 hk ⟨f1, f2⟩ ih
    unfold b_X11_readBook_10
    simp (disch := omega) only [zl_0, zl_1, zl_2, zl_3, zl_4, zl_5, zl_6, zn_ck, zn_ix, zn_add, zn_sub, zn_mul, zn_le, zn_lt, zn_eq, zn_plc1, zn_shl, zn_or, zn_bitc, Option.bind_some, zq_p, zq_b, Nat.one_mul, Nat.zero_add, Nat.add_zero]
    rw [if_neg (by omega)]
    refine ih _ ⟨zf1_u f1, fun i hi => ?_⟩
    rw [zq_g1]
    by_cases e : i = k
    · rw [if_pos ⟨rfl, e⟩, e, f1.2 72 (by omega)]
    · rw [if_neg (fun h => e h.2)]; exact f2 i (by omega)
  · intro g X1 ⟨f1, f2⟩
    unfold b_X11_readBook_10 k_X11_readBook_33_5
    simp (disch := omega) only [zl_0, zl_1, zl_2, zl_3, zl_4, zl_5, zl_6, zn_ck, zn_ix, zn_add, zn_sub, zn_mul, zn_le, zn_lt, zn_eq, zn_plc1, zn_shl, zn_or, zn_bitc, Option.bind_some, zq_p, zq_b, Nat.one_mul, Nat.zero_add, Nat.add_zero]
    rw [if_pos (by omega)]
    exact K X1 f1 f2
theorem zk_spS4 {S : Nat → Nat → Nat} {f : Nat → Nat} {r g p : Nat} {T : Nat → Bool} : zk_sp (zS4 S f) r T g p = zk_sp S r T g p := rfl
theorem zb_M {N b h C B : Nat} {X M : zq_M} {S : Nat → Nat → Nat} {R : Nat → Nat} {W U E F : Nat → Nat} {T : Nat → List Nat} (hN : 120 < N) (hS : zyB S) (hL : zyL M S b C W U F T) (h9 : M.1 69 9 = zn (S 0 3)) (hx : zh_x X h C W U E T) (hB : B ≤ 12) (hR : zb_rows R) (h42 : M.1 69 42 = zn B) (h96 : ∀ i, i < 12 → M.1 96 i = zn (R i)) (h97 : ∀ i, i < 5 → M.1 97 i = zn (S 4 i)) : ∃ r M1, zq_loop (fun _ _ => none) (b_X11_readBook_35 N) N (0 : Int32) M = some (zn r, M1) ∧ zb_res (zb_ok S R) B r ∧ M1.2 = M.2 ∧ (∀ c, c ≠ 72 ∧ c ≠ 84 → M1.1 c = M.1 c) ∧ ∀ i, i < 5 → M1.1 72 i = zn (S 4 i) := by
  have hn := hS.1
  have hb1 := hS.2.1
  have hM := hL.1
  have fin : ∀ (k : Nat) (M1 : zq_M), zb_res (zb_ok S R) B k → M1.2 = M.2 → (∀ c, c ≠ 72 ∧ c ≠ 84 → M1.1 c = M.1 c) → ∃ r M2, j_X11_readBook_142 N (zn k) M1 = some (zn r, M2) ∧ zb_res (zb_ok S R) B r ∧ M2.2 = M.2 ∧ (∀ c, c ≠ 72 ∧ c ≠ 84 → M2.1 c = M.1 c) ∧ ∀ i, i < 5 → M2.1 72 i = zn (S 4 i) := by
    intro k M1 h1 h2 h3
    obtain ⟨M2, e1, e2, e3⟩ := zb_back (N := N) (v := k) (M := M1) hN
    refine ⟨k, M2, e1, h1, e2.1.trans h2, fun c hc => (e2.2 c hc.1).trans (h3 c hc), fun i hi => ?_⟩
    rw [e3 i hi, h3 97 (by omega)]; exact h97 i hi
  refine zL (α := Int32 → zq_M → Option (Int32 × zq_M)) (fun (X1 : zq_M) k g => g (zn k) X1) (fun k M1 => M1.2 = M.2 ∧ (∀ c, c ≠ 72 ∧ c ≠ 84 → M1.1 c = M.1 c) ∧ (∀ i, i < 5 → M1.1 72 i = zn (zb_kf S R k i)) ∧ ∀ k1, k1 < k → zb_ok S R k1) (fun o => ∃ r M1, o = some (zn r, M1) ∧ zb_res (zb_ok S R) B r ∧ M1.2 = M.2 ∧ (∀ c, c ≠ 72 ∧ c ≠ 84 → M1.1 c = M.1 c) ∧ ∀ i, i < 5 → M1.1 72 i = zn (S 4 i)) B ?_ ?_ N 0 M (by omega) (by omega) ⟨rfl, fun _ _ => rfl, fun i hi => hM.2.2.2.2.2.1 i hi, fun k1 hk1 => by omega⟩
  · intro g k M1 hk ⟨f1, f2, f3, f4⟩ ih
    obtain ⟨r1, r2⟩ := hR k (by omega)
    have q10 : (10 : Int32) = zn 10 := rfl
    have hkl := zb_kfl hS hR k (by omega)
    have hM1 : zyM (zS4 S (zb_kf S R k)) M1 := zS4_M (fun k hk => by rw [f2 69 (by omega)]) (fun c h1 h2 h3 => f2 c (by omega)) f3 hM
    have hL1 : zyL M1 (zS4 S (zb_kf S R k)) b C W U F T := ⟨hM1, zyD_fr (by rw [f2 69 (by omega)]) (fun c h1 h2 => f2 c (by omega)) hL.2⟩
    have hB1 : zyB (zS4 S (zb_kf S R k)) := zS4_B hkl hS
    have hok : zb_ok S R k ↔ (R k / 10 < S 0 0 ∧ zs_bit (zb_kf S R k (R k / 10)) (R k % 10) = true ∧ zk_now S (R k / 10) = true) := Iff.rfl
    have hkf1 : ∀ i, zb_kf S R (k + 1) i = if i < S 0 0 ∧ S 3 i = S 3 (R k / 10) then zb_kf S R k i ||| 2 ^ (R k % 10) else zb_kf S R k i := fun i => rfl
    unfold b_X11_readBook_35
    rw [f2 69 (by omega), f2 96 (by omega), h42, if_neg (by rw [zn_le (by omega) (by omega)]; omega)]
    repeat rw [zn_ck (a := k) (by omega) (by omega)]
    rw [zn_ix (by omega), h96 k (by omega), q10, zn_div (by omega) (by omega), zn_irem (by omega) (by omega)]
    generalize hp : R k / 10 = p at *
    generalize ht : R k % 10 = t at *
    rw [zw_mp, f2 69 (by omega), hM.1]
    simp only [Option.bind_some]
    have m1 : (zn p < 0) = (p < 0) := zn_lt (b := 0) (by omega) (by omega)
    have m2 : (zn (S 0 0) - 1 < zn p) = (S 0 0 ≤ p) := by
      apply propext
      rw [Int32.lt_iff_toInt_lt, zw_n1 (by omega), zn_ti (by omega)]
      omega
    simp only [m1, m2]
    by_cases c1 : S 0 0 ≤ p
    · rw [if_pos (by rw [if_pos (Or.inr c1)])]
      exact fin k M1 ⟨by omega, f4, Or.inr (fun h => by have := hok.mp h; omega)⟩ f1 f2
    rw [if_neg (by rw [if_neg (by omega)]; decide), zn_ck (by omega) (by omega), zn_ix (by omega), f3 p (by omega), zy_hasM N M1 (by omega) (by have := hkl p (by omega); omega)]
    simp only [Option.bind_some]
    by_cases c2 : zs_bit (zb_kf S R k p) t = true
    · rw [if_pos c2, if_neg (by decide)]
      have hms := zy_msM (N := N) (p := p) (g := S 0 1) (a := zv_pk (S 3)) (by omega) hB1 hM1 (by rw [f2 69 (by omega)]; exact h9) (zy_wl hS) (by show p < S 0 0; omega) (by omega)
      rw [hM.2.1, hM.2.2.1, hms]
      simp only [Option.bind_some]
      have hnow : (decide (zv_pk (S 3) / 4 ^ p % 4 < 3) && zk_sp (zS4 S (zb_kf S R k)) (zv_pk (S 3) / 4 ^ p % 4) (fun q => zv_pk (S 3) / 4 ^ q % 4 == zv_pk (S 3) / 4 ^ p % 4) (S 0 1) p) = zk_now S p := by
        rw [zk_spS4, zy_plc hS (by omega)]
        unfold zk_now
        rw [zk_spcg (T1 := fun q => S 3 q == S 3 p) (fun q hq => by rw [zy_plc hS (by omega)]) (show p < S 0 0 by omega)]
      rw [hnow]
      by_cases c3 : zk_now S p = true
      · rw [if_pos c3, if_neg (by decide)]
        obtain ⟨M2, y1, y2, y3, y4⟩ := zy_saidM (N := N) (p := p) (t := t) hN hB1 hL1 hx (by show p < S 0 0; omega) (by omega)
        rw [y1]
        simp only [Option.bind_some, zq_p]
        have g3 : (zn k : Int32) + 1 = zn (k + 1) := zn_add _ 1
        rw [g3]
        refine ih M2 ⟨y2.trans f1, fun c hc => (y3 c hc).trans (f2 c hc), fun i hi => ?_, fun k1 hk1 => ?_⟩
        · rw [y4 i hi, hkf1 i]; rfl
        · by_cases e : k1 = k
          · subst e
            exact hok.mpr ⟨by omega, c2, c3⟩
          · exact f4 k1 (by omega)
      · rw [if_neg c3, if_pos rfl]
        exact fin k M1 ⟨by omega, f4, Or.inr (fun h => c3 (hok.mp h).2.2)⟩ f1 f2
    · rw [if_neg c2, if_pos rfl]
      exact fin k M1 ⟨by omega, f4, Or.inr (fun h => c2 (hok.mp h).2.1)⟩ f1 f2
  · intro g M1 ⟨f1, f2, f3, f4⟩
    unfold b_X11_readBook_35
    rw [f2 69 (by omega), h42, if_pos (by rw [zn_le (by omega) (by omega)]; omega)]
    exact fin B M1 ⟨by omega, f4, Or.inl rfl⟩ f1 f2
theorem zI_readBook (N : Nat) (hN : 120 < N) : zq_op_readBook N zI := by
  intro q j X M hq hI
  obtain ⟨S, h, C, W, U, E, T, hA⟩ := zy_pic N hq hI
  have hA0 := hA
  have hs := zy_sameA (by omega) hA
  have hK := zyA_K hA
  obtain ⟨hS, hq1, hX, hM, a1, a2, a3, a4, a5, a6⟩ := hA
  obtain ⟨b, F, hD⟩ := zyC_D a4.1 a6
  obtain ⟨b1, b2⟩ := zv_bz (by omega) hI.1.1.2.2.2.2.2.2.2.2.2.2.2.2.1
  have hrows := hI.1.1.2.2.2.2.2.2.2.2.2.2.2.2.2.1
  have hR : zb_rows (zx X 10) := by
    intro i hi
    obtain ⟨a, c, h1, h2, h3⟩ := hrows i hi
    have : zx X 10 i = 10 * a + c := by unfold zx; rw [show X.1 10 i = zn (10 * a + c) from h3, zn_ix (by omega)]
    rw [this]; omega
  have h10 : ∀ i, i < 12 → X.1 10 i = zn (zx X 10 i) := by
    intro i hi
    obtain ⟨a, c, h1, h2, h3⟩ := hrows i hi
    have h3 : X.1 10 i = zn (10 * a + c) := h3
    unfold zx
    rw [h3, zn_ix (by omega)]
  obtain ⟨e1, e2, e3, e4, e5, e6, e7, e8, e9, e10, e11, e12, e13, e14, e15⟩ := hI.1.2
  obtain ⟨r1, X1, x1, x2, x3, x4⟩ := zb_X (N := N) (j := j) (B := zx X 1 13) (R := zx X 10) hN hS hK a5 (by omega) hR b1 h10
  have hM9 : zyM S (zq_u1 M 69 9 (zn (S 0 3))) := zyM_fr (fun k hk => zq_us1 (by omega)) (fun c h1 h2 => zq_un (by omega)) hM
  have key : ∃ r M1, zq_loop (fun _ _ => none) (b_X11_readBook_10 N) N (0 : Int32) (zq_u1 M 69 9 (zn (S 0 3))) = some (zn r, M1) ∧ zb_res (zb_ok S (zx X 10)) (zx X 1 13) r ∧ M1.2 = M.2 ∧ (∀ c, c ≠ 72 ∧ c ≠ 84 ∧ c ≠ 97 → M1.1 c = (zq_u1 M 69 9 (zn (S 0 3))).1 c) ∧ ∀ i, i < 5 → M1.1 72 i = zn (S 4 i) := by
    refine zb_put (Q := fun o => ∃ r M1, o = some (zn r, M1) ∧ zb_res (zb_ok S (zx X 10)) (zx X 1 13) r ∧ M1.2 = M.2 ∧ (∀ c, c ≠ 72 ∧ c ≠ 84 ∧ c ≠ 97 → M1.1 c = (zq_u1 M 69 9 (zn (S 0 3))).1 c) ∧ ∀ i, i < 5 → M1.1 72 i = zn (S 4 i)) hN ?_
    intro M1 f1 f2
    have hL : zyL M1 S b C W U F T := ⟨zyM_fr (M := zq_u1 M 69 9 (zn (S 0 3))) (fun k hk => by rw [f1.2 69 (by omega)]) (fun c h1 h2 => f1.2 c (by omega)) hM9, zyD_fr (by rw [f1.2 69 (by omega)]; exact zq_us1 (by omega)) (fun c h1 h2 => by rw [f1.2 c (by omega)]; exact zq_un (by omega)) hD⟩
    obtain ⟨r, M2, m1, m2, m3, m4, m5⟩ := zb_M (N := N) (B := zx X 1 13) (R := zx X 10) (M := M1) hN hS hL (by rw [f1.2 69 (by omega), zq_g1, if_pos ⟨rfl, rfl⟩]) a4 (by omega) hR (by rw [f1.2 69 (by omega), zq_us1 (by omega), e7]; exact b1) (fun i hi => by rw [f1.2 96 (by omega), zq_un (by omega), e15 i hi]; exact h10 i hi) (fun i hi => by rw [f2 i hi]; exact hM9.2.2.2.2.2.1 i hi)
    exact ⟨r, M2, m1, m2, m3.trans f1.1, fun c hc => (m4 c (by omega)).trans (f1.2 c (by omega)), m5⟩
  obtain ⟨r2, M1, m1, m2, m3, m4, m5⟩ := key
  have hr := zb_uni x2 m2
  subst hr
  have hfx : zfx X X1 := by
    refine ⟨fun c hc => by rw [x4 c (by omega)]; rfl, by rw [x4 54 (by omega)]; rfl, by rw [x3]; rfl, ?_, ?_⟩
    · rw [x3]; funext k; rw [zq_g3, if_neg (by omega)]
    · rw [x3]; funext k; rw [zq_g3, if_neg (by omega)]
  have hI9 : zI q j X1 (zq_u1 M 69 9 (zn (S 0 3))) := zI_scr hfx (zfm_9 M _) hI
  have hI9' := zI_idle _ _ _ _ hI9
  unfold f_X10_readBook f_X11_readBook f_X6_look
  rw [a1, hs]
  simp only [Option.bind_some, a2, zq_gd, if_true, zq_b]
  rw [x1, m1]
  simp only [Option.bind_some, zq_p]
  refine ⟨_, _, _, rfl, rfl, ?_⟩
  refine zI_now hI9 rfl (fun c hc => rfl) rfl rfl (fun k hk => by rw [m4 69 (by omega)]) (fun c hc => m4 c (by omega)) (by rw [m3]; rfl) ?_
  exact zv_now_kn (S 4) (fun c h1 h2 => rfl) (fun i hi => by rw [hfx.1 5 (by omega)]; exact hX.2.2.2.2.2.1 i hi) hS.2.2.2.2.2.2.1 m5 (fun k hk => by rw [m4 69 (by omega)]) (fun c hc => m4 c (by omega)) hI9'.1
