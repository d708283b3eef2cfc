theorem zq_ucm {X : zq_M} {c k c1 k1 : Nat} {v w : Int32} (h : c ≠ c1 ∨ k ≠ k1) : zq_u1 (zq_u1 X c k v) c1 k1 w = zq_u1 (zq_u1 X c1 k1 w) c k v := by
  have : (zq_u1 (zq_u1 X c k v) c1 k1 w).1 = (zq_u1 (zq_u1 X c1 k1 w) c k v).1 := by
    funext a b
    simp only [zq_g1]
    by_cases h1 : a = c1 ∧ b = k1
    · rw [if_pos h1]
      by_cases h2 : a = c ∧ b = k
      · omega
      · rw [if_neg h2, if_pos h1]
    · rw [if_neg h1]
      by_cases h2 : a = c ∧ b = k
      · rw [if_pos h2, if_pos h2]
      · rw [if_neg h2, if_neg h2, if_neg h1]
  exact Prod.ext this rfl
theorem zv_now_co {q v : Nat} {X M : zq_M} (hv : v ≤ q) (h : zv_now q X M) : zv_now (q + 1) (zq_u1 X 1 7 (zn (v + 1))) (zq_u1 M 69 2 (zn (v + 1))) := by
  obtain ⟨⟨h1, h2, h3, h4, h5, h6, h7, h8, h9, h10, h11, h12, h13, h14, h15, h16, h17⟩, ⟨e1, e2, e3, e4, e5, e6, e7, e8, e9, e10, e11, e12, e13, e14, e15⟩⟩ := h
  have hn : ∀ {m1 k1 : Nat}, zv_bd X 1 k1 m1 → (k1 = 7 → v + 1 < m1) → zv_bd (zq_u1 X 1 7 (zn (v + 1))) 1 k1 m1 := by
    intro m1 k1 hb hv2
    unfold zv_bd
    rw [zq_g1]
    by_cases h2 : 1 = 1 ∧ k1 = 7
    · rw [if_pos h2]; exact ⟨v + 1, hv2 h2.2, rfl⟩
    · rw [if_neg h2]; exact hb
  refine ⟨⟨hn h1 (by omega), fun i hi => zv_bd_u (h2 i hi) (by omega), fun i hi => zv_bd_u (h3 i hi) (by omega), fun i hi => zv_bd_u (h4 i hi) (by omega), fun i hi => zv_bd_u (h5 i hi) (by omega), fun i hi => zv_bd_u (h6 i hi) (by omega), fun i hi => zv_bd_u (h7 i hi) (by omega), ⟨v + 1, by omega, by rw [zq_g1, if_pos ⟨rfl, rfl⟩]⟩, hn h9 (by omega), hn h10 (by omega), fun i hi => zv_bd_u (h11 i hi) (by omega), fun i hi => zv_bd_u (h12 i hi) (by omega), hn h13 (by omega), ?_, ?_, ?_, ?_⟩, ?_⟩
  · intro i hi
    rw [zq_us1 (by omega)]; exact h14 i hi
  · rw [zq_us1 (by omega), zx_u (by omega)]
    rcases h15 with h | h
    · exact Or.inl h
    · exact Or.inr (hn h (by omega))
  · intro i hi
    rw [zq_us1 (by omega)]
    unfold zx
    rw [zq_us1 (by omega)]
    exact h16 i hi
  · intro i hi hi2
    rw [zx_u (c1 := 1 + 7) (by omega), zx_u (c1 := 1 + 8) (by omega), show zx (zq_u1 X 1 7 (zn (v + 1))) 1 0 = zx X 1 0 by unfold zx; rw [zq_us1 (by omega)]]
    refine h17 i hi ?_
    unfold zx at hi2 ⊢
    rw [zq_us1 (by omega)] at hi2
    exact hi2
  · refine ⟨zv_e_u e1 (by omega), ?_, zv_e_u e3 (by omega), zv_e_u e4 (by omega), zv_e_u e5 (by omega), zv_e_u e6 (by omega), zv_e_u e7 (by omega), fun i hi => zv_e_u (e8 i hi) (by omega), fun i hi => zv_e_u (e9 i hi) (by omega), fun i hi => zv_e_u (e10 i hi) (by omega), fun i hi => zv_e_u (e11 i hi) (by omega), fun i hi => zv_e_u (e12 i hi) (by omega), fun i hi => zv_e_u (e13 i hi) (by omega), fun i hi => zv_e_u (e14 i hi) (by omega), fun i hi => zv_e_u (e15 i hi) (by omega)⟩
    rw [zq_us1 (by omega), zx_u (by omega)]; exact e2
theorem zI_come (N : Nat) (hN : 120 < N) : zq_op_come N zI := by
  intro q j X M a b hq hI
  have hI1 := zI_idle q j X M hI
  obtain ⟨S, h, C, W, U, E, T, hA⟩ := zy_pic N hq hI
  have hA0 := hA
  obtain ⟨hS, hq1, hX, hM, a1, a2, a3, a4, a5, a6⟩ := hA
  have hn := hS.1
  unfold f_X10_come f_X11_come
  rw [zw_xp, zw_mp, hX.1, hM.1, zw_xl, zw_ml]
  simp only [Option.bind_some]
  have d4 : ¬ ((1 : Int32) = 0) := by decide
  by_cases c0 : a < 0 ∨ zn (S 0 0) - 1 < a
  · simp only [c0, if_true]
    exact ⟨_, _, _, rfl, rfl, hI1⟩
  simp only [c0, d4, if_false]
  by_cases c1 : b < 0 ∨ 3 < b
  · simp only [c1, if_true, not_true, if_false]
    exact ⟨_, _, _, rfl, rfl, hI1⟩
  simp only [c1, d4, if_false, not_false_iff, if_true]
  obtain ⟨p, hp, rfl⟩ := zn_pers hn c0
  obtain ⟨r, hr, rfl⟩ := zw_in (n := 3) (fun h => c1 (Or.inl h)) (fun h => c1 (Or.inr h)) (by omega)
  rw [zn_ck (by omega) (by omega), zn_ix (by omega), hX.2.2.2.2.1 p (by omega), hM.2.1, zy_plM N M (by omega) (zy_wl hS), zy_plc hS (by omega)]
  simp only [Option.bind_some]
  by_cases c3 : zn (S 3 p) = zn r
  · rw [if_neg (fun h => h c3), if_neg (fun h => h c3)]
    exact ⟨_, _, _, rfl, rfl, hI1⟩
  rw [if_pos c3, if_pos c3, zy_mnM (by omega) hM.1 hn (zy_wl hS) (by omega)]
  simp only [Option.bind_some]
  have q99 : (9999 : Int32) = zn 9999 := rfl
  have hg1 : (M.1 69 2 = 9999) = (S 0 1 = 9999) := by rw [hM.2.2.1]; exact zn_eq (b := 9999) (by omega) (by omega)
  simp only [hg1]
  rw [if_neg (by omega)]
  have e1w : zn (zp_mn (S 0 0) (zv_pk (S 3)) r) + 1 = zn (zp_nw S r) := by rw [zl_1, zn_add, zp_mn_w hS]
  rw [e1w]
  obtain ⟨b0, F, hD⟩ := zyC_D a4.1 a6
  have hL : zyL M S b0 C W U F T := ⟨hM, hD⟩
  obtain ⟨X1, x1, x2, x3⟩ := zy_baN (r := r) hN hA0 (show p < 5 by omega) (by omega)
  obtain ⟨M1, m1, m2⟩ := zh_barM (N := N) (n := zp_nw S r) hN hS hL a4 (show p < 5 by omega) (show r < 4 by omega) (zp_nwl hS r)
  rw [x1, m1]
  simp only [Option.bind_some, zq_p]
  have hfold : (if zh_bar W (fun c => zt_val (zf S p r (zp_nw S r) 99) (T c)) C = true then (1 : Int32) else 0) = (if zp_ba S W T C p r (zp_nw S r) = true then 1 else 0) := rfl
  rw [hfold]
  cases hb : zp_ba S W T C p r (zp_nw S r) with
  | true =>
    rw [if_pos (by decide), if_neg (by decide)]
    exact ⟨_, _, _, rfl, rfl, zI_scr x2 (zfm_84 m2) hI1⟩
  | false =>
    have hA1 := zyA_fr x2 (zfm_84 m2) hA0
    have hX1 := hA1.2.2.1
    have hg2 : (X1.1 1 7 < 9999) = (S 0 1 < 9999) := by rw [hX1.2.1]; exact zn_lt (b := 9999) (by omega) (by omega)
    rw [if_neg (by decide), if_pos (by rw [hg2]; omega), if_pos (by rfl)]
    obtain ⟨X2, y1, y2, y3⟩ := zy_prN (r := r) hN hA1 (show p < 5 by omega) (by omega)
    obtain ⟨b1, F1, hD1⟩ := zyC_D a4.1 hA1.2.2.2.2.2.2.2.2.2
    have hL1 : zyL M1 S b1 C W U F1 T := ⟨hA1.2.2.2.1, hD1⟩
    obtain ⟨M2, n1, n2⟩ := zh_sumM (N := N) (w := 0) (n := zp_nw S r) (t := 99) hN hS hL1 a4 (by omega) (show p < 5 by omega) (show r < 4 by omega) (zp_nwl hS r) (by omega)
    have q99b : (99 : Int32) = zn 99 := rfl
    rw [y1, q99b, zl_0, n1]
    have hI2 : zI q j X2 M2 := zI_scr (zfx_t x2 y2) (zfm_t (zfm_84 m2) (zfm_84 n2)) hI
    have hA2 := zyA_fr y2 (zfm_84 n2) hA1
    have hX2 := hA2.2.2.1
    have hM2 := hA2.2.2.2.1
    simp only [Option.bind_some]
    obtain ⟨z1, z2⟩ := zv_bz (by omega) hI2.1.1.2.2.2.2.2.2.2.2.1
    have z3 : M2.1 69 3 = zn (zx X2 1 8) := by rw [hI2.1.2.2.2.2.1]; exact z1
    have hpl := zp_prl (S := S) (p := p) (r := r) (n := zp_nw S r) a4
    have hfold2 : zn 1 + zn (zh_sum W U (fun c => zt_val (zf S p r (zp_nw S r) 99) (T c)) 0 C) = zn (zp_pr S W U T C p r (zp_nw S r)) := by rw [zn_add]; rfl
    rw [zl_1]
    simp only [zq_p]
    rw [hfold2]
    generalize zp_pr S W U T C p r (zp_nw S r) = pr at *
    simp only [z3, q99]
    have hcost : ∀ k, (if zn k + zn pr < zn 9999 then zn k + zn pr else zn 9999) = zn (if k + pr < 9999 then k + pr else 9999) → True := fun _ _ => trivial
    have w1 : (zq_u1 X2 4 p (zn r)).1 1 8 = zn (zx X2 1 8) := by rw [zq_us1 (by omega)]; exact z1
    have e8 : (if zn (zx X2 1 8) + zn pr < zn 9999 then zn (zx X2 1 8) + zn pr else zn 9999) = zn (if zx X2 1 8 + pr < 9999 then zx X2 1 8 + pr else 9999) := by
      have : (zn (zx X2 1 8 + pr) < zn 9999) = (zx X2 1 8 + pr < 9999) := zn_lt (by omega) (by omega)
      rw [zn_add]
      simp only [this]
      split <;> rfl
    generalize hk8 : zx X2 1 8 = k8 at *
    simp only [zq_b]
    rw [w1, e8]
    have e3 : (zn k8 + zn pr ≤ zn 9999) = (k8 + pr ≤ 9999) := by rw [zn_add]; exact zn_le (by omega) (by omega)
    have e4 : ∀ (f : Int32 → Option (Int32 × zq_M)), (if zn k8 + zn pr ≤ zn 9999 then f (zn k8 + zn pr) else f (zn 9999)) = f (zn (if k8 + pr < 9999 then k8 + pr else 9999)) := by
      intro f
      simp only [e3]
      rw [zn_add]
      by_cases c : k8 + pr ≤ 9999
      · rw [if_pos c]
        by_cases c' : k8 + pr < 9999
        · rw [if_pos c']
        · rw [if_neg c', show k8 + pr = 9999 by omega]
      · rw [if_neg c, if_neg (by omega)]
    rw [e4 (fun v => j_X11_come_110 N (zn p) (zn r) (zn (zh_sum W U (fun c => zt_val (zf S p r (zp_nw S r) 99) (T c)) 0 C)) M2 v)]
    have hk9 : (if k8 + pr < 9999 then k8 + pr else 9999) < 10000 := by split <;> omega
    generalize (if k8 + pr < 9999 then k8 + pr else 9999) = nc at *
    unfold j_X11_come_110
    simp only [zq_b]
    have g1 : (zq_u1 M2 69 3 (zn nc)).1 69 1 = zn (zv_pk (S 3)) := by rw [zq_us1 (by omega)]; exact hM2.2.1
    rw [g1, zy_mvM N _ (by omega) (by omega) (zy_wl hS)]
    simp only [Option.bind_some]
    have g2 : (zq_u1 (zq_u1 M2 69 3 (zn nc)) 69 1 (zn (zp_mv (zv_pk (S 3)) p r))).1 69 2 + 1 = zn (S 0 1 + 1) := by
      rw [zq_us1 (by omega), zq_us1 (by omega), hM2.2.2.1]; exact zn_add _ 1
    have g3 : (zq_u1 (zq_u1 X2 4 p (zn r)) 1 8 (zn nc)).1 1 7 + zn 1 = zn (S 0 1 + 1) := by
      rw [zq_us1 (by omega), zq_us1 (by omega), hX2.2.1, zn_add]
    rw [g2, g3]
    have hpX : zx X2 4 = zx X2 4 := rfl
    have hpe : zp_mv (zv_pk (S 3)) p r = zv_pk (zv_set (zx X2 4) p r) := by
      unfold zp_mv
      rw [zy_plc hS (by omega), zv_pk_set hS.2.2.2.2.2.1 (by omega)]
      have : ∀ i, i < 5 → zx X2 4 i = S 3 i := fun i hi => by
        unfold zx
        have := hS.2.2.2.2.2.1 i hi
        rw [hX2.2.2.2.2.1 i hi, zn_ix (by omega)]
      unfold zv_pk zv_set
      rw [this 0 (by omega), this 1 (by omega), this 2 (by omega), this 3 (by omega), this 4 (by omega)]
    have hn0 : zx X2 1 0 = S 0 0 := by unfold zx; rw [hX2.1, zn_ix (by omega)]
    have hnow := zv_now_co (v := S 0 1) hq1 (zv_now_slot (c' := 8) (c := 3) (v := nc) (m := 10000) (by decide) hk9 (zv_now_pl (i := p) (v := r) (by omega) (by omega) hI2.1))
    rw [← hpe] at hnow
    rw [zq_ucm (X := M2) (c := 69) (k := 1) (by omega)] at hnow
    rw [zn_ck (by omega) (by omega)]
    rw [show (1 : Int32) + zn (zh_sum W U (fun c => zt_val (zf S p r (zp_nw S r) 99) (T c)) 0 C) = zn pr from hfold2]
    refine ⟨_, _, _, rfl, rfl, ?_⟩
    refine zI_now hI2 ?_ ?_ ?_ rfl ?_ ?_ rfl hnow
    · rw [zq_un (by omega), zq_un (by omega), zq_un (by omega)]
    · intro c hc; rw [zq_un (by omega), zq_un (by omega), zq_un (by omega)]
    · rw [zq_us1 (by omega), zq_us1 (by omega), zq_us1 (by omega)]
    · intro k hk; rw [zq_us1 (by omega), zq_us1 (by omega), zq_us1 (by omega)]
    · intro c hc; rw [zq_un (by omega), zq_un (by omega), zq_un (by omega)]
