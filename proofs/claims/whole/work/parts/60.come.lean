theorem zn_idf {a : Int32} {n : Nat} (h0 : ¬ (a < 0 ∨ zn n < a)) (hn : n < 2147483648) : ∃ k, k ≤ n ∧ a = zn k := zw_in (fun h => h0 (Or.inl h)) (fun h => h0 (Or.inr h)) hn
def zp_nw (S : Nat → Nat → Nat) (r : Nat) : Nat := zs_cnt (fun p => S 3 p == r) (S 0 0) + 1
theorem zy_nwX {N j r : Nat} {X : zq_M} {S : Nat → Nat → Nat} (hN : 7 < N) (hS : zyB S) (hX : zyX S X) (hr : r < 4) : f_X10_numberWith N j X (zn r) = some (zn (zp_nw S r)) := by
  have hn := hS.1
  have hl := zs_l32 (fun p => S 3 p == r) hn
  unfold f_X10_numberWith zp_nw
  rw [zy_who (n := S 0 0) (P := S 3) hN hX.1 hn hX.2.2.2.2.1 hS.2.2.2.2.2.1 hr]
  simp only [Option.bind_some]
  rw [zb_c N _ X (by omega), zs_cext _ (by omega)]
  simp only [Option.bind_some]
  rw [zl_1, zn_add]
theorem zp_mn_w {S : Nat → Nat → Nat} (hS : zyB S) (r : Nat) : zp_mn (S 0 0) (zv_pk (S 3)) r + 1 = zp_nw S r := by
  have hn := hS.1
  unfold zp_mn zp_nw
  rw [zs_ccg (q := fun p => S 3 p == r) (fun k hk => by rw [zy_plc hS (by omega)])]
theorem zp_nwl {S : Nat → Nat → Nat} (hS : zyB S) (r : Nat) : zp_nw S r < 10 := by
  have hn := hS.1
  have := zs_cle (fun p => S 3 p == r) (S 0 0)
  unfold zp_nw
  omega
theorem zyA_K {N q j h C : Nat} {X M : zq_M} {S : Nat → Nat → Nat} {W U E : Nat → Nat} {T : Nat → List Nat} (hA : zyA N q j X M S h C W U E T) : zyK j (zq_u3 X 35 1 (some h)) S h C W U E T := ⟨zyX_fr (fun c hc => rfl) hA.2.2.1, by rw [zq_g3, if_pos ⟨rfl, rfl⟩], hA.2.2.2.2.2.1, hA.2.2.2.2.2.2.1, hA.2.2.2.2.2.2.2.1⟩
theorem zfx_36 {X X1 : zq_M} {h : Nat} (f : zf1 36 (zq_u3 X 35 1 (some h)) X1) : zfx X X1 := by
  refine ⟨fun c hc => by rw [f.2 c (by omega)]; rfl, by rw [f.2 54 (by omega)]; rfl, by rw [f.1]; rfl, ?_, ?_⟩
  · rw [f.1]; funext k; rw [zq_g3, if_neg (by omega)]
  · rw [f.1]; funext k; rw [zq_g3, if_neg (by omega)]
theorem zy_prN {N q j h C p r : Nat} {X M : zq_M} {S : Nat → Nat → Nat} {W U E : Nat → Nat} {T : Nat → List Nat} (hN : 120 < N) (hA : zyA N q j X M S h C W U E T) (hp : p < 5) (hr : r < 4) : ∃ X1, f_X10_priceNow N j X (zn p) (zn r) = some (zn (zp_pr S W U T C p r (zp_nw S r)), X1) ∧ zfx X X1 ∧ ∀ c, c ≠ 36 → X1.1 c = X.1 c := by
  have hK := zyA_K hA
  obtain ⟨hS, hq, hX, hM, a1, a2, a3, a4, a5, a6⟩ := hA
  obtain ⟨X1, e1, e2⟩ := zh_prX (N := N) (n := zp_nw S r) hN hS hK hp hr (zp_nwl hS r)
  refine ⟨X1, ?_, zfx_36 e2, fun c hc => by rw [e2.2 c hc]; rfl⟩
  unfold f_X10_priceNow f_X6_look
  rw [a1]
  simp only [Option.bind_some, a2, zq_gd, if_true, zq_b]
  rw [zy_nwX (by omega) hS hK.1 hr]
  simp only [Option.bind_some]
  rw [e1]
  rfl
theorem zy_baN {N q j h C p r : Nat} {X M : zq_M} {S : Nat → Nat → Nat} {W U E : Nat → Nat} {T : Nat → List Nat} (hN : 120 < N) (hA : zyA N q j X M S h C W U E T) (hp : p < 5) (hr : r < 4) : ∃ X1, f_X10_isBarredNow N j X (zn p) (zn r) = some (if zp_ba S W T C p r (zp_nw S r) = true then 1 else 0, X1) ∧ zfx X X1 ∧ ∀ c, c ≠ 36 → X1.1 c = X.1 c := by
  have hK := zyA_K hA
  obtain ⟨hS, hq, hX, hM, a1, a2, a3, a4, a5, a6⟩ := hA
  obtain ⟨X1, e1, e2⟩ := zh_baX (N := N) (n := zp_nw S r) hN hS hK hp hr (zp_nwl hS r)
  refine ⟨X1, ?_, zfx_36 e2, fun c hc => by rw [e2.2 c hc]; rfl⟩
  unfold f_X10_isBarredNow f_X6_look
  rw [a1]
  simp only [Option.bind_some, a2, zq_gd, if_true, zq_b]
  rw [zy_nwX (by omega) hS hK.1 hr]
  simp only [Option.bind_some]
  rw [e1]
  simp only [Option.bind_some, zq_p]
  cases zp_ba S W T C p r (zp_nw S r) <;> rfl
theorem zfm_84 {M M1 : zq_M} (f : zf1 84 M M1) : zfm M M1 := ⟨fun k hk => by rw [f.2 69 (by omega)], fun c hc => f.2 c (by omega), by rw [f.1]⟩
theorem zyA_fr {N q j h C : Nat} {X M X1 M1 : zq_M} {S : Nat → Nat → Nat} {W U E : Nat → Nat} {T : Nat → List Nat} (hx : zfx X X1) (hm : zfm M M1) (hA : zyA N q j X M S h C W U E T) : zyA N q j X1 M1 S h C W U E T := by
  obtain ⟨hS, hq, hX, hM, a1, a2, a3, a4, a5, a6⟩ := hA
  refine ⟨hS, hq, zyX_fr (fun c hc => hx.1 c (by omega)) hX, zyM_fr (fun k hk => hm.1 k (by omega)) (fun c h1 h2 => hm.2.1 c (by omega)) hM, ?_, a2, a3, zh_x_fr (fun c h1 h2 => hx.1 c (by omega)) a4, a5, zyC_fr (hm.1 11 (by omega)) (fun c h1 h2 => hm.2.1 c (by omega)) a6⟩
  rw [← a1]
  unfold f_X10_holding f_X10_isFromTo
  rw [hx.1 1 (by omega), hx.1 0 (by omega), hx.2.2.2.1]
theorem zI_coming (N : Nat) (hN : 120 < N) : zq_op_coming N zI := by
  intro q j X M a b c hq hI
  have hI1 := zI_idle q j X M hI
  obtain ⟨S, h, C, W, U, E, T, hA⟩ := zy_pic N hq hI
  have hA0 := hA
  obtain ⟨hS, hq1, hX, hM, a1, a2, a3, a4, a5, a6⟩ := hA
  have hn := hS.1
  unfold f_X10_coming f_X11_coming
  rw [zw_xp, zw_mp, hX.1, hM.1, zw_xl, zw_ml, zw_x, zw_m]
  simp only [Option.bind_some]
  have d4 : ¬ ((1 : Int32) = 0) := by decide
  by_cases c0 : a < 0 ∨ zn (S 0 0) - 1 < a
  · simp only [c0, if_true]
    exact ⟨_, _, _, rfl, rfl, hI1⟩
  simp only [c0, d4, if_false]
  by_cases c1 : b < 0 ∨ 3 < b
  · simp only [c1, if_true]
    exact ⟨_, _, _, rfl, rfl, hI1⟩
  simp only [c1, d4, if_false]
  by_cases c2 : c < 0 ∨ 1 < c
  · simp only [c2, if_true, not_true, if_false]
    exact ⟨_, _, _, rfl, rfl, hI1⟩
  simp only [c2, d4, if_false, not_false_iff, if_true]
  obtain ⟨p, hp, rfl⟩ := zn_pers hn c0
  obtain ⟨r, hr, rfl⟩ := zw_in (n := 3) (fun h => c1 (Or.inl h)) (fun h => c1 (Or.inr h)) (by omega)
  rw [zn_ck (by omega) (by omega), zn_ix (by omega), hX.2.2.2.2.1 p (by omega), hM.2.1, zy_plM N M (by omega) (zy_wl hS), zy_plc hS (by omega)]
  simp only [Option.bind_some]
  by_cases c3 : zn (S 3 p) = zn r
  · rw [if_neg (fun h => h c3), if_neg (fun h => h c3)]
    exact ⟨_, _, _, rfl, rfl, hI1⟩
  rw [if_pos c3, if_pos c3, zy_mnM (by omega) hM.1 hn (zy_wl hS) (by omega)]
  simp only [Option.bind_some]
  rw [zl_1, zn_add, zp_mn_w hS]
  obtain ⟨b0, F, hD⟩ := zyC_D a4.1 a6
  have hL : zyL M S b0 C W U F T := ⟨hM, hD⟩
  by_cases c4 : c = 0
  · rw [if_neg (fun h => h c4), if_neg (fun h => h c4)]
    obtain ⟨X1, e1, e2, -⟩ := zy_prN (r := r) hN hA0 (show p < 5 by omega) (by omega)
    obtain ⟨M1, m1, m2⟩ := zh_sumM (N := N) (w := 0) (n := zp_nw S r) (t := 99) hN hS hL a4 (by omega) (show p < 5 by omega) (show r < 4 by omega) (zp_nwl hS r) (by omega)
    have q99 : (99 : Int32) = zn 99 := rfl
    rw [q99, e1, zl_0, m1]
    simp only [Option.bind_some, zq_p]
    exact ⟨_, _, _, rfl, by rw [zn_add]; rfl, zI_scr e2 (zfm_84 m2) hI1⟩
  · rw [if_pos c4, if_pos c4]
    obtain ⟨X1, e1, e2, -⟩ := zy_baN (r := r) hN hA0 (show p < 5 by omega) (by omega)
    obtain ⟨M1, m1, m2⟩ := zh_barM (N := N) (n := zp_nw S r) hN hS hL a4 (show p < 5 by omega) (show r < 4 by omega) (zp_nwl hS r)
    rw [e1, m1]
    simp only [Option.bind_some, zq_p]
    refine ⟨if zp_ba S W T C p r (zp_nw S r) = true then 1 else 0, X1, M1, ?_, ?_, zI_scr e2 (zfm_84 m2) hI1⟩
    · cases zp_ba S W T C p r (zp_nw S r) <;> rfl
    · show (if (if zp_ba S W T C p r (zp_nw S r) = true then (1 : Int32) else 0) = 0 then _ else _) = _
      cases zp_ba S W T C p r (zp_nw S r) <;> rfl
