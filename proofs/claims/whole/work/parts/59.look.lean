theorem zn_ifb (b : Bool) : zn (if b = true then 1 else 0) = if b = true then (1 : Int32) else 0 := by cases b <;> rfl
def zgX (X X1 : zq_M) : Prop := X1.2 = X.2 ∧ ∀ c, c ≠ 36 ∧ c ≠ 39 ∧ c ≠ 40 → X1.1 c = X.1 c
def zgI (X : zq_M) (P : Nat → Nat → Nat → Nat) (B : Nat → Nat → Nat → Bool) (n p r m : Nat) (X1 : zq_M) : Prop := zgX X X1 ∧ ∀ p1 r1 m1, p1 < n → r1 < 4 → 1 ≤ m1 → m1 ≤ n → (p1 < p ∨ p1 = p ∧ (r1 < r ∨ r1 = r ∧ m1 < m)) → X1.1 39 ((p1 * 4 + r1) * 5 + m1 - 1) = zn (P p1 r1 m1) ∧ X1.1 40 ((p1 * 4 + r1) * 5 + m1 - 1) = zn (if B p1 r1 m1 = true then 1 else 0)
theorem zy_tell {N j h C : Nat} {X : zq_M} {S : Nat → Nat → Nat} {W U E : Nat → Nat} {T : Nat → List Nat} (hN : 120 < N) (hS : zyB S) (hK : zyK j X S h C W U E T) : ∃ X1, f_X6_tellComings N j X = some X1 ∧ zgX X X1 ∧ zyPX (S 0 0) (zp_pr S W U T C) X1 ∧ zyBX (S 0 0) (zp_ba S W T C) X1 := by
  have hn := hS.1
  unfold f_X6_tellComings
  refine zL (α := Int32 → zq_M → Option zq_M) (fun (X1 : zq_M) p f => f (zn p) X1) (fun p X1 => zgI X (zp_pr S W U T C) (zp_ba S W T C) (S 0 0) p 0 0 X1) (fun o => ∃ X1, o = some X1 ∧ zgX X X1 ∧ zyPX (S 0 0) (zp_pr S W U T C) X1 ∧ zyBX (S 0 0) (zp_ba S W T C) X1) (S 0 0) ?_ ?_ N 0 X (by omega) (by omega) ⟨⟨rfl, fun _ _ => rfl⟩, fun p1 r1 m1 _ _ _ _ h => by omega⟩
  · intro rc2 p X1 hp h1 ih
    have k1 : X1.1 1 0 = zn (S 0 0) := by rw [h1.1.2 1 (by omega)]; exact hK.1.1
    unfold b_X6_tellComings_2
    rw [k1, if_neg (by rw [zn_le (by omega) (by omega)]; omega)]
    refine zL (α := Int32 → zq_M → Option zq_M) (fun (X1 : zq_M) r f => f (zn r) X1) (fun r X1 => zgI X (zp_pr S W U T C) (zp_ba S W T C) (S 0 0) p r 0 X1) (fun o => ∃ X1, o = some X1 ∧ zgX X X1 ∧ zyPX (S 0 0) (zp_pr S W U T C) X1 ∧ zyBX (S 0 0) (zp_ba S W T C) X1) 4 ?_ ?_ N 0 X1 (by omega) (by omega) h1
    · intro rc15 r X2 hr h2 ih2
      unfold b_X6_tellComings_15
      rw [zl_4, if_neg (by rw [zn_le (by omega) (by omega)]; omega)]
      refine zL (α := Int32 → zq_M → Option zq_M) (fun (X1 : zq_M) m f => f (zn (m + 1)) X1) (fun m X1 => zgI X (zp_pr S W U T C) (zp_ba S W T C) (S 0 0) p r (m + 1) X1) (fun o => ∃ X1, o = some X1 ∧ zgX X X1 ∧ zyPX (S 0 0) (zp_pr S W U T C) X1 ∧ zyBX (S 0 0) (zp_ba S W T C) X1) (S 0 0) ?_ ?_ N 0 X2 (by omega) (by omega) ⟨h2.1, fun p1 r1 m1 a b c d e => h2.2 p1 r1 m1 a b c d (by omega)⟩
      · intro rc22 m X3 hm h3 ih3
        have K3 : zyK j X3 S h C W U E T := zyK_fr h3.1.1 (fun c hc => h3.1.2 c (by omega)) hK
        obtain ⟨X4, e4, f4⟩ := zh_prX (N := N) (n := m + 1) hN hS K3 (show p < 5 by omega) hr (by omega)
        have hK5 : zyK j (zq_u1 X4 39 ((p * 4 + r) * 5 + (m + 1) - 1) (zn (zp_pr S W U T C p r (m + 1)))) S h C W U E T := zyK_fr (X := X3) f4.1 (fun c hc => by rw [zq_un (by omega)]; exact f4.2 c (by omega)) K3
        obtain ⟨X6, e6, f6⟩ := zh_baX (N := N) (n := m + 1) hN hS hK5 (show p < 5 by omega) hr (by omega)
        unfold b_X6_tellComings_22
        rw [K3.1.1, e4]
        unfold f_X6_slotOf
        simp (disch := omega) only [zl_0, zl_1, zl_2, zl_3, zl_4, zl_5, zl_6, zn_ck, zn_ix, zn_add, zn_sub, zn_mul, zn_le, zn_lt, zn_eq, zn_plc1, zn_shl, zn_or, zn_bitc, Option.bind_some, zq_p, zq_b, Nat.one_mul, Nat.zero_add, Nat.add_zero]
        rw [if_neg (by omega), e6]
        simp only [Option.bind_some, zq_p, zq_b]
        refine ih3 _ ⟨⟨?_, ?_⟩, ?_⟩
        · show X6.2 = X.2
          rw [f6.1]; exact f4.1.trans h3.1.1
        · intro c hc
          rw [zq_un (by omega), f6.2 c (by omega), zq_un (by omega), f4.2 c (by omega)]
          exact h3.1.2 c hc
        · intro p1 r1 m1 a b c d e
          rw [zt_nar]
          rw [zq_un (c := 40) (c1 := 39) (by omega), f6.2 39 (by omega)]
          by_cases heq : p1 = p ∧ r1 = r ∧ m1 = m + 1
          · obtain ⟨rfl, rfl, rfl⟩ := heq
            rw [zq_g1, if_pos ⟨rfl, rfl⟩, zq_g1, if_pos ⟨rfl, rfl⟩]
            exact ⟨rfl, (zn_ifb _).symm⟩
          · have hne : (p1 * 4 + r1) * 5 + m1 - 1 ≠ (p * 4 + r) * 5 + (m + 1) - 1 := by omega
            rw [zq_us1 (by omega), zq_us1 (by omega), f6.2 40 (by omega), zq_un (by omega), f4.2 39 (by omega), f4.2 40 (by omega)]
            exact h3.2 p1 r1 m1 a b c d (by omega)
      · intro rc22 X3 h3
        have k3 : X3.1 1 0 = zn (S 0 0) := by rw [h3.1.2 1 (by omega)]; exact hK.1.1
        unfold b_X6_tellComings_22
        rw [k3, if_pos (by rw [zn_lt (by omega) (by omega)]; omega)]
        rw [zl_1, zn_add]
        exact ih2 X3 ⟨h3.1, fun p1 r1 m1 a b c d e => h3.2 p1 r1 m1 a b c d (by omega)⟩
    · intro rc15 X2 h2
      unfold b_X6_tellComings_15
      rw [zl_4, if_pos (by rw [zn_le (by omega) (by omega)]; omega), zl_1, zn_add]
      exact ih X2 ⟨h2.1, fun p1 r1 m1 a b c d e => h2.2 p1 r1 m1 a b c d (by omega)⟩
  · intro rc2 X1 h1
    have k1 : X1.1 1 0 = zn (S 0 0) := by rw [h1.1.2 1 (by omega)]; exact hK.1.1
    unfold b_X6_tellComings_2
    rw [k1, if_pos (by rw [zn_le (by omega) (by omega)]; omega)]
    exact ⟨X1, rfl, h1.1, fun p r m a b c d => (h1.2 p r m a b c d (by omega)).1, fun p r m a b c d => (h1.2 p r m a b c d (by omega)).2⟩
def zgM (M M1 : zq_M) : Prop := M1.2 = M.2 ∧ ∀ c, c ≠ 84 ∧ c ≠ 85 ∧ c ≠ 86 → M1.1 c = M.1 c
def zgJ (M : zq_M) (P : Nat → Nat → Nat → Nat) (B : Nat → Nat → Nat → Bool) (n p r m : Nat) (M1 : zq_M) : Prop := zgM M M1 ∧ ∀ p1 r1 m1, p1 < n → r1 < 4 → 1 ≤ m1 → m1 ≤ n → (p1 < p ∨ p1 = p ∧ (r1 < r ∨ r1 = r ∧ m1 < m)) → M1.1 85 (24 * p1 + 6 * r1 + m1) = zn (P p1 r1 m1) ∧ M1.1 86 (24 * p1 + 6 * r1 + m1) = zn (if B p1 r1 m1 = true then 1 else 0)
theorem zyL_g {M M1 : zq_M} {S : Nat → Nat → Nat} {b C : Nat} {W U F : Nat → Nat} {T : Nat → List Nat} (hf : ∀ c, c < 84 → M1.1 c = M.1 c) (hL : zyL M S b C W U F T) : zyL M1 S b C W U F T := ⟨zyM_fr (fun k _ => congrFun (hf 69 (by omega)) k) (fun c _ _ => hf c (by omega)) hL.1, zyD_fr (congrFun (hf 69 (by omega)) 11) (fun c _ _ => hf c (by omega)) hL.2⟩
theorem zy_lay {N b h C : Nat} {X M : zq_M} {S : Nat → Nat → Nat} {W U E F : Nat → Nat} {T : Nat → List Nat} (hN : 120 < N) (hS : zyB S) (hL : zyL M S b C W U F T) (hx : zh_x X h C W U E T) : ∃ M1, zq_loop (fun _ _ => none) (b_X11_layComings_10 N) N (0 : Int32) M = some M1 ∧ zgM M M1 ∧ zyPM (S 0 0) (zp_pr S W U T C) M1 ∧ zyBM (S 0 0) (zp_ba S W T C) M1 := by
  have hn := hS.1
  have q24 : (24 : Int32) = zn 24 := rfl
  have q99 : (99 : Int32) = zn 99 := rfl
  refine zL (α := Int32 → zq_M → Option zq_M) (fun (M1 : zq_M) p f => f (zn p) M1) (fun p M1 => zgJ M (zp_pr S W U T C) (zp_ba S W T C) (S 0 0) p 0 0 M1) (fun o => ∃ M1, o = some M1 ∧ zgM M M1 ∧ zyPM (S 0 0) (zp_pr S W U T C) M1 ∧ zyBM (S 0 0) (zp_ba S W T C) M1) (S 0 0) ?_ ?_ N 0 M (by omega) (by omega) ⟨⟨rfl, fun _ _ => rfl⟩, fun p1 r1 m1 _ _ _ _ h => by omega⟩
  · intro rc2 p M1 hp h1 ih
    have k1 : M1.1 69 0 = zn (S 0 0) := by rw [h1.1.2 69 (by omega)]; exact hL.1.1
    unfold b_X11_layComings_10
    rw [k1, if_neg (by rw [zn_le (by omega) (by omega)]; omega)]
    refine zL (α := Int32 → zq_M → Option zq_M) (fun (M1 : zq_M) r f => f (zn r) M1) (fun r M1 => zgJ M (zp_pr S W U T C) (zp_ba S W T C) (S 0 0) p r 0 M1) (fun o => ∃ M1, o = some M1 ∧ zgM M M1 ∧ zyPM (S 0 0) (zp_pr S W U T C) M1 ∧ zyBM (S 0 0) (zp_ba S W T C) M1) 4 ?_ ?_ N 0 M1 (by omega) (by omega) h1
    · intro rc15 r M2 hr h2 ih2
      unfold b_X11_layComings_20
      rw [zl_4, if_neg (by rw [zn_le (by omega) (by omega)]; omega)]
      refine zL (α := Int32 → zq_M → Option zq_M) (fun (M1 : zq_M) m f => f (zn (m + 1)) M1) (fun m M1 => zgJ M (zp_pr S W U T C) (zp_ba S W T C) (S 0 0) p r (m + 1) M1) (fun o => ∃ M1, o = some M1 ∧ zgM M M1 ∧ zyPM (S 0 0) (zp_pr S W U T C) M1 ∧ zyBM (S 0 0) (zp_ba S W T C) M1) (S 0 0) ?_ ?_ N 0 M2 (by omega) (by omega) ⟨h2.1, fun p1 r1 m1 a b c d e => h2.2 p1 r1 m1 a b c d (by omega)⟩
      · intro rc22 m M3 hm h3 ih3
        have K3 : zyL M3 S b C W U F T := zyL_g (fun c hc => h3.1.2 c (by omega)) hL
        obtain ⟨M4, e4, f4⟩ := zh_sumM (N := N) (w := 0) (n := m + 1) (t := 99) hN hS K3 hx (by omega) (show p < 5 by omega) hr (by omega) (by omega)
        have hK5 : zyL (zq_u1 M4 85 (24 * p + 6 * r + (m + 1)) (zn (zp_pr S W U T C p r (m + 1)))) S b C W U F T := zyL_g (M := M3) (fun c hc => by rw [zq_un (by omega)]; exact f4.2 c (by omega)) K3
        obtain ⟨M6, e6, f6⟩ := zh_barM (N := N) (n := m + 1) hN hS hK5 hx (show p < 5 by omega) hr (by omega)
        unfold b_X11_layComings_27
        rw [K3.1.1, q99, zl_0, e4]
        simp (disch := omega) only [zl_0, zl_1, zl_2, zl_3, zl_4, zl_5, zl_6, zn_ck, zn_ix, zn_add, zn_sub, zn_mul, zn_le, zn_lt, zn_eq, zn_plc1, zn_shl, zn_or, zn_bitc, Option.bind_some, zq_p, zq_b, Nat.one_mul, Nat.zero_add, Nat.add_zero, q24]
        rw [if_neg (by omega)]
        rw [show 1 + zh_sum W U (fun c => zt_val (zf S p r (m + 1) 99) (T c)) 0 C = zp_pr S W U T C p r (m + 1) from rfl, e6]
        simp only [Option.bind_some, zq_p, zq_b]
        refine ih3 _ ⟨⟨?_, ?_⟩, ?_⟩
        · show M6.2 = M.2
          rw [f6.1]; exact f4.1.trans h3.1.1
        · intro c hc
          rw [zq_un (by omega), f6.2 c (by omega), zq_un (by omega), f4.2 c (by omega)]
          exact h3.1.2 c hc
        · intro p1 r1 m1 a b c d e
          rw [zt_nar]
          rw [zq_un (c := 86) (c1 := 85) (by omega), f6.2 85 (by omega)]
          by_cases heq : p1 = p ∧ r1 = r ∧ m1 = m + 1
          · obtain ⟨rfl, rfl, rfl⟩ := heq
            rw [zq_g1, if_pos ⟨rfl, rfl⟩, zq_g1, if_pos ⟨rfl, rfl⟩]
            exact ⟨rfl, (zn_ifb _).symm⟩
          · have hne : 24 * p1 + 6 * r1 + m1 ≠ 24 * p + 6 * r + (m + 1) := by omega
            rw [zq_us1 (by omega), zq_us1 (by omega), f6.2 86 (by omega), zq_un (by omega), f4.2 85 (by omega), f4.2 86 (by omega)]
            exact h3.2 p1 r1 m1 a b c d (by omega)
      · intro rc22 M3 h3
        have k3 : M3.1 69 0 = zn (S 0 0) := by rw [h3.1.2 69 (by omega)]; exact hL.1.1
        unfold b_X11_layComings_27
        rw [k3, if_pos (by rw [zn_lt (by omega) (by omega)]; omega)]
        rw [zl_1, zn_add]
        exact ih2 M3 ⟨h3.1, fun p1 r1 m1 a b c d e => h3.2 p1 r1 m1 a b c d (by omega)⟩
    · intro rc15 M2 h2
      unfold b_X11_layComings_20
      rw [zl_4, if_pos (by rw [zn_le (by omega) (by omega)]; omega), zl_1, zn_add]
      exact ih M2 ⟨h2.1, fun p1 r1 m1 a b c d e => h2.2 p1 r1 m1 a b c d (by omega)⟩
  · intro rc2 M1 h1
    have k1 : M1.1 69 0 = zn (S 0 0) := by rw [h1.1.2 69 (by omega)]; exact hL.1.1
    unfold b_X11_layComings_10
    rw [k1, if_pos (by rw [zn_le (by omega) (by omega)]; omega)]
    exact ⟨M1, rfl, h1.1, fun p r m a b c d => (h1.2 p r m a b c d (by omega)).1, fun p r m a b c d => (h1.2 p r m a b c d (by omega)).2⟩
def zyGX (j : Nat) (X : zq_M) (S : Nat → Nat → Nat) (h : Nat) (P : Nat → Nat → Nat → Nat) (B : Nat → Nat → Nat → Bool) : Prop := zyX S X ∧ zyH j S X h ∧ zyPX (S 0 0) P X ∧ zyBX (S 0 0) B X
def zyGM (M : zq_M) (S : Nat → Nat → Nat) (P : Nat → Nat → Nat → Nat) (B : Nat → Nat → Nat → Bool) : Prop := zyM S M ∧ M.1 69 9 = zn (S 0 3) ∧ zyPM (S 0 0) P M ∧ zyBM (S 0 0) B M
theorem zy_lookX {N q j h C : Nat} {X M : zq_M} {S : Nat → Nat → Nat} {W U E : Nat → Nat} {T : Nat → List Nat} (hN : 120 < N) (hA : zyA N q j X M S h C W U E T) : ∃ X1, f_X10_lookAhead N j X = some X1 ∧ zyGX j X1 S h (zp_pr S W U T C) (zp_ba S W T C) ∧ zfx X X1 := by
  obtain ⟨hS, hq, hX, hM, a1, a2, a3, a4, a5, a6⟩ := hA
  have hK : zyK j (zq_u3 X 35 1 (some h)) S h C W U E T := ⟨zyX_fr (fun c hc => rfl) hX, by rw [zq_g3, if_pos ⟨rfl, rfl⟩], a2, a3, a4⟩
  obtain ⟨X1, e1, e2, e3, e4⟩ := zy_tell hN hS hK
  refine ⟨X1, ?_, ⟨?_, ?_, e3, e4⟩, ?_⟩
  · unfold f_X10_lookAhead f_X6_look
    rw [a1]
    simp only [Option.bind_some, a2, zq_gd, if_true, zq_b, e1]
  · exact zyX_fr (fun c hc => e2.2 c (by omega)) hK.1
  · refine ⟨by rw [e2.1]; exact hK.2.1, a2, ?_, a3⟩
    rw [e2.2 h (by omega), zq_g31, a4.2.2.1, a5]
  · refine ⟨fun c hc => by rw [e2.2 c (by omega)]; rfl, by rw [e2.2 54 (by omega)]; rfl, by rw [e2.1]; rfl, ?_, ?_⟩
    · rw [e2.1]; funext k; rw [zq_g3, if_neg (by omega)]
    · rw [e2.1]; funext k; rw [zq_g3, if_neg (by omega)]
theorem zy_lookM {N q j h C : Nat} {X M : zq_M} {S : Nat → Nat → Nat} {W U E : Nat → Nat} {T : Nat → List Nat} (hN : 120 < N) (hA : zyA N q j X M S h C W U E T) : ∃ M1, f_X11_layComings N M = some M1 ∧ zyGM M1 S (zp_pr S W U T C) (zp_ba S W T C) ∧ zfm M M1 := by
  have hs := zy_sameA (by omega) hA
  obtain ⟨hS, hq, hX, hM, a1, a2, a3, a4, a5, a6⟩ := hA
  obtain ⟨b, F, hD⟩ := zyC_D a4.1 a6
  have hL : zyL (zq_u1 M 69 9 (zn (S 0 3))) S b C W U F T := ⟨zyM_fr (fun k hk => zq_us1 (by omega)) (fun c h1 h2 => zq_un (by omega)) hM, zyD_fr (zq_us1 (by omega)) (fun c h1 h2 => zq_un (by omega)) hD⟩
  obtain ⟨M1, e1, e2, e3, e4⟩ := zy_lay hN hS hL a4
  refine ⟨M1, ?_, ⟨?_, ?_, e3, e4⟩, ?_⟩
  · unfold f_X11_layComings
    rw [hs]
    simp only [Option.bind_some, zq_b]
    exact e1
  · exact zyM_fr (fun k hk => congrFun (e2.2 69 (by omega)) k) (fun c h1 h2 => e2.2 c (by omega)) hL.1
  · rw [e2.2 69 (by omega), zq_g1, if_pos ⟨rfl, rfl⟩]
  · refine ⟨fun k hk => ?_, fun c hc => ?_, by rw [e2.1]; rfl⟩
    · rw [e2.2 69 (by omega)]; exact zq_us1 (by omega)
    · rw [e2.2 c (by omega)]; exact zq_un (by omega)
