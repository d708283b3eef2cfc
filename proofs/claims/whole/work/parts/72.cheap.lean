theorem zw_cheapX {N j h r p m : Nat} {X : zq_M} {S : Nat → Nat → Nat} {P : Nat → Nat → Nat → Nat} {B : Nat → Nat → Nat → Bool} (hN : 1100 < N) (hS : zyB S) (hG : zyGX j X S h P B) (hP : ∀ p r m, P p r m ≤ 1001) (hr : r < 3) (hp : p < S 0 0) (hm : m ≤ 4) : ∃ (X1 : zq_M) (b : Nat), f_X9_leastCost N j X (zn p) (zn r) (zn m) = some (if b = zINF then -5 else zn b, X1) ∧ zwF X X1 ∧ b ≤ zINF ∧ ∀ v, v < zINF → (b ≤ v ↔ ∃ d, d ≤ m ∧ zwh S B P 1 r p d v) := by
  have hn := hS.1
  have hinf : zINF = 1073741824 := rfl
  have hq : (1073741824 : Int32) = zn zINF := rfl
  obtain ⟨X0, x1, x2, x3⟩ := zw_beginI (md := 1) hN hS hG (by omega)
  obtain ⟨X2, best, y1, y2, y3, y4, y5⟩ := zw_lw hN hS (zyGX_w x2 hG) x3 (show r < 4 by omega) hp (by omega)
  unfold f_X9_leastCost
  rw [show (1 : Int32) = zn 1 from rfl, x1]
  simp only [Option.bind_some]
  rw [y1]
  simp only [Option.bind_some, zq_p]
  refine zL (α := Int32 → Int32 → zq_M → Option (Int32 × zq_M)) (fun (q : zq_M × Nat) k g => g (zn q.2) (zn k) q.1) (fun k q => zwF X q.1 ∧ zwI (S 0 0) (zv_pk (S 3)) B P 1 q.1 k ∧ q.2 ≤ zINF ∧ ∀ v, v < zINF → (q.2 ≤ v ↔ ∃ d, d ≤ k ∧ zwh S B P 1 r p d v)) (fun o => ∃ (X1 : zq_M) (b : Nat), o = some (if b = zINF then -5 else zn b, X1) ∧ zwF X X1 ∧ b ≤ zINF ∧ ∀ v, v < zINF → (b ≤ v ↔ ∃ d, d ≤ m ∧ zwh S B P 1 r p d v)) m ?_ ?_ N 0 (X2, best) (by omega) (by omega) ⟨zwF_t x2 y2, y3, y4, fun v hv => ?_⟩
  · rintro g k ⟨X1, b⟩ hk ⟨f1, f2, f3, f4⟩ ih
    dsimp only at f1 f2 f3 f4 ih ⊢
    obtain ⟨X3, z1, z2, z3⟩ := zw_goOn hN hS (zyGX_w f1 hG) hP (by omega) (by omega) f2
    obtain ⟨X4, b4, w1, w2, w3, w4, w5⟩ := zw_lw hN hS (zyGX_w (zwF_t f1 z2) hG) z3 (show r < 4 by omega) hp (by omega)
    have q3 : (zn k : Int32) + 1 = zn (k + 1) := zn_add _ 1
    unfold b_X9_leastCost_16
    rw [if_neg (by rw [zn_le (by omega) (by omega)]; omega), z1]
    simp only [Option.bind_some]
    rw [w1]
    simp only [Option.bind_some, zq_p]
    have g1 : (zn b4 < zn b) = (b4 < b) := zn_lt (by omega) (by omega)
    have g5 : (if zn b4 < zn b then zn b4 else zn b) = zn (if b4 < b then b4 else b) := by
      simp only [g1]; split <;> rfl
    rw [g5, q3]
    refine ih (X4, if b4 < b then b4 else b) ⟨zwF_t (zwF_t f1 z2) w2, w3, ?_, fun v hv => ?_⟩
    · dsimp only; split <;> omega
    · dsimp only
      have : ((if b4 < b then b4 else b) ≤ v) ↔ (b ≤ v ∨ b4 ≤ v) := by split <;> omega
      rw [this, f4 v hv, w5 v hv]
      constructor
      · rintro (⟨d, h1, h2⟩ | h)
        · exact ⟨d, by omega, h2⟩
        · exact ⟨k + 1, Nat.le_refl _, h⟩
      · rintro ⟨d, h1, h2⟩
        by_cases e : d = k + 1
        · subst e; exact Or.inr h2
        · exact Or.inl ⟨d, by omega, h2⟩
  · rintro g ⟨X1, b⟩ ⟨f1, f2, f3, f4⟩
    dsimp only at f1 f2 f3 f4 ⊢
    unfold b_X9_leastCost_16 k_X9_leastCost_45_2
    rw [if_pos (by rw [zn_le (by omega) (by omega)]; omega), hq]
    have g1 : (zn b = zn zINF) = (b = zINF) := zn_eq (by omega) (by omega)
    simp only [g1]
    refine ⟨X1, b, ?_, f1, f3, f4⟩
    by_cases c : b = zINF
    · rw [if_neg (fun h => h c), if_pos c]
    · rw [if_pos c, if_neg c]
  · dsimp only
    rw [y5 v hv]
    constructor
    · intro h; exact ⟨0, Nat.le_refl _, h⟩
    · rintro ⟨d, h1, h2⟩
      rw [show d = 0 by omega] at h2; exact h2
def zcF (M M1 : zq_M) : Prop := M1.2 = M.2 ∧ ∀ c, c ≠ 89 ∧ c ≠ 90 → M1.1 c = M.1 c
theorem zcF_t {X Y Z : zq_M} (h : zcF X Y) (g : zcF Y Z) : zcF X Z := ⟨g.1.trans h.1, fun c hc => (g.2 c hc).trans (h.2 c hc)⟩
theorem zyGM_c {M M1 : zq_M} {S : Nat → Nat → Nat} {P : Nat → Nat → Nat → Nat} {B : Nat → Nat → Nat → Bool} (f : zcF M M1) (hG : zyGM M S P B) : zyGM M1 S P B := zyGM_fr (fun k hk => by rw [f.2 69 (by omega)]) (fun c hc => f.2 c (by omega)) hG
def zce (v : Nat) : Int32 := if v = zINF then -1 else zn v
theorem zce_neg {v : Nat} (h : v ≤ zINF) : (zce v < 0) = (v = zINF) := by
  have hinf : zINF = 1073741824 := rfl
  unfold zce
  by_cases c : v = zINF
  · rw [if_pos c]; simp only [c]; decide
  · rw [if_neg c, show ((zn v < 0) = (zn v < zn 0)) from rfl, zn_lt (by omega) (by omega)]
    apply propext
    constructor
    · intro h; omega
    · intro h; exact absurd h c
def zcI (n w : Nat) (B : Nat → Nat → Nat → Bool) (P : Nat → Nat → Nat → Nat) (M : zq_M) (d : Nat) : Prop := ∃ L : Nat → Nat, (∀ a, a < 4 ^ n → M.1 89 a = zce (L a)) ∧ (∀ a, L a ≤ zINF) ∧ (∀ a, L a ≠ zINF → L a ≤ 1001 * d) ∧ ∀ x v, (L x ≤ v ∧ v < zINF) ↔ zZ n w B P 1 d x v
theorem zcg_go {N w0 d : Nat} {M : zq_M} {S : Nat → Nat → Nat} {P : Nat → Nat → Nat → Nat} {B : Nat → Nat → Nat → Bool} (hN : 1100 < N) (hS : zyB S) (hG : zyGM M S P B) (hP : ∀ p r m, P p r m ≤ 1001) (hd : d < 100) (hI : zcI (S 0 0) w0 B P M d) : ∃ M1, f_X11_goOnCheap N M = some M1 ∧ zcF M M1 ∧ zcI (S 0 0) w0 B P M1 (d + 1) := by
  have hn := hS.1
  have h4n := zs_p4 hn
  have h4p : 0 < 4 ^ S 0 0 := Nat.pow_pos (by omega)
  have hinf : zINF = 1073741824 := rfl
  obtain ⟨L, hV, hLl, hLb, hR⟩ := hI
  have hlt : ∀ x v, zZ (S 0 0) w0 B P 1 d x v → L x ≠ zINF := fun x v h => by
    have := (hR x v).mpr h
    omega
  unfold f_X11_goOnCheap
  refine zL (α := Int32 → zq_M → Option zq_M) (fun (M1 : zq_M) k g => g (zn k) M1) (fun k M1 => zf1 90 M M1 ∧ ∀ a, a < k → M1.1 90 a = -1) (fun o => ∃ M1, o = some M1 ∧ zcF M M1 ∧ zcI (S 0 0) w0 B P M1 (d + 1)) (4 ^ S 0 0) ?_ ?_ N 0 M (by omega) (by omega) ⟨zf1_r _ _, fun a ha => by omega⟩
  · intro g k M1 hk ⟨f1, f2⟩ ih
    unfold b_X11_goOnCheap_2
    rw [zy_plsM hS (by rw [f1.2 69 (by omega)]; exact hG.1.1)]
    simp only [Option.bind_some, zq_b]
    have q3 : (zn k : Int32) + 1 = zn (k + 1) := zn_add _ 1
    rw [if_neg (by rw [zn_le (by omega) (by omega)]; omega), zn_ck (by omega) (by omega), zn_ix (by omega), q3]
    refine ih _ ⟨zf1_u f1, fun a ha => ?_⟩
    rw [zq_g1]
    by_cases e : a = k
    · rw [if_pos ⟨rfl, e⟩]
    · rw [if_neg (fun h => e h.2)]; exact f2 a (by omega)
  · intro g0 M1 ⟨f1, f2⟩
    unfold b_X11_goOnCheap_2 k_X11_goOnCheap_23_8
    rw [zy_plsM hS (by rw [f1.2 69 (by omega)]; exact hG.1.1)]
    simp only [Option.bind_some]
    rw [if_pos (by rw [zn_le (by omega) (by omega)]; omega)]
    refine zL (α := Int32 → zq_M → Option zq_M) (fun (q : zq_M × (Nat → Nat)) k g => g (zn k) q.1) (fun k q => zf1 90 M q.1 ∧ (∀ x, x < 4 ^ S 0 0 → q.1.1 90 x = zce (q.2 x)) ∧ (∀ x, q.2 x ≤ zINF ∧ (q.2 x ≠ zINF → q.2 x ≤ 1001 * (d + 1))) ∧ zJ (S 0 0) (fun a p r => decide (L a ≠ zINF) && zp_may (S 0 0) B a p r) (fun a p r v => L a + P p r (zp_mn (S 0 0) a r + 1) ≤ v ∧ v < zINF) k 0 0 (fun x v => q.2 x ≤ v ∧ v < zINF)) (fun o => ∃ M1, o = some M1 ∧ zcF M M1 ∧ zcI (S 0 0) w0 B P M1 (d + 1)) (4 ^ S 0 0) ?_ ?_ N 0 (M1, fun _ => zINF) (by omega) (by omega) ⟨f1, fun x hx => f2 x hx, fun x => ⟨Nat.le_refl _, fun h => absurd rfl h⟩, zJ_0 (fun x v h => by have h1 : zINF ≤ v := h.1; have h2 := h.2; omega)⟩
    · rintro g1 k ⟨M2, V2⟩ hk ⟨e1, e2, e4, e3⟩ ih1
      dsimp only at e1 e2 e3 e4 ih1 ⊢
      unfold b_X11_goOnCheap_25
      rw [zy_plsM hS (by rw [e1.2 69 (by omega)]; exact hG.1.1)]
      simp only [Option.bind_some]
      rw [if_neg (by rw [zn_le (by omega) (by omega)]; omega)]
      refine zL (α := Int32 → zq_M → Option zq_M) (fun (q : zq_M × (Nat → Nat)) p g => g (zn p) q.1) (fun p q => zf1 90 M q.1 ∧ (∀ x, x < 4 ^ S 0 0 → q.1.1 90 x = zce (q.2 x)) ∧ (∀ x, q.2 x ≤ zINF ∧ (q.2 x ≠ zINF → q.2 x ≤ 1001 * (d + 1))) ∧ zJ (S 0 0) (fun a p r => decide (L a ≠ zINF) && zp_may (S 0 0) B a p r) (fun a p r v => L a + P p r (zp_mn (S 0 0) a r + 1) ≤ v ∧ v < zINF) k p 0 (fun x v => q.2 x ≤ v ∧ v < zINF)) (fun o => ∃ M1, o = some M1 ∧ zcF M M1 ∧ zcI (S 0 0) w0 B P M1 (d + 1)) (S 0 0) ?_ ?_ N 0 (M2, V2) (by omega) (by omega) ⟨e1, e2, e4, e3⟩
      · rintro g2 p ⟨M3, V3⟩ hp ⟨c1, c2, c4, c3⟩ ih2
        dsimp only at c1 c2 c3 c4 ih2 ⊢
        have hneg := zce_neg (hLl k)
        unfold b_X11_goOnCheap_35
        rw [c1.2 69 (by omega), hG.1.1, if_neg (by rw [zn_le (by omega) (by omega)]; omega), zn_ck (by omega) (by omega), zn_ix (by omega), c1.2 89 (by omega), hV k hk]
        simp only [hneg]
        by_cases hVk : L k = zINF
        · rw [if_pos hVk, zl_1, zn_add]
          refine ih1 (M3, V3) ⟨c1, c2, c4, ?_⟩
          intro x v
          rw [c3 x v]
          constructor
          · rintro ⟨a1, p1, r1, h1, h2, h3, h4⟩
            exact ⟨a1, p1, r1, h1, h2, by omega, h4⟩
          · rintro ⟨a1, p1, r1, h1, h2, h3, h4, h5⟩
            by_cases e : a1 = k
            · subst e
              simp [hVk] at h4
            · exact ⟨a1, p1, r1, h1, h2, by omega, h4, h5⟩
        · rw [if_neg hVk]
          have hLk : zce (L k) = zn (L k) := by unfold zce; rw [if_neg hVk]
          have hLkb := hLb k hVk
          refine zL (α := Int32 → zq_M → Option zq_M) (fun (q : zq_M × (Nat → Nat)) r g => g (zn r) q.1) (fun r q => zf1 90 M q.1 ∧ (∀ x, x < 4 ^ S 0 0 → q.1.1 90 x = zce (q.2 x)) ∧ (∀ x, q.2 x ≤ zINF ∧ (q.2 x ≠ zINF → q.2 x ≤ 1001 * (d + 1))) ∧ zJ (S 0 0) (fun a p r => decide (L a ≠ zINF) && zp_may (S 0 0) B a p r) (fun a p r v => L a + P p r (zp_mn (S 0 0) a r + 1) ≤ v ∧ v < zINF) k p r (fun x v => q.2 x ≤ v ∧ v < zINF)) (fun o => ∃ M1, o = some M1 ∧ zcF M M1 ∧ zcI (S 0 0) w0 B P M1 (d + 1)) 4 ?_ ?_ N 0 (M3, V3) (by omega) (by omega) ⟨c1, c2, c4, c3⟩
          · rintro g3 r ⟨M4, V4⟩ hr ⟨b1, b2, b4, b3⟩ ih3
            dsimp only at b1 b2 b3 b4 ih3 ⊢
            have G4 : zyGM M4 S P B := zyGM_fr (fun k hk => by rw [b1.2 69 (by omega)]) (fun c hc => b1.2 c (by omega)) hG
            have q3 : (zn r : Int32) + 1 = zn (r + 1) := zn_add _ 1
            unfold b_X11_goOnCheap_54
            rw [zl_4, if_neg (by rw [zn_le (by omega) (by omega)]; omega), zy_mcM (by omega) G4.1.1 hn G4.2.2.2 (by omega) hp hr, q3]
            simp only [Option.bind_some]
            cases hmay : zp_may (S 0 0) B k p r with
            | false =>
              rw [if_neg (by decide)]
              exact ih3 (M4, V4) ⟨b1, b2, b4, zJ_no b3 (by simp [hmay])⟩
            | true =>
              have hne : ¬ k / 4 ^ p % 4 = r := by
                intro h
                unfold zp_may at hmay
                rw [h] at hmay
                simp at hmay
              have hml := zp_mnl (n := S 0 0) hp hne
              rw [if_pos (by decide), zy_mvM N M4 (by omega) hr (by omega), zy_coM (by omega) G4.1.1 hn (by omega) hr]
              have hmv := zp_mlt hn hk hp hr
              have hPb := hP p r (zp_mn (S 0 0) k r + 1)
              have h85 := G4.2.2.1 p r (zp_mn (S 0 0) k r + 1) hp hr (by omega) (by omega)
              simp only [Option.bind_some, zq_b]
              repeat rw [zn_ck (by omega) (by omega)]
              rw [zn_ix (by omega), zn_ix (by omega), zn_ix (by omega), b1.2 89 (by omega), hV k hk, hLk, h85, zn_add, b2 _ hmv]
              generalize hca : L k + P p r (zp_mn (S 0 0) k r + 1) = ca at *
              obtain ⟨bv1, bv2⟩ := b4 (zp_mv k p r)
              have hneg2 := zce_neg bv1
              simp only [hneg2]
              unfold j_X11_goOnCheap_142
              rw [zn_ix (by omega), q3]
              repeat rw [zn_ck (by omega) (by omega)]
              simp only [zq_b]
              have upd : ∀ nv : Nat, nv ≤ 1001 * (d + 1) → (∀ v, v < zINF → (nv ≤ v ↔ V4 (zp_mv k p r) ≤ v ∨ ca ≤ v)) → ∃ M1, g3 (zn (r + 1)) (zq_u1 M4 90 (zp_mv k p r) (zn nv)) = some M1 ∧ zcF M M1 ∧ zcI (S 0 0) w0 B P M1 (d + 1) := by
                intro nv hnv hiff
                refine ih3 (_, fun x => if x = zp_mv k p r then nv else V4 x) ⟨zf1_u b1, fun x hx => ?_, fun x => ?_, zJ_yes b3 hp hr (by simp [hmay, hVk]) (fun x v => ?_)⟩
                · show (zq_u1 M4 90 (zp_mv k p r) (zn nv)).1 90 x = zce (if x = zp_mv k p r then nv else V4 x)
                  rw [zq_g1]
                  by_cases e : x = zp_mv k p r
                  · rw [if_pos ⟨rfl, e⟩, if_pos e]; unfold zce; rw [if_neg (by omega)]
                  · rw [if_neg (fun h => e h.2), if_neg e]; exact b2 x hx
                · dsimp only
                  by_cases e : x = zp_mv k p r
                  · rw [if_pos e]; omega
                  · rw [if_neg e]; exact b4 x
                · dsimp only
                  rw [hca]
                  by_cases e : x = zp_mv k p r
                  · subst e
                    rw [if_pos rfl]
                    constructor
                    · rintro ⟨h1, h2⟩
                      rcases (hiff v h2).mp h1 with h | h
                      · exact Or.inl ⟨h, h2⟩
                      · exact Or.inr ⟨rfl, h, h2⟩
                    · rintro (⟨h1, h2⟩ | ⟨h1, h2, h3⟩)
                      · exact ⟨(hiff v h2).mpr (Or.inl h1), h2⟩
                      · exact ⟨(hiff v h3).mpr (Or.inr h2), h3⟩
                  · rw [if_neg e]
                    constructor
                    · intro h; exact Or.inl h
                    · rintro (h | ⟨h1, h2⟩)
                      · exact h
                      · exact absurd h1.symm e
              by_cases cv : V4 (zp_mv k p r) = zINF
              · rw [if_pos cv]
                exact upd ca (by omega) (fun v hv => by omega)
              · rw [if_neg cv]
                have hzc : zce (V4 (zp_mv k p r)) = zn (V4 (zp_mv k p r)) := by unfold zce; rw [if_neg cv]
                have g6 : (zn (V4 (zp_mv k p r)) ≤ zn ca) = (V4 (zp_mv k p r) ≤ ca) := zn_le (by omega) (by omega)
                rw [hzc]
                simp only [g6]
                by_cases cc : V4 (zp_mv k p r) ≤ ca
                · rw [if_pos cc]
                  exact upd _ (bv2 cv) (fun v hv => by omega)
                · rw [if_neg cc]
                  exact upd ca (by omega) (fun v hv => by omega)
          · rintro g3 ⟨M4, V4⟩ ⟨b1, b2, b4, b3⟩
            dsimp only at b1 b2 b3 b4 ⊢
            unfold b_X11_goOnCheap_54
            rw [zl_4, if_pos (by rw [zn_le (by omega) (by omega)]; omega), zl_1, zn_add]
            exact ih2 (M4, V4) ⟨b1, b2, b4, zJ_p b3⟩
      · rintro g2 ⟨M3, V3⟩ ⟨c1, c2, c4, c3⟩
        dsimp only at c1 c2 c3 c4 ⊢
        unfold b_X11_goOnCheap_35
        rw [c1.2 69 (by omega), hG.1.1, if_pos (by rw [zn_le (by omega) (by omega)]; omega), zl_1, zn_add]
        exact ih1 (M3, V3) ⟨c1, c2, c4, zJ_a c3⟩
    · rintro g1 ⟨M2, V2⟩ ⟨e1, e2, e4, e3⟩
      dsimp only at e1 e2 e3 e4 ⊢
      unfold b_X11_goOnCheap_25 k_X11_goOnCheap_161_4
      rw [zy_plsM hS (by rw [e1.2 69 (by omega)]; exact hG.1.1)]
      simp only [Option.bind_some]
      rw [if_pos (by rw [zn_le (by omega) (by omega)]; omega)]
      refine zL (α := Int32 → zq_M → Option zq_M) (fun (M1 : zq_M) k g => g (zn k) M1) (fun k M1 => zf1 89 M2 M1 ∧ ∀ a, a < k → M1.1 89 a = zce (V2 a)) (fun o => ∃ M1, o = some M1 ∧ zcF M M1 ∧ zcI (S 0 0) w0 B P M1 (d + 1)) (4 ^ S 0 0) ?_ ?_ N 0 M2 (by omega) (by omega) ⟨zf1_r _ _, fun a ha => by omega⟩
      · intro g k M3 hk ⟨c1, c2⟩ ih
        have q3 : (zn k : Int32) + 1 = zn (k + 1) := zn_add _ 1
        unfold b_X11_goOnCheap_163
        rw [zy_plsM hS (by rw [c1.2 69 (by omega), e1.2 69 (by omega)]; exact hG.1.1)]
        simp only [Option.bind_some, zq_b]
        rw [if_neg (by rw [zn_le (by omega) (by omega)]; omega), zn_ck (by omega) (by omega), zn_ck (by omega) (by omega), zn_ix (by omega), c1.2 90 (by omega), e2 k hk, q3]
        refine ih _ ⟨zf1_u c1, fun a ha => ?_⟩
        rw [zq_g1]
        by_cases e : a = k
        · rw [if_pos ⟨rfl, e⟩, e]
        · rw [if_neg (fun h => e h.2)]; exact c2 a (by omega)
      · intro g M3 ⟨c1, c2⟩
        unfold b_X11_goOnCheap_163
        rw [zy_plsM hS (by rw [c1.2 69 (by omega), e1.2 69 (by omega)]; exact hG.1.1)]
        simp only [Option.bind_some]
        rw [if_pos (by rw [zn_le (by omega) (by omega)]; omega)]
        refine ⟨M3, rfl, ⟨c1.1.trans e1.1, fun c hc => (c1.2 c (by omega)).trans (e1.2 c (by omega))⟩, V2, c2, fun a => (e4 a).1, fun a => (e4 a).2, fun x v => ?_⟩
        have e3' := e3 x v
        dsimp only at e3'
        rw [e3']
        have hzi : ∀ u a p r, zinc P (S 0 0) 1 d u a p r = u + P p r (zp_mn (S 0 0) a r + 1) := fun u a p r => rfl
        constructor
        · rintro ⟨a, p, r, h1, h2, h3, h4, h5, h6, h7⟩
          simp only [Bool.and_eq_true, decide_eq_true_eq] at h4
          have hla := hLl a
          exact ⟨h7, a, p, r, L a, by omega, h1, h2, (hR a (L a)).mp ⟨Nat.le_refl _, by omega⟩, h4.2, h5, h6⟩
        · rintro ⟨h0, a, p, r, u, h1, h2, h3, h4, h5, h6, h7⟩
          have hu := (hR a u).mpr h4
          rw [hzi] at h7
          refine ⟨a, p, r, h2, h3, by omega, ?_, h6, by omega, h0⟩
          simp only [Bool.and_eq_true, decide_eq_true_eq]
          exact ⟨by omega, h5⟩
