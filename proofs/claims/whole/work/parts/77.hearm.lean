def zkF (M M1 : zq_M) : Prop := M1.2 = M.2 ∧ ∀ c, c ≠ 91 ∧ c ≠ 92 → M1.1 c = M.1 c
theorem zkF_t {X Y Z : zq_M} (h : zkF X Y) (g : zkF Y Z) : zkF X Z := ⟨g.1.trans h.1, fun c hc => (g.2 c hc).trans (h.2 c hc)⟩
theorem zkF_1 {c0 : Nat} {X Y : zq_M} (hc : c0 = 91 ∨ c0 = 92) (h : zf1 c0 X Y) : zkF X Y := ⟨h.1, fun c h1 => h.2 c (by omega)⟩
theorem zyGM_k {M M1 : zq_M} {S : Nat → Nat → Nat} {P : Nat → Nat → Nat → Nat} {B : Nat → Nat → Nat → Bool} (f : zkF M M1) (hG : zyGM M S P B) : zyGM M1 S P B := zyGM_fr (fun k hk => by rw [f.2 69 (by omega)]) (fun c hc => f.2 c (by omega)) hG
theorem zfm_k {M M1 : zq_M} (f : zkF M M1) : zfm M M1 := ⟨fun k hk => by rw [f.2 69 (by omega)], fun c hc => f.2 c (by omega), by rw [f.1]⟩
def zkI (S : Nat → Nat → Nat) (B : Nat → Nat → Nat → Bool) (s0 : Nat) (M : zq_M) (d : Nat) : Prop := ∃ V : Nat → Bool, (∀ k, k < 32 * 4 ^ S 0 0 → M.1 91 k = if V k = true then 1 else 0) ∧ ∀ k, k < 32 * 4 ^ S 0 0 → (V k = true ↔ zK S B s0 d (k / 32) (k % 32))
theorem zk_go {N d s0 : Nat} {M : zq_M} {S : Nat → Nat → Nat} {P : Nat → Nat → Nat → Nat} {B : Nat → Nat → Nat → Bool} (hN : 40000 < N) (hS : zyB S) (hG : zyGM M S P B) (hd : d < 100) (hI : zkI S B s0 M d) : ∃ M1, f_X11_goOnKnown N M (zn (S 0 1 + (d + 1))) = some M1 ∧ zkF M M1 ∧ zkI S B s0 M1 (d + 1) := by
  have hn := hS.1
  have hb1 := hS.2.1
  have h32 := zs_p2 hn
  have h4n := zs_p4 hn
  have h4p : 0 < 4 ^ S 0 0 := Nat.pow_pos (by omega)
  have q32 : (32 : Int32) = zn 32 := rfl
  obtain ⟨V, hV, hR⟩ := hI
  unfold f_X11_goOnKnown
  refine zL (α := Int32 → zq_M → Option zq_M) (fun (M1 : zq_M) k g => g (zn k) M1) (fun k M1 => zf1 92 M M1 ∧ ∀ a, a < k → M1.1 92 a = 0) (fun o => ∃ M1, o = some M1 ∧ zkF M M1 ∧ zkI S B s0 M1 (d + 1)) (32 * 4 ^ S 0 0) ?_ ?_ N 0 M (by omega) (by omega) ⟨zf1_r _ _, fun a ha => by omega⟩
  · intro g k M1 hk ⟨f1, f2⟩ ih
    unfold b_X11_goOnKnown_2
    rw [zy_plsM hS (by rw [f1.2 69 (by omega)]; exact hG.1.1)]
    simp only [Option.bind_some, zq_b, zt_nar0]
    rw [q32, zn_mul, if_neg (by rw [zn_le (by omega) (by omega)]; omega), zn_ck (by omega) (by omega), zn_ix (by omega), zl_1, zn_add]
    refine ih _ ⟨zf1_u f1, fun a ha => ?_⟩
    rw [zq_g1]
    by_cases e : a = k
    · rw [if_pos ⟨rfl, e⟩]
    · rw [if_neg (fun h => e h.2)]; exact f2 a (by omega)
  · intro g0 M1 ⟨f1, f2⟩
    unfold b_X11_goOnKnown_2 k_X11_goOnKnown_26_7
    rw [zy_plsM hS (by rw [f1.2 69 (by omega)]; exact hG.1.1)]
    simp only [Option.bind_some]
    rw [q32, zn_mul, if_pos (by rw [zn_le (by omega) (by omega)]; omega)]
    refine zL (α := Int32 → zq_M → Option zq_M) (fun (q : zq_M × (Nat → Bool)) k g => g (zn k) q.1) (fun k q => zf1 92 M q.1 ∧ (∀ x, x < 32 * 4 ^ S 0 0 → q.1.1 92 x = if q.2 x = true then 1 else 0) ∧ zH (fun k p r => 32 * zp_mv (k / 32) p r + zspr S (zp_mv (k / 32) p r) (k % 32) (S 0 1 + (d + 1))) (S 0 0) (fun a p r => V a && zp_may (S 0 0) B (a / 32) p r) (fun a p r v => True) k 0 0 (fun x v => q.2 x = true)) (fun o => ∃ M1, o = some M1 ∧ zkF M M1 ∧ zkI S B s0 M1 (d + 1)) (32 * 4 ^ S 0 0) ?_ ?_ N 0 (M1, fun _ => false) (by omega) (by omega) ⟨f1, fun x hx => by rw [if_neg (by simp)]; exact f2 x hx, zH_0 (fun x v h => by cases h)⟩
    · rintro g1 k ⟨M2, V2⟩ hk ⟨e1, e2, e3⟩ ih1
      dsimp only at e1 e2 e3 ih1 ⊢
      unfold b_X11_goOnKnown_28
      rw [zy_plsM hS (by rw [e1.2 69 (by omega)]; exact hG.1.1)]
      simp only [Option.bind_some]
      have q3 : (zn k : Int32) + 1 = zn (k + 1) := zn_add _ 1
      rw [q32, zn_mul, if_neg (by rw [zn_le (by omega) (by omega)]; omega), zn_ck (by omega) (by omega), zn_ix (by omega), e1.2 91 (by omega), hV k hk, q3]
      cases hVk : V k with
      | false =>
        rw [if_neg (by decide)]
        exact ih1 (M2, V2) ⟨e1, e2, zH_skip (fun p r => by simp [hVk]) e3⟩
      | true =>
        rw [if_pos (by decide)]
        have hzk := (hR k hk).mp hVk
        have hks := zK_l hzk
        have hka : k / 32 < 4 ^ S 0 0 := by omega
        refine zL (α := Int32 → zq_M → Option zq_M) (fun (q : zq_M × (Nat → Bool)) p g => g (zn p) q.1) (fun p q => zf1 92 M q.1 ∧ (∀ x, x < 32 * 4 ^ S 0 0 → q.1.1 92 x = if q.2 x = true then 1 else 0) ∧ zH (fun k p r => 32 * zp_mv (k / 32) p r + zspr S (zp_mv (k / 32) p r) (k % 32) (S 0 1 + (d + 1))) (S 0 0) (fun a p r => V a && zp_may (S 0 0) B (a / 32) p r) (fun a p r v => True) k p 0 (fun x v => q.2 x = true)) (fun o => ∃ M1, o = some M1 ∧ zkF M M1 ∧ zkI S B s0 M1 (d + 1)) (S 0 0) ?_ ?_ N 0 (M2, V2) (by omega) (by omega) ⟨e1, e2, e3⟩
        · rintro g2 p ⟨M3, V3⟩ hp ⟨c1, c2, c3⟩ ih2
          dsimp only at c1 c2 c3 ih2 ⊢
          unfold b_X11_goOnKnown_53
          rw [c1.2 69 (by omega), hG.1.1, if_neg (by rw [zn_le (by omega) (by omega)]; omega)]
          refine zL (α := Int32 → zq_M → Option zq_M) (fun (q : zq_M × (Nat → Bool)) r g => g (zn r) q.1) (fun r q => zf1 92 M q.1 ∧ (∀ x, x < 32 * 4 ^ S 0 0 → q.1.1 92 x = if q.2 x = true then 1 else 0) ∧ zH (fun k p r => 32 * zp_mv (k / 32) p r + zspr S (zp_mv (k / 32) p r) (k % 32) (S 0 1 + (d + 1))) (S 0 0) (fun a p r => V a && zp_may (S 0 0) B (a / 32) p r) (fun a p r v => True) k p r (fun x v => q.2 x = true)) (fun o => ∃ M1, o = some M1 ∧ zkF M M1 ∧ zkI S B s0 M1 (d + 1)) 4 ?_ ?_ N 0 (M3, V3) (by omega) (by omega) ⟨c1, c2, c3⟩
          · rintro g3 r ⟨M4, V4⟩ hr ⟨b1, b2, b3⟩ ih3
            dsimp only at b1 b2 b3 ih3 ⊢
            have G4 : zyGM M4 S P B := zyGM_fr (fun k hk => by rw [b1.2 69 (by omega)]) (fun c hc => b1.2 c (by omega)) hG
            have q4 : (zn r : Int32) + 1 = zn (r + 1) := zn_add _ 1
            unfold b_X11_goOnKnown_64
            rw [zl_4, if_neg (by rw [zn_le (by omega) (by omega)]; omega), q32, zn_div (by omega) (by omega), zn_irem (by omega) (by omega), zy_mcM (by omega) G4.1.1 hn G4.2.2.2 (by omega) hp hr, q4]
            simp only [Option.bind_some]
            cases hmay : zp_may (S 0 0) B (k / 32) p r with
            | false =>
              rw [if_neg (by decide)]
              exact ih3 (M4, V4) ⟨b1, b2, zH_no b3 (by simp [hmay])⟩
            | true =>
              rw [if_pos (by decide), zy_mvM N M4 (by omega) hr (by omega)]
              have hmv := zp_mlt hn hka hp hr
              simp only [Option.bind_some, zq_b, zt_nar1]
              rw [zr_spread (N := N) (by omega) hS G4 (by omega) hks (by omega)]
              have hsl := zspr_l S (zp_mv (k / 32) p r) (k % 32) (S 0 1 + (d + 1))
              simp only [Option.bind_some]
              rw [zn_mul, zn_add, zn_ck (by omega) (by omega), zn_ix (by omega)]
              refine ih3 (_, fun x => if x = 32 * zp_mv (k / 32) p r + zspr S (zp_mv (k / 32) p r) (k % 32) (S 0 1 + (d + 1)) then true else V4 x) ⟨zf1_u b1, fun x hx => ?_, zH_yes b3 hp hr (by simp [hmay, hVk]) (fun x v => ?_)⟩
              · show (zq_u1 M4 92 (32 * zp_mv (k / 32) p r + zspr S (zp_mv (k / 32) p r) (k % 32) (S 0 1 + (d + 1))) 1).1 92 x = if (if x = 32 * zp_mv (k / 32) p r + zspr S (zp_mv (k / 32) p r) (k % 32) (S 0 1 + (d + 1)) then true else V4 x) = true then 1 else 0
                rw [zq_g1]
                by_cases e : x = 32 * zp_mv (k / 32) p r + zspr S (zp_mv (k / 32) p r) (k % 32) (S 0 1 + (d + 1))
                · rw [if_pos ⟨rfl, e⟩, if_pos e]; rfl
                · rw [if_neg (fun h => e h.2), if_neg e]; exact b2 x hx
              · dsimp only
                by_cases e : x = 32 * zp_mv (k / 32) p r + zspr S (zp_mv (k / 32) p r) (k % 32) (S 0 1 + (d + 1))
                · rw [if_pos e]; simp [e]
                · rw [if_neg e]
                  constructor
                  · intro h; exact Or.inl h
                  · rintro (h | ⟨h, -⟩)
                    · exact h
                    · exact absurd h.symm e
          · rintro g3 ⟨M4, V4⟩ ⟨b1, b2, b3⟩
            dsimp only at b1 b2 b3 ⊢
            unfold b_X11_goOnKnown_64
            rw [zl_4, if_pos (by rw [zn_le (by omega) (by omega)]; omega), zl_1, zn_add]
            exact ih2 (M4, V4) ⟨b1, b2, zH_p b3⟩
        · rintro g2 ⟨M3, V3⟩ ⟨c1, c2, c3⟩
          dsimp only at c1 c2 c3 ⊢
          unfold b_X11_goOnKnown_53
          rw [c1.2 69 (by omega), hG.1.1, if_pos (by rw [zn_le (by omega) (by omega)]; omega), zl_1, zn_add]
          exact ih1 (M3, V3) ⟨c1, c2, zH_a c3⟩
    · rintro g1 ⟨M2, V2⟩ ⟨e1, e2, e3⟩
      dsimp only at e1 e2 e3 ⊢
      unfold b_X11_goOnKnown_28 k_X11_goOnKnown_141_4
      rw [zy_plsM hS (by rw [e1.2 69 (by omega)]; exact hG.1.1)]
      simp only [Option.bind_some]
      rw [q32, zn_mul, if_pos (by rw [zn_le (by omega) (by omega)]; omega)]
      have F2 : zkF M M2 := ⟨e1.1, fun c hc => e1.2 c (by omega)⟩
      refine zL (α := Int32 → zq_M → Option zq_M) (fun (M1 : zq_M) k g => g (zn k) M1) (fun k M1 => zf1 91 M2 M1 ∧ ∀ a, a < k → M1.1 91 a = if V2 a = true then 1 else 0) (fun o => ∃ M1, o = some M1 ∧ zkF M M1 ∧ zkI S B s0 M1 (d + 1)) (32 * 4 ^ S 0 0) ?_ ?_ N 0 M2 (by omega) (by omega) ⟨zf1_r _ _, fun a ha => by omega⟩
      · intro g k M3 hk ⟨c1, c2⟩ ih
        unfold b_X11_goOnKnown_143
        rw [zy_plsM hS (by rw [c1.2 69 (by omega), e1.2 69 (by omega)]; exact hG.1.1)]
        simp only [Option.bind_some, zq_b]
        rw [q32, zn_mul, if_neg (by rw [zn_le (by omega) (by omega)]; omega), zn_ck (by omega) (by omega), zn_ck (by omega) (by omega), zn_ix (by omega), c1.2 92 (by omega), e2 k hk, zt_nar, zl_1, zn_add]
        refine ih _ ⟨zf1_u c1, fun a ha => ?_⟩
        rw [zq_g1]
        by_cases e : a = k
        · rw [if_pos ⟨rfl, e⟩, e]; rfl
        · rw [if_neg (fun h => e h.2)]; exact c2 a (by omega)
      · intro g M3 ⟨c1, c2⟩
        unfold b_X11_goOnKnown_143
        rw [zy_plsM hS (by rw [c1.2 69 (by omega), e1.2 69 (by omega)]; exact hG.1.1)]
        simp only [Option.bind_some]
        rw [q32, zn_mul, if_pos (by rw [zn_le (by omega) (by omega)]; omega)]
        refine ⟨M3, rfl, zkF_t F2 (zkF_1 (by omega) c1), V2, c2, fun x hx => ?_⟩
        have e3' := e3 x 0
        dsimp only at e3'
        rw [e3']
        constructor
        · rintro ⟨k1, p1, r1, h1, h2, h3, h4, h5, -⟩
          simp only [Bool.and_eq_true] at h4
          have hk1 := (hR k1 (by omega)).mp h4.1
          have hsl := zspr_l S (zp_mv (k1 / 32) p1 r1) (k1 % 32) (S 0 1 + (d + 1))
          refine ⟨k1 / 32, p1, r1, k1 % 32, by omega, h1, h2, hk1, h4.2, by omega, ?_⟩
          have hx1 : x / 32 = zp_mv (k1 / 32) p1 r1 := by omega
          rw [hx1]; omega
        · rintro ⟨a1, p1, r1, s1, h1, h2, h3, h4, h5, h6, h7⟩
          have hs1 := zK_l h4
          refine ⟨32 * a1 + s1, p1, r1, h2, h3, by omega, ?_, ?_, trivial⟩
          · simp only [Bool.and_eq_true]
            rw [show (32 * a1 + s1) / 32 = a1 by omega]
            refine ⟨(hR _ (by omega)).mpr ?_, h5⟩
            rw [show (32 * a1 + s1) / 32 = a1 by omega, show (32 * a1 + s1) % 32 = s1 by omega]
            exact h4
          · rw [show (32 * a1 + s1) / 32 = a1 by omega, show (32 * a1 + s1) % 32 = s1 by omega, h6, ← h7]
            omega
theorem zs_bm {k p : Nat} (hp : p < 5) : zs_bit k p = zs_bit (k % 32) p := by
  rw [zs_bt, zs_bt, show (32 : Nat) = 2 ^ 5 from rfl, Nat.testBit_mod_two_pow, decide_eq_true hp, Bool.true_and]
def zwtc (S : Nat → Nat → Nat) (a2 a3 : Int32) (wt : Nat → Bool) : Prop := (a2 = -1 ∧ ∀ s, wt s = (s == 2 ^ S 0 0 - 1)) ∨ ∃ o1 o2, o1 < S 0 0 ∧ o2 < S 0 0 ∧ a2 = zn o1 ∧ a3 = zn o2 ∧ ∀ s, wt s = (zs_bit s o1 && !(zs_bit s o2))
theorem zk_main {N s0 : Nat} {M : zq_M} {S : Nat → Nat → Nat} {P : Nat → Nat → Nat → Nat} {B : Nat → Nat → Nat → Bool} {wt : Nat → Bool} {a2 a3 : Int32} (hN : 40000 < N) (hS : zyB S) (hG : zyGM M S P B) (hw : zwtc S a2 a3 wt) (hI : zkI S B s0 M 0) : ∃ M1 res, zq_loop (fun _ _ => none) (b_X11_fewestBy_113 N a2 a3) N (0 : Int32) M = some (res, M1) ∧ zkF M M1 ∧ zhres S B s0 wt res := by
  have hn := hS.1
  have hb1 := hS.2.1
  have h32 := zs_p2 hn
  have h4n := zs_p4 hn
  have h4p : 0 < 4 ^ S 0 0 := Nat.pow_pos (by omega)
  have q32 : (32 : Int32) = zn 32 := rfl
  have q7 : (7 : Int32) = zn 7 := rfl
  refine zL (α := Int32 → zq_M → Option (Int32 × zq_M)) (fun (M1 : zq_M) d g => g (zn d) M1) (fun d M1 => zkF M M1 ∧ (d < 7 → zkI S B s0 M1 d) ∧ ∀ e, e < d → ¬ zhk S B s0 wt e) (fun o => ∃ M1 res, o = some (res, M1) ∧ zkF M M1 ∧ zhres S B s0 wt res) 7 ?_ ?_ N 0 M (by omega) (by omega) ⟨⟨rfl, fun _ _ => rfl⟩, fun _ => hI, fun e he => by omega⟩
  · intro g d M1 hd ⟨f1, f2, f3⟩ ih
    have G1 := zyGM_k f1 hG
    have I1 := f2 hd
    obtain ⟨V, hV, hR⟩ := f2 hd
    unfold b_X11_fewestBy_113
    rw [q7, if_neg (by rw [zn_le (by omega) (by omega)]; omega)]
    refine zL (α := Int32 → Option (Int32 × zq_M)) (fun (_ : Unit) k g => g (zn k)) (fun k _ => zs_any (fun k => V k && wt (k % 32)) k = false) (fun o => ∃ M1 res, o = some (res, M1) ∧ zkF M M1 ∧ zhres S B s0 wt res) (32 * 4 ^ S 0 0) ?_ ?_ N 0 () (by omega) (by omega) rfl
    · intro g2 k _ hk hW ih2
      have ih2 := ih2 ()
      have q3 : (zn k : Int32) + 1 = zn (k + 1) := zn_add _ 1
      unfold b_X11_fewestBy_123
      rw [zy_plsM hS G1.1.1]
      simp only [Option.bind_some]
      rw [q32, zn_mul, if_neg (by rw [zn_le (by omega) (by omega)]; omega), zn_ck (by omega) (by omega), zn_ix (by omega), hV k hk, q3]
      cases hVk : V k with
      | false =>
        rw [if_pos (by rfl)]
        exact ih2 (zs_any_f hW (by simp [hVk]))
      | true =>
        rw [if_neg (by decide)]
        have hzk := (hR k hk).mp hVk
        have yes : wt (k % 32) = true → ∃ M1_1 res, some (zn d, M1) = some (res, M1_1) ∧ zkF M M1_1 ∧ zhres S B s0 wt res := fun h => ⟨M1, _, rfl, f1, Or.inl ⟨d, by omega, f3, ⟨k / 32, k % 32, by omega, hzk, h⟩, rfl⟩⟩
        have no : wt (k % 32) = false → ∃ M1 res, g2 (zn (k + 1)) = some (res, M1) ∧ zkF M M1 ∧ zhres S B s0 wt res := fun h => ih2 (zs_any_f hW (by simp [h]))
        rcases hw with ⟨w1, w2⟩ | ⟨o1, o2, w1, w2, w3, w4, w5⟩
        · rw [w1, if_neg (by decide), zn_irem (by omega) (by omega), G1.1.1, zl_1, zn_shl (by omega), Nat.one_mul, zn_sub (Nat.pow_pos (by omega))]
          have g1 : (zn (k % 32) = zn (2 ^ S 0 0 - 1)) = (k % 32 = 2 ^ S 0 0 - 1) := zn_eq (by omega) (by omega)
          simp only [g1]
          by_cases c : k % 32 = 2 ^ S 0 0 - 1
          · rw [if_neg (fun h => h c)]; exact yes (by rw [w2]; simpa using c)
          · rw [if_pos c]; exact no (by rw [w2]; simpa using c)
        · rw [w3, w4, if_pos (by rw [zl_0, zn_le (by omega) (by omega)]; omega), zy_hasM N M1 (by omega) (by omega), zy_hasM N M1 (by omega) (by omega)]
          simp only [Option.bind_some]
          rw [zs_bm (k := k) (p := o1) (by omega), zs_bm (k := k) (p := o2) (by omega)]
          have hwk := w5 (k % 32)
          cases c1 : zs_bit (k % 32) o1 with
          | false =>
            rw [if_pos (by rfl)]
            exact no (by rw [hwk, c1]; rfl)
          | true =>
            rw [if_neg (by decide)]
            cases c2 : zs_bit (k % 32) o2 with
            | true =>
              rw [if_pos (by decide)]
              exact no (by rw [hwk, c1, c2]; rfl)
            | false =>
              rw [if_neg (by decide)]
              exact yes (by rw [hwk, c1, c2]; rfl)
    · intro g2 _ hW
      have hno : ¬ zhk S B s0 wt d := by
        rintro ⟨a, s, h1, h2, h3⟩
        have hs := zK_l h2
        have : zs_any (fun k => V k && wt (k % 32)) (32 * 4 ^ S 0 0) = true := by
          refine zs_any_iff.mpr ⟨32 * a + s, by omega, ?_⟩
          simp only [Bool.and_eq_true]
          rw [show (32 * a + s) % 32 = s by omega]
          refine ⟨(hR _ (by omega)).mpr ?_, h3⟩
          rw [show (32 * a + s) / 32 = a by omega, show (32 * a + s) % 32 = s by omega]
          exact h2
        rw [hW] at this; cases this
      have hno' : ∀ e, e < d + 1 → ¬ zhk S B s0 wt e := by
        intro e he
        by_cases e2 : e = d
        · subst e2; exact hno
        · exact f3 e (by omega)
      have q3 : (zn d : Int32) + 1 = zn (d + 1) := zn_add _ 1
      have q6 : (6 : Int32) = zn 6 := rfl
      unfold b_X11_fewestBy_123 k_X11_fewestBy_197_5
      rw [zy_plsM hS G1.1.1]
      simp only [Option.bind_some]
      rw [q32, zn_mul, if_pos (by rw [zn_le (by omega) (by omega)]; omega), q6, q3]
      have g1 : (zn 6 ≤ zn d) = (6 ≤ d) := zn_le (by omega) (by omega)
      simp only [g1]
      by_cases c : 6 ≤ d
      · rw [if_pos c]
        exact ih M1 ⟨f1, fun h => by omega, hno'⟩
      · rw [if_neg c, G1.1.2.2.1, zn_add, zl_1, zn_add, show S 0 1 + d + 1 = S 0 1 + (d + 1) by omega]
        obtain ⟨M2, z1, z2, z3⟩ := zk_go hN hS G1 (by omega) I1
        rw [z1]
        simp only [Option.bind_some]
        exact ih M2 ⟨zkF_t f1 z2, fun _ => z3, hno'⟩
  · intro g M1 ⟨f1, f2, f3⟩
    unfold b_X11_fewestBy_113
    rw [q7, if_pos (by rw [zn_le (by omega) (by omega)]; omega)]
    exact ⟨M1, _, rfl, f1, Or.inr ⟨fun d hd => f3 d (by omega), rfl⟩⟩
theorem zk_by {N t : Nat} {M M0 : zq_M} {S : Nat → Nat → Nat} {P : Nat → Nat → Nat → Nat} {B : Nat → Nat → Nat → Bool} {wt : Nat → Bool} {a2 a3 : Int32} (hN : 40000 < N) (hS : zyB S) (hl : f_X11_layComings N M = some M0) (hG : zyGM M0 S P B) (ht : t < 8) (hw : zwtc S a2 a3 wt) : ∃ M1 res, f_X11_fewestBy N M (zn t) a2 a3 = some (res, M1) ∧ zkF M0 M1 ∧ zhres S B (zs_set (fun p => zs_bit (S 4 p) t) (S 0 0)) wt res := by
  have hn := hS.1
  have hb1 := hS.2.1
  have h32 := zs_p2 hn
  have h4n := zs_p4 hn
  have h4p : 0 < 4 ^ S 0 0 := Nat.pow_pos (by omega)
  have q32 : (32 : Int32) = zn 32 := rfl
  have hwl := zy_wln hS
  unfold f_X11_fewestBy
  rw [hl]
  simp only [Option.bind_some]
  refine zL (α := Int32 → Int32 → Option (Int32 × zq_M)) (fun (_ : Unit) k g => g (zn (zs_set (fun p => zs_bit (S 4 p) t) k)) (zn k)) (fun _ _ => True) (fun o => ∃ M1 res, o = some (res, M1) ∧ zkF M0 M1 ∧ zhres S B (zs_set (fun p => zs_bit (S 4 p) t) (S 0 0)) wt res) (S 0 0) ?_ ?_ N 0 () (by omega) (by omega) trivial
  · intro g k _ hk _ ih
    have ih := ih () trivial
    have hkl := hS.2.2.2.2.2.2.1 k (by omega)
    unfold b_X11_fewestBy_10
    rw [hG.1.1, if_neg (by rw [zn_le (by omega) (by omega)]; omega), zn_ck (by omega) (by omega), zn_ix (by omega), hG.1.2.2.2.2.2.1 k (by omega), zy_hasM N M0 (by omega) (by omega)]
    simp only [Option.bind_some]
    by_cases c : zs_bit (S 4 k) t = true
    · rw [zs_st (p := fun p => zs_bit (S 4 p) t) (n := k) c] at ih
      rw [c, if_neg (by decide)]
      simp (disch := omega) only [zl_0, zl_1, zl_2, zl_3, zl_4, zl_5, zl_6, zn_ck, zn_ix, zn_add, zn_sub, zn_mul, zn_le, zn_lt, zn_eq, zn_plc1, zn_shl, zn_or, zn_bitc, Option.bind_some, zq_p, zq_b, Nat.one_mul, Nat.zero_add, Nat.add_zero, zs_or]
      exact ih
    · rw [zs_sf (p := fun p => zs_bit (S 4 p) t) (n := k) c] at ih
      simp only [Bool.not_eq_true] at c
      rw [c, if_pos (by rfl)]
      simp (disch := omega) only [zl_0, zl_1, zl_2, zl_3, zl_4, zl_5, zl_6, zn_ck, zn_ix, zn_add, zn_sub, zn_mul, zn_le, zn_lt, zn_eq, zn_plc1, zn_shl, zn_or, zn_bitc, Option.bind_some, zq_p, zq_b, Nat.one_mul, Nat.zero_add, Nat.add_zero, Nat.or_zero]
      exact ih
  · intro g _ _
    have hsl := zs_lt (fun p => zs_bit (S 4 p) t) (S 0 0)
    unfold b_X11_fewestBy_10 k_X11_fewestBy_53_7
    rw [hG.1.1, if_pos (by rw [zn_le (by omega) (by omega)]; omega)]
    generalize zs_set (fun p => zs_bit (S 4 p) t) (S 0 0) = s0 at *
    refine zL (α := Int32 → zq_M → Option (Int32 × zq_M)) (fun (M1 : zq_M) k g => g (zn k) M1) (fun k M1 => zf1 91 M0 M1 ∧ ∀ a, a < k → M1.1 91 a = 0) (fun o => ∃ M1 res, o = some (res, M1) ∧ zkF M0 M1 ∧ zhres S B s0 wt res) (32 * 4 ^ S 0 0) ?_ ?_ N 0 M0 (by omega) (by omega) ⟨zf1_r _ _, fun a ha => by omega⟩
    · intro g k M1 hk ⟨f1, f2⟩ ih
      unfold b_X11_fewestBy_56
      rw [zy_plsM hS (by rw [f1.2 69 (by omega)]; exact hG.1.1)]
      simp only [Option.bind_some, zq_b, zt_nar0]
      rw [q32, zn_mul, if_neg (by rw [zn_le (by omega) (by omega)]; omega), zn_ck (by omega) (by omega), zn_ix (by omega), zl_1, zn_add]
      refine ih _ ⟨zf1_u f1, fun a ha => ?_⟩
      rw [zq_g1]
      by_cases e : a = k
      · rw [if_pos ⟨rfl, e⟩]
      · rw [if_neg (fun h => e h.2)]; exact f2 a (by omega)
    · intro g M1 ⟨f1, f2⟩
      have G1 := zyGM_k (zkF_1 (by omega) f1) hG
      have hsp := zspr_l S (zv_pk (S 3)) s0 (S 0 1)
      unfold b_X11_fewestBy_56 k_X11_fewestBy_82_6
      rw [zy_plsM hS G1.1.1]
      simp only [Option.bind_some]
      rw [q32, zn_mul, if_pos (by rw [zn_le (by omega) (by omega)]; omega), G1.1.2.1, G1.1.2.2.1, zr_spread (N := N) (by omega) hS G1 (by omega) hsl (by omega)]
      simp only [Option.bind_some, zq_b, zt_nar1]
      rw [zn_mul, zn_add, zn_ck (by omega) (by omega), zn_ix (by omega)]
      have F2 : zkF M0 (zq_u1 M1 91 (32 * zv_pk (S 3) + zspr S (zv_pk (S 3)) s0 (S 0 1)) 1) := ⟨f1.1, fun c hc => by rw [zq_un (by omega)]; exact f1.2 c (by omega)⟩
      have I2 : zkI S B s0 (zq_u1 M1 91 (32 * zv_pk (S 3) + zspr S (zv_pk (S 3)) s0 (S 0 1)) 1) 0 := by
        refine ⟨fun k => k == 32 * zv_pk (S 3) + zspr S (zv_pk (S 3)) s0 (S 0 1), fun k hk => ?_, fun k hk => ?_⟩
        · rw [zq_g1]
          by_cases e : k = 32 * zv_pk (S 3) + zspr S (zv_pk (S 3)) s0 (S 0 1)
          · rw [if_pos ⟨rfl, e⟩, if_pos (by simpa using e)]
          · rw [if_neg (fun h => e h.2), if_neg (by simpa using e)]; exact f2 k hk
        · show (k == _) = true ↔ (k / 32 = zv_pk (S 3) ∧ k % 32 = zspr S (k / 32) s0 (S 0 1))
          rw [beq_iff_eq]
          constructor
          · intro h
            have h1 : k / 32 = zv_pk (S 3) := by omega
            refine ⟨h1, ?_⟩
            rw [h1]; omega
          · rintro ⟨h1, h2⟩
            rw [h1] at h2
            omega
      obtain ⟨M2, res, w1, w2, w3⟩ := zk_main hN hS (zyGM_k F2 hG) hw I2
      exact ⟨M2, res, w1, zkF_t F2 w2, w3⟩
theorem zfx_e {X X1 : zq_M} (f : zeF X X1) : zfx X X1 := ⟨fun c hc => f.2 c (by omega), by rw [f.2 54 (by omega)], by rw [f.1], by rw [f.1], by rw [f.1]⟩
theorem zI_heard (N : Nat) (hN : 40000 < N) : zq_op_heard N zI := by
  intro q j X M a hq hI
  have hI1 := zI_idle q j X M hI
  obtain ⟨S, h, C, W, U, E, T, hA⟩ := zy_pic N hq hI
  obtain ⟨X0, x1, x2, x3⟩ := zy_lookX (by omega) hA
  obtain ⟨M0, m1, m2, m3⟩ := zy_lookM (by omega) hA
  obtain ⟨hS, hq1, hX, hM, a1, a2, a3, a4, a5, a6⟩ := hA
  have hn := hS.1
  have h32 := zs_p2 hn
  have h0p : 0 < 2 ^ S 0 0 := Nat.pow_pos (by omega)
  unfold f_X10_heard f_X11_heard
  rw [zw_xt, zw_mt, x1]
  simp only [Option.bind_some]
  have d4 : ¬ ((1 : Int32) = 0) := by decide
  by_cases c1 : a < 0 ∨ 7 < a
  · simp only [c1, if_true, not_true, if_false]
    exact ⟨_, _, _, rfl, rfl, hI1⟩
  simp only [c1, d4, if_false, not_false_iff, if_true]
  obtain ⟨t, ht, rfl⟩ := zw_in (n := 7) (fun h => c1 (Or.inl h)) (fun h => c1 (Or.inr h)) (by omega)
  rw [zy_wkX (h := 1) (n := S 0 0) (K := S 4) (by omega) x2.1.1 hn (by omega) (fun i hi => x2.1.2.2.2.2.2.1 i hi) hS.2.2.2.2.2.2.1, zy_all x2.1.1 hn]
  simp only [Option.bind_some]
  have h1s : zq_shl (1 : Int32) (zn (2 ^ S 0 0 - 1)) = zn (2 ^ (2 ^ S 0 0 - 1)) := by rw [zl_1, zn_shl (by omega), Nat.one_mul]
  rw [h1s]
  have hW : 2 ^ (2 ^ S 0 0 - 1) < 4294967296 := by
    have : 2 ^ (2 ^ S 0 0 - 1) < 2 ^ 32 := Nat.pow_lt_pow_right (by omega) (by omega)
    omega
  obtain ⟨X2, res, y1, y2, y3⟩ := ze_till (N := N) (wt := fun s => s == 2 ^ S 0 0 - 1) (by omega) hS x2 (zs_lt (fun p => zs_bit (S 4 p) t) (S 0 0)) hW (fun s hs => by rw [zs_b2p, Bool.eq_iff_iff, beq_iff_eq, beq_iff_eq]; exact eq_comm)
  obtain ⟨M2, res2, n1, n2, n3⟩ := zk_by (t := t) (a2 := -1) (a3 := -1) (wt := fun s => s == 2 ^ S 0 0 - 1) hN hS m1 m2 (by omega) (Or.inl ⟨rfl, fun s => rfl⟩)
  rw [y1, n1]
  simp only [Option.bind_some, zq_p]
  exact ⟨res, X2, M2, rfl, by rw [zhuni y3 n3], zI_scr (zfx_t x3 (zfx_e y2)) (zfm_t m3 (zfm_k n2)) hI1⟩
theorem ze_sets {N j o1 o2 : Nat} {X : zq_M} (hN : 40000 < N) (h1 : o1 < 5) (h2 : o2 < 5) : f_X1_setsOfOneWithout N j X (zn o1) (zn o2) = some (zn (zs_set (fun s => zs_bit s o1 && !(zs_bit s o2)) 32)) := by
  have q32 : (32 : Int32) = zn 32 := rfl
  unfold f_X1_setsOfOneWithout
  refine zL (α := Int32 → Int32 → Option Int32) (fun (_ : Unit) k g => g (zn (zs_set (fun s => zs_bit s o1 && !(zs_bit s o2)) k)) (zn k)) (fun _ _ => True) (fun o => o = some (zn (zs_set (fun s => zs_bit s o1 && !(zs_bit s o2)) 32))) 32 ?_ ?_ N 0 () (by omega) (by omega) trivial
  · intro g k _ hk _ ih
    have ih := ih () trivial
    have q3 : (zn k : Int32) + 1 = zn (k + 1) := zn_add _ 1
    have b1 := zn_bit (a := k) (k := o1) (by omega) (by omega)
    have b2 := zn_bit0 (a := k) (k := o2) (by omega) (by omega)
    unfold b_X1_setsOfOneWithout_4
    rw [q32, if_neg (by rw [zn_le (by omega) (by omega)]; omega), q3]
    simp only [b1, b2]
    cases c1 : zs_bit k o1 with
    | false =>
      rw [if_pos (by decide)]
      rw [zs_sf (p := fun s => zs_bit s o1 && !(zs_bit s o2)) (n := k) (by simp [c1])] at ih
      exact ih
    | true =>
      rw [if_neg (by decide)]
      cases c2 : zs_bit k o2 with
      | true =>
        rw [if_pos (by decide)]
        rw [zs_sf (p := fun s => zs_bit s o1 && !(zs_bit s o2)) (n := k) (by simp [c2])] at ih
        exact ih
      | false =>
        rw [if_neg (by decide)]
        rw [zs_st (p := fun s => zs_bit s o1 && !(zs_bit s o2)) (n := k) (by simp [c1, c2])] at ih
        rw [zl_1, zn_shl (by omega), Nat.one_mul, zn_or, zs_or]
        exact ih
  · intro g _ _
    unfold b_X1_setsOfOneWithout_4
    rw [q32, if_pos (by rw [zn_le (by omega) (by omega)]; omega)]
theorem zI_secret (N : Nat) (hN : 40000 < N) : zq_op_secret N zI := by
  intro q j X M a b c hq hI
  have hI1 := zI_idle q j X M hI
  obtain ⟨S, h, C, W, U, E, T, hA⟩ := zy_pic N hq hI
  obtain ⟨X0, x1, x2, x3⟩ := zy_lookX (by omega) hA
  obtain ⟨M0, m1, m2, m3⟩ := zy_lookM (by omega) hA
  obtain ⟨hS, hq1, hX, hM, a1, a2, a3, a4, a5, a6⟩ := hA
  have hn := hS.1
  have h32 := zs_p2 hn
  unfold f_X10_secret f_X11_secret
  rw [zw_xp, zw_xp, zw_mp, zw_mp, hX.1, hM.1, zw_xt, zw_mt, x1]
  simp only [Option.bind_some]
  have d4 : ¬ ((1 : Int32) = 0) := by decide
  by_cases c0 : a < 0 ∨ zn (S 0 0) - 1 < a
  · simp only [c0, if_true]
    exact ⟨_, _, _, rfl, rfl, hI1⟩
  simp only [c0, d4, if_false]
  by_cases c1 : b < 0 ∨ zn (S 0 0) - 1 < b
  · simp only [c1, if_true]
    exact ⟨_, _, _, rfl, rfl, hI1⟩
  simp only [c1, d4, if_false]
  by_cases c2 : c < 0 ∨ 7 < c
  · simp only [c2, if_true, not_true, if_false]
    exact ⟨_, _, _, rfl, rfl, hI1⟩
  simp only [c2, d4, if_false, not_false_iff, if_true]
  by_cases c3 : a = b
  · rw [if_neg (fun h => h c3), if_neg (fun h => h c3)]
    exact ⟨_, _, _, rfl, rfl, hI1⟩
  rw [if_pos c3, if_pos c3]
  obtain ⟨o1, ho1, rfl⟩ := zn_pers hn c0
  obtain ⟨o2, ho2, rfl⟩ := zn_pers hn c1
  obtain ⟨t, ht, rfl⟩ := zw_in (n := 7) (fun h => c2 (Or.inl h)) (fun h => c2 (Or.inr h)) (by omega)
  rw [zy_wkX (h := 1) (n := S 0 0) (K := S 4) (by omega) x2.1.1 hn (by omega) (fun i hi => x2.1.2.2.2.2.2.1 i hi) hS.2.2.2.2.2.2.1, ze_sets hN (by omega) (by omega)]
  simp only [Option.bind_some]
  obtain ⟨X2, res, y1, y2, y3⟩ := ze_till (N := N) (wt := fun s => zs_bit s o1 && !(zs_bit s o2)) (by omega) hS x2 (zs_lt (fun p => zs_bit (S 4 p) t) (S 0 0)) (zs_32 (fun s => zs_bit s o1 && !(zs_bit s o2))) (fun s hs => zs_bset _ (by omega))
  obtain ⟨M2, res2, n1, n2, n3⟩ := zk_by (t := t) (a2 := zn o1) (a3 := zn o2) (wt := fun s => zs_bit s o1 && !(zs_bit s o2)) hN hS m1 m2 (by omega) (Or.inr ⟨o1, o2, ho1, ho2, rfl, rfl, fun s => rfl⟩)
  rw [y1, n1]
  simp only [Option.bind_some, zq_p]
  exact ⟨res, X2, M2, rfl, by rw [zhuni y3 n3], zI_scr (zfx_t x3 (zfx_e y2)) (zfm_t m3 (zfm_k n2)) hI1⟩
