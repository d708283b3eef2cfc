def zbe (v : Nat) : Int32 := if v = zINF then -5 else zn v
theorem zbe_neg {v : Nat} (h : v ≤ zINF) : (zbe v < 0) = (v = zINF) := by
  have hinf : zINF = 1073741824 := rfl
  unfold zbe
  by_cases c : v = zINF
  · rw [if_pos c]; simp only [c]; decide
  · rw [if_neg c, show ((zn v < 0) = (zn v < zn 0)) from rfl, zn_lt (by omega) (by omega)]
    apply propext
    constructor
    · intro h; omega
    · intro h; exact absurd h c
theorem zc_inner {N d r p m b0 : Nat} {M : zq_M} {S : Nat → Nat → Nat} {L : Nat → Nat} {P : Nat → Nat → Nat → Nat} {B : Nat → Nat → Nat → Bool} {rc : Int32 → Int32 → zq_M → Option (Int32 × zq_M)} {Q : Option (Int32 × zq_M) → Prop} (hN : 1100 < N) (hS : zyB S) (hG : zyGM M S P B) (hV : ∀ a, a < 4 ^ S 0 0 → M.1 89 a = zce (L a)) (hLl : ∀ a, L a ≤ zINF) (hr : r < 3) (hp : p < S 0 0) (hd : d < 100) (hb : b0 ≤ zINF)
    (K : ∀ b, b ≤ zINF → (∀ v, v < zINF → (b ≤ v ↔ b0 ≤ v ∨ ∃ a, a < 4 ^ S 0 0 ∧ L a ≤ v ∧ zU S a r (S 0 1 + d) p = true)) → Q (rc (zbe b) (zn (d + 1)) M)) : Q (j_X11_cheapest_96 N (zn p) (zn r) (zbe b0) (zn d) rc M) := by
  have hn := hS.1
  have hb1 := hS.2.1
  have h4n := zs_p4 hn
  have h4p : 0 < 4 ^ S 0 0 := Nat.pow_pos (by omega)
  have hinf : zINF = 1073741824 := rfl
  unfold j_X11_cheapest_96
  refine zL (α := Int32 → Int32 → Option (Int32 × zq_M)) (fun (b : Nat) k g => g (zbe b) (zn k)) (fun k b => b ≤ zINF ∧ ∀ v, v < zINF → (b ≤ v ↔ b0 ≤ v ∨ ∃ a, a < k ∧ L a ≤ v ∧ zU S a r (S 0 1 + d) p = true)) Q (4 ^ S 0 0) ?_ ?_ N 0 b0 (by omega) (by omega) ⟨hb, fun v hv => ⟨fun h => Or.inl h, fun h => by
    rcases h with h | ⟨a, h, _⟩
    · exact h
    · omega⟩⟩
  · intro g k b hk ⟨b1, b2⟩ ih
    have hms := zy_msM (N := N) (p := p) (g := S 0 1 + d) (a := k) (by omega) hS hG.1 hG.2.1 (by omega) hp (by omega)
    have hneg := zce_neg (hLl k)
    have hnegb := zbe_neg b1
    have hll := hLl k
    have q3 : (zn k : Int32) + 1 = zn (k + 1) := zn_add _ 1
    have g2 : (zn (k / 4 ^ p % 4) = zn r) = (k / 4 ^ p % 4 = r) := zn_eq (by omega) (by omega)
    have keep : (L k < b → zU S k r (S 0 1 + d) p = false) → ∀ v, v < zINF → (b ≤ v ↔ b0 ≤ v ∨ ∃ a, a < k + 1 ∧ L a ≤ v ∧ zU S a r (S 0 1 + d) p = true) := by
      intro hno v hv
      rw [b2 v hv]
      constructor
      · rintro (h | ⟨a, h1, h2, h3⟩)
        · exact Or.inl h
        · exact Or.inr ⟨a, by omega, h2, h3⟩
      · rintro (h | ⟨a, h1, h2, h3⟩)
        · exact Or.inl h
        · by_cases e : a = k
          · subst e
            by_cases hb : L a < b
            · rw [hno hb] at h3; cases h3
            · exact (b2 v hv).mp (by omega)
          · exact Or.inr ⟨a, by omega, h2, h3⟩
    unfold b_X11_cheapest_99 j_X11_cheapest_146
    rw [zy_plsM hS hG.1.1, zy_plM N M (by omega) (by omega), hG.1.2.2.1, zn_add, hms]
    simp only [Option.bind_some]
    rw [if_neg (by rw [zn_le (by omega) (by omega)]; omega), zn_ck (by omega) (by omega), zn_ck (by omega) (by omega), zn_ck (by omega) (by omega), zn_ix (by omega), hV k hk, q3]
    simp only [hneg, g2, hnegb]
    by_cases c1 : L k = zINF
    · rw [if_pos c1]
      exact ih b ⟨b1, keep (fun h => by omega)⟩
    rw [if_neg c1]
    have hLk : zce (L k) = zn (L k) := by unfold zce; rw [if_neg c1]
    by_cases c2 : k / 4 ^ p % 4 = r
    · rw [if_neg (fun h => h c2), c2]
      have hz : (decide (r < 3) && zk_sp S r (fun q => k / 4 ^ q % 4 == r) (S 0 1 + d) p) = zU S k r (S 0 1 + d) p := rfl
      rw [hz, hLk]
      have take : L k < b → ∃ x, x = zU S k r (S 0 1 + d) p ∧ Q (if ¬ (if x = true then (1 : Int32) else 0) = 0 then g (zn (L k)) (zn (k + 1)) else g (zbe b) (zn (k + 1))) := by
        intro hlt
        refine ⟨_, rfl, ?_⟩
        cases hu : zU S k r (S 0 1 + d) p with
        | true =>
          rw [if_pos (by decide)]
          have := ih (L k) ⟨hll, fun v hv => ⟨fun h => Or.inr ⟨k, by omega, h, hu⟩, fun h => by
            rcases h with h | ⟨a, h1, h2, h3⟩
            · have := (b2 v hv).mpr (Or.inl h); omega
            · by_cases e : a = k
              · subst e; exact h2
              · have := (b2 v hv).mpr (Or.inr ⟨a, by omega, h2, h3⟩); omega⟩⟩
          unfold zbe at this
          rw [if_neg c1] at this
          exact this
        | false =>
          rw [if_neg (by decide)]
          exact ih b ⟨b1, keep (fun _ => hu)⟩
      by_cases c3 : b = zINF
      · rw [if_pos c3]
        obtain ⟨x, hx, hQ⟩ := take (by omega)
        rw [← hx]; exact hQ
      · rw [if_neg c3]
        have hbe : zbe b = zn b := by unfold zbe; rw [if_neg c3]
        have g6 : (zbe b ≤ zn (L k)) = (b ≤ L k) := by rw [hbe]; exact zn_le (by omega) (by omega)
        simp only [g6]
        by_cases c4 : b ≤ L k
        · rw [if_pos c4]
          exact ih b ⟨b1, keep (fun h => by omega)⟩
        · rw [if_neg c4]
          obtain ⟨x, hx, hQ⟩ := take (by omega)
          rw [← hx]; exact hQ
    · rw [if_pos c2]
      refine ih b ⟨b1, keep (fun _ => ?_)⟩
      unfold zU zk_sp
      simp [c2]
  · intro g b ⟨b1, b2⟩
    unfold b_X11_cheapest_99
    rw [zy_plsM hS hG.1.1]
    simp only [Option.bind_some]
    rw [if_pos (by rw [zn_le (by omega) (by omega)]; omega)]
    have q3 : (zn d : Int32) + 1 = zn (d + 1) := zn_add _ 1
    rw [q3]
    exact K b b1 b2
theorem zc_M {N r p m : Nat} {M : zq_M} {S : Nat → Nat → Nat} {P : Nat → Nat → Nat → Nat} {B : Nat → Nat → Nat → Bool} (hN : 1100 < N) (hS : zyB S) (hG : zyGM M S P B) (hP : ∀ p r m, P p r m ≤ 1001) (hr : r < 3) (hp : p < S 0 0) (hm : m ≤ 4) : ∃ (M1 : zq_M) (b : Nat), zq_loop (fun _ _ => none) (b_X11_cheapest_38 N (zn p) (zn r) (zn m)) N (0 : Int32) M = some (zbe b, M1) ∧ zcF M M1 ∧ b ≤ zINF ∧ ∀ v, v < zINF → (b ≤ v ↔ ∃ d, d ≤ m ∧ zwh S B P 1 r p d v) := by
  have hn := hS.1
  have h4n := zs_p4 hn
  have h4p : 0 < 4 ^ S 0 0 := Nat.pow_pos (by omega)
  have hinf : zINF = 1073741824 := rfl
  have hwl := zy_wl hS
  refine zL (α := Int32 → zq_M → Option (Int32 × zq_M)) (fun (M1 : zq_M) k g => g (zn k) M1) (fun k M1 => zf1 89 M M1 ∧ ∀ a, a < k → M1.1 89 a = zce (if a = zv_pk (S 3) then 0 else zINF)) (fun o => ∃ (M1 : zq_M) (b : Nat), o = some (zbe b, M1) ∧ zcF M M1 ∧ b ≤ zINF ∧ ∀ v, v < zINF → (b ≤ v ↔ ∃ d, d ≤ m ∧ zwh S B P 1 r p d v)) (4 ^ S 0 0) ?_ ?_ N 0 M (by omega) (by omega) ⟨zf1_r _ _, fun a ha => by omega⟩
  · intro g k M1 hk ⟨f1, f2⟩ ih
    have q3 : (zn k : Int32) + 1 = zn (k + 1) := zn_add _ 1
    have g1 : (zn k = zn (zv_pk (S 3))) = (k = zv_pk (S 3)) := zn_eq (by omega) (by omega)
    unfold b_X11_cheapest_38 j_X11_cheapest_67
    rw [zy_plsM hS (by rw [f1.2 69 (by omega)]; exact hG.1.1), f1.2 69 (by omega), hG.1.2.1]
    simp only [Option.bind_some, zq_b, g1]
    rw [if_neg (by rw [zn_le (by omega) (by omega)]; omega), zn_ck (by omega) (by omega), zn_ck (by omega) (by omega), zn_ix (by omega), q3]
    have fin : ∀ v : Int32, v = zce (if k = zv_pk (S 3) then 0 else zINF) → ∃ (M1_1 : zq_M) (b : Nat), g (zn (k + 1)) (zq_u1 M1 89 k v) = some (zbe b, M1_1) ∧ zcF M M1_1 ∧ b ≤ zINF ∧ ∀ v, v < zINF → (b ≤ v ↔ ∃ d, d ≤ m ∧ zwh S B P 1 r p d v) := by
      intro v hv
      refine ih _ ⟨zf1_u f1, fun a ha => ?_⟩
      rw [zq_g1]
      by_cases e : a = k
      · rw [if_pos ⟨rfl, e⟩, e, hv]
      · rw [if_neg (fun h => e h.2)]; exact f2 a (by omega)
    by_cases c : k = zv_pk (S 3)
    · rw [if_neg (fun h => h c)]
      exact fin 0 (by rw [if_pos c]; rfl)
    · rw [if_pos c]
      exact fin (-1) (by rw [if_neg c]; rfl)
  · intro g M1 ⟨f1, f2⟩
    have F1 : zcF M M1 := ⟨f1.1, fun c hc => f1.2 c (by omega)⟩
    have I0 : zcI (S 0 0) (zv_pk (S 3)) B P M1 0 := by
      refine ⟨fun a => if a = zv_pk (S 3) then 0 else zINF, f2, fun a => ?_, fun a h => ?_, fun x v => ?_⟩
      · dsimp only; split <;> omega
      · dsimp only at h ⊢
        by_cases e : a = zv_pk (S 3)
        · rw [if_pos e]; omega
        · rw [if_neg e] at h; exact absurd rfl h
      · show ((if x = zv_pk (S 3) then 0 else zINF) ≤ v ∧ v < zINF) ↔ (x = zv_pk (S 3) ∧ v < zINF)
        by_cases e : x = zv_pk (S 3)
        · rw [if_pos e]
          constructor
          · rintro ⟨-, h⟩; exact ⟨e, h⟩
          · rintro ⟨-, h⟩; exact ⟨by omega, h⟩
        · rw [if_neg e]
          constructor
          · rintro ⟨h1, h2⟩; omega
          · rintro ⟨h, -⟩; exact absurd h e
    unfold b_X11_cheapest_38 k_X11_cheapest_74_6
    rw [zy_plsM hS (by rw [f1.2 69 (by omega)]; exact hG.1.1)]
    simp only [Option.bind_some]
    rw [if_pos (by rw [zn_le (by omega) (by omega)]; omega)]
    have h5 : (-5 : Int32) = zbe zINF := rfl
    rw [h5]
    refine zL (α := Int32 → Int32 → zq_M → Option (Int32 × zq_M)) (fun (q : zq_M × Nat) k g => g (zbe q.2) (zn k) q.1) (fun k q => zcF M q.1 ∧ zcI (S 0 0) (zv_pk (S 3)) B P q.1 (k - 1) ∧ q.2 ≤ zINF ∧ ∀ v, v < zINF → (q.2 ≤ v ↔ ∃ d, d < k ∧ zwh S B P 1 r p d v)) (fun o => ∃ (M1 : zq_M) (b : Nat), o = some (zbe b, M1) ∧ zcF M M1 ∧ b ≤ zINF ∧ ∀ v, v < zINF → (b ≤ v ↔ ∃ d, d ≤ m ∧ zwh S B P 1 r p d v)) (m + 1) ?_ ?_ N 0 (M1, zINF) (by omega) (by omega) ⟨F1, I0, Nat.le_refl _, fun v hv => ⟨fun h => by have h : zINF ≤ v := h; omega, fun ⟨d, h, _⟩ => by omega⟩⟩
    · rintro g2 k ⟨M2, b⟩ hk ⟨e1, e2, e3, e4⟩ ih
      dsimp only at e1 e2 e3 e4 ih ⊢
      have inner : ∀ M3, zcF M M3 → zcI (S 0 0) (zv_pk (S 3)) B P M3 k → ∃ (M1 : zq_M) (b1 : Nat), j_X11_cheapest_96 N (zn p) (zn r) (zbe b) (zn k) g2 M3 = some (zbe b1, M1) ∧ zcF M M1 ∧ b1 ≤ zINF ∧ ∀ v, v < zINF → (b1 ≤ v ↔ ∃ d, d ≤ m ∧ zwh S B P 1 r p d v) := by
        intro M3 F3 I3
        have I3' := I3
        obtain ⟨L, l1, l2, l3, l4⟩ := I3
        refine zc_inner (m := m) (Q := fun o => ∃ (M1 : zq_M) (b1 : Nat), o = some (zbe b1, M1) ∧ zcF M M1 ∧ b1 ≤ zINF ∧ ∀ v, v < zINF → (b1 ≤ v ↔ ∃ d, d ≤ m ∧ zwh S B P 1 r p d v)) hN hS (zyGM_c F3 hG) l1 l2 hr hp (by omega) e3 ?_
        intro b1 h1 h2
        refine ih (M3, b1) ⟨F3, I3', h1, fun v hv => ?_⟩
        dsimp only
        rw [h2 v hv, e4 v hv]
        constructor
        · rintro (⟨d, h3, h4⟩ | ⟨a, h3, h4, h5⟩)
          · exact ⟨d, by omega, h4⟩
          · exact ⟨k, by omega, a, h3, (l4 a v).mp ⟨h4, hv⟩, h5⟩
        · rintro ⟨d, h3, h4⟩
          by_cases e : d = k
          · subst e
            obtain ⟨a, w1, w2, w3⟩ := h4
            exact Or.inr ⟨a, w1, ((l4 a v).mpr w2).1, w3⟩
          · exact Or.inl ⟨d, by omega, h4⟩
      unfold b_X11_cheapest_81
      rw [if_neg (by rw [zn_lt (by omega) (by omega)]; omega)]
      by_cases ck : k = 0
      · subst ck
        rw [if_pos (by decide)]
        exact inner M2 e1 e2
      · rw [if_neg (by rw [zl_0, zn_le (by omega) (by omega)]; omega)]
        obtain ⟨M3, z1, z2, z3⟩ := zcg_go hN hS (zyGM_c e1 hG) hP (by omega) e2
        rw [z1]
        simp only [Option.bind_some]
        rw [show k - 1 + 1 = k by omega] at z3
        exact inner M3 (zcF_t e1 z2) z3
    · rintro g2 ⟨M2, b⟩ ⟨e1, e2, e3, e4⟩
      dsimp only at e1 e2 e3 e4 ⊢
      unfold b_X11_cheapest_81
      rw [if_pos (by rw [zn_lt (by omega) (by omega)]; omega)]
      refine ⟨M2, b, rfl, e1, e3, fun v hv => ?_⟩
      rw [e4 v hv]
      constructor
      · rintro ⟨d, h1, h2⟩; exact ⟨d, by omega, h2⟩
      · rintro ⟨d, h1, h2⟩; exact ⟨d, by omega, h2⟩
theorem zfm_c {M M1 : zq_M} (f : zcF M M1) : zfm M M1 := ⟨fun k hk => by rw [f.2 69 (by omega)], fun c hc => f.2 c (by omega), by rw [f.1]⟩
theorem zI_cheapest (N : Nat) (hN : 1100 < N) : zq_op_cheapest N zI := by
  intro q j X M a b c hq hI
  have hI1 := zI_idle q j X M hI
  obtain ⟨S, h, C, W, U, E, T, hA⟩ := zy_pic N hq hI
  obtain ⟨X0, x1, x2, x3⟩ := zy_lookX (by omega) hA
  obtain ⟨M0, m1, m2, m3⟩ := zy_lookM (by omega) hA
  obtain ⟨hS, hq1, hX, hM, a1, a2, a3, a4, a5, a6⟩ := hA
  have hn := hS.1
  have hinf : zINF = 1073741824 := rfl
  unfold f_X10_cheapest f_X11_cheapest
  rw [zw_xp, zw_mp, hX.1, hM.1, zw_xr, zw_mr, zw_x, zw_m, x1, m1]
  simp only [Option.bind_some]
  have d4 : ¬ ((1 : Int32) = 0) := by decide
  by_cases c0 : a < 0 ∨ zn (S 0 0) - 1 < a
  · simp only [c0, if_true]
    exact ⟨_, _, _, rfl, rfl, hI1⟩
  simp only [c0, d4, if_false]
  by_cases c1 : b < 0 ∨ 2 < b
  · simp only [c1, if_true, not_true, if_false]
    exact ⟨_, _, _, rfl, rfl, hI1⟩
  simp only [c1, d4, if_false, not_false_iff, if_true]
  by_cases c2 : c < 0 ∨ 4 < c
  · simp only [c2, if_true, not_true, if_false]
    exact ⟨_, _, _, rfl, rfl, hI1⟩
  simp only [c2, d4, if_false, not_false_iff, if_true]
  obtain ⟨p, hp, rfl⟩ := zn_pers hn c0
  obtain ⟨r, hr, rfl⟩ := zw_in (n := 2) (fun h => c1 (Or.inl h)) (fun h => c1 (Or.inr h)) (by omega)
  obtain ⟨m, hm, rfl⟩ := zw_in (n := 4) (fun h => c2 (Or.inl h)) (fun h => c2 (Or.inr h)) (by omega)
  have hP : ∀ p r m, zp_pr S W U T C p r m ≤ 1001 := fun p r m => zp_prl a4
  obtain ⟨X2, b1, y1, y2, y3, y4⟩ := zw_cheapX (m := m) hN hS x2 hP (show r < 3 by omega) hp hm
  obtain ⟨M2, b2, n1, n2, n3, n4⟩ := zc_M (m := m) hN hS m2 hP (show r < 3 by omega) hp hm
  rw [y1, n1]
  simp only [Option.bind_some, zq_p]
  have : b1 = b2 := by
    rcases Nat.lt_trichotomy b1 b2 with c | c | c
    · have := (n4 b1 (by omega)).mpr ((y4 b1 (by omega)).mp (Nat.le_refl _)); omega
    · exact c
    · have := (y4 b2 (by omega)).mpr ((n4 b2 (by omega)).mp (Nat.le_refl _)); omega
  subst this
  exact ⟨_, _, _, rfl, rfl, zI_scr (zfx_t x3 (zfx_w y2)) (zfm_t m3 (zfm_c n2)) hI1⟩
