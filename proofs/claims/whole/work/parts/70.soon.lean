theorem zwI_fr {n w md d : Nat} {B : Nat → Nat → Nat → Bool} {P : Nat → Nat → Nat → Nat} {X X1 : zq_M} (h1 : X1.1 41 = X.1 41) (h2 : X1.1 42 = X.1 42) (h : zwI n w B P md X d) : zwI n w B P md X1 d := by
  obtain ⟨L, st, a, b, c, e⟩ := h
  refine ⟨L, st, ?_, b, c, e⟩
  unfold zwS at a ⊢
  rw [h1, h2]
  exact a
theorem zfx_w {X X1 : zq_M} (f : zwF X X1) : zfx X X1 := ⟨fun c hc => f.2 c (by omega), by rw [f.2 54 (by omega)], by rw [f.1], by rw [f.1], by rw [f.1]⟩
theorem zfm_r2 {M M1 : zq_M} (f : zrF M M1) : zfm M M1 := ⟨fun k hk => by rw [f.2 69 (by omega)], fun c hc => f.2 c (by omega), by rw [f.1]⟩
def zhit (S : Nat → Nat → Nat) (B : Nat → Nat → Nat → Bool) (r p d : Nat) : Prop := ∃ a, a < 4 ^ S 0 0 ∧ zR (S 0 0) (zv_pk (S 3)) B d a ∧ zU S a r (S 0 1 + d) p = true
def zwh (S : Nat → Nat → Nat) (B : Nat → Nat → Nat → Bool) (P : Nat → Nat → Nat → Nat) (md r p d v : Nat) : Prop := ∃ a, a < 4 ^ S 0 0 ∧ zZ (S 0 0) (zv_pk (S 3)) B P md d a v ∧ zU S a r (S 0 1 + d) p = true
theorem zwh_hit {S : Nat → Nat → Nat} {B : Nat → Nat → Nat → Bool} {P : Nat → Nat → Nat → Nat} {md r p d v : Nat} (h : zwh S B P md r p d v) : zhit S B r p d := by
  obtain ⟨a, h1, h2, h3⟩ := h
  exact ⟨a, h1, zZR h2, h3⟩
theorem zhit_wh {S : Nat → Nat → Nat} {B : Nat → Nat → Nat → Bool} {P : Nat → Nat → Nat → Nat} {r p d : Nat} (hn : S 0 0 ≤ 5) (h : zhit S B r p d) : zwh S B P 0 r p d 100 := by
  obtain ⟨a, h1, h2, h3⟩ := h
  exact ⟨a, h1, zRZ hn h2, h3⟩
theorem zw_lw {N j h r p md d : Nat} {X : zq_M} {S : Nat → Nat → Nat} {P : Nat → Nat → Nat → Nat} {B : Nat → Nat → Nat → Bool} (hN : 1100 < N) (hS : zyB S) (hG : zyGX j X S h P B) (hI : zwI (S 0 0) (zv_pk (S 3)) B P md X d) (hr : r < 4) (hp : p < S 0 0) (hd : d < 100) : ∃ X1 best, f_X9_leastWith N j X (zn p) (zn r) = some (zn best, X1) ∧ zwF X X1 ∧ zwI (S 0 0) (zv_pk (S 3)) B P md X1 d ∧ best ≤ zINF ∧ ∀ v, v < zINF → (best ≤ v ↔ zwh S B P md r p d v) := by
  have hI0 := hI
  obtain ⟨L, st, hw, hL, -, -⟩ := hI
  obtain ⟨X1, best, x1, x2, x3, x4⟩ := zw_least hN hS hG hw hr hp hd
  refine ⟨X1, best, x1, ⟨x2.1, fun c hc => x2.2 c (by omega)⟩, zwI_fr (x2.2 41 (by omega)) (x2.2 42 (by omega)) hI0, x3, fun v hv => ?_⟩
  rw [x4 v hv]
  constructor
  · rintro ⟨a, h1, h2, h3⟩; exact ⟨a, h1, (hL a v).mp ⟨h2, hv⟩, h3⟩
  · rintro ⟨a, h1, h2, h3⟩; exact ⟨a, h1, ((hL a v).mpr h2).1, h3⟩
theorem zw_beginI {N j h md : Nat} {X : zq_M} {S : Nat → Nat → Nat} {P : Nat → Nat → Nat → Nat} {B : Nat → Nat → Nat → Bool} (hN : 1100 < N) (hS : zyB S) (hG : zyGX j X S h P B) (hm : md < 2) : ∃ X1, f_X9_begin N j X (zn md) = some X1 ∧ zwF X X1 ∧ zwI (S 0 0) (zv_pk (S 3)) B P md X1 0 := by
  obtain ⟨X1, x1, x2, x3⟩ := zw_begin hN hS hG hm
  have hinf : zINF = 1073741824 := rfl
  refine ⟨X1, x1, x2, _, 0, x3, fun x v => ?_, fun h => absurd rfl h, by decide⟩
  show _ ↔ (x = zv_pk (S 3) ∧ v < zINF)
  by_cases e : x = zv_pk (S 3)
  · rw [if_pos e]
    constructor
    · rintro ⟨-, h⟩; exact ⟨e, h⟩
    · rintro ⟨-, h⟩; exact ⟨by omega, h⟩
  · rw [if_neg e]
    constructor
    · rintro ⟨h1, h2⟩; omega
    · rintro ⟨h, -⟩; exact absurd h e
def zw_few (S : Nat → Nat → Nat) (B : Nat → Nat → Nat → Bool) (P : Nat → Nat → Nat → Nat) (r p fl : Nat) (res : Int32) : Prop :=
  (∃ d, d ≤ 12 ∧ (∀ e, e < d → ¬ zhit S B r p e) ∧ zhit S B r p d ∧ (fl = 0 → res = zn d) ∧ (fl = 1 → (d = 0 → res = -5) ∧ (0 < d → ∃ v, v < zINF ∧ res = zn v ∧ zwh S B P 0 r p d v ∧ ∀ u, u < v → ¬ zwh S B P 0 r p d u))) ∨ ((∀ d, d ≤ 12 → ¬ zhit S B r p d) ∧ res = -5)
theorem zw_fewX {N j h r p fl : Nat} {X : zq_M} {S : Nat → Nat → Nat} {P : Nat → Nat → Nat → Nat} {B : Nat → Nat → Nat → Bool} (hN : 1100 < N) (hS : zyB S) (hG : zyGX j X S h P B) (hP : ∀ p r m, P p r m ≤ 1001) (hr : r < 3) (hp : p < S 0 0) (hfl : fl < 2) : ∃ X1 res, f_X9_fewestComings N j X (zn p) (zn r) (zn fl) = some (res, X1) ∧ zwF X X1 ∧ zw_few S B P r p fl res := by
  have hn := hS.1
  have hinf : zINF = 1073741824 := rfl
  have hq : (1073741824 : Int32) = zn zINF := rfl
  obtain ⟨X0, x1, x2, x3⟩ := zw_beginI (md := 0) hN hS hG (by omega)
  unfold f_X9_fewestComings
  rw [show (0 : Int32) = zn 0 from rfl, x1]
  simp only [Option.bind_some]
  refine zL (α := Int32 → zq_M → Option (Int32 × zq_M)) (fun (X1 : zq_M) k g => g (zn k) X1) (fun k X1 => zwF X X1 ∧ zwI (S 0 0) (zv_pk (S 3)) B P 0 X1 k ∧ ∀ e, e < k → ¬ zhit S B r p e) (fun o => ∃ X1 res, o = some (res, X1) ∧ zwF X X1 ∧ zw_few S B P r p fl res) 13 ?_ ?_ N 0 X0 (by omega) (by omega) ⟨x2, x3, fun e he => by omega⟩
  · intro g k X1 hk ⟨f1, f2, f3⟩ ih
    obtain ⟨X2, best, y1, y2, y3, y4, y5⟩ := zw_lw hN hS (zyGX_w f1 hG) f2 (show r < 4 by omega) hp (by omega)
    have q12 : (12 : Int32) = zn 12 := rfl
    have q3 : (zn k : Int32) + 1 = zn (k + 1) := zn_add _ 1
    unfold b_X9_fewestComings_8 j_X9_fewestComings_47 k_X9_fewestComings_34_3
    rw [q12, if_neg (by rw [zn_lt (by omega) (by omega)]; omega), y1, hq]
    simp only [Option.bind_some, zq_p]
    have g1 : (zn best = zn zINF) = (best = zINF) := zn_eq (by omega) (by omega)
    have g2 : (zn fl = 0) = (fl = 0) := zn_eq (b := 0) (by omega) (by omega)
    have g3 : (zn k = 0) = (k = 0) := zn_eq (b := 0) (by omega) (by omega)
    simp only [g1, g2, g3, q3]
    have F2 := zwF_t f1 y2
    by_cases c : best = zINF
    · rw [if_pos c, if_pos c]
      obtain ⟨X3, z1, z2, z3⟩ := zw_goOn hN hS (zyGX_w F2 hG) hP (by omega) (by omega) y3
      rw [z1]
      simp only [Option.bind_some]
      refine ih X3 ⟨zwF_t F2 z2, z3, fun e he => ?_⟩
      by_cases e2 : e = k
      · subst e2
        intro hh
        have := (y5 100 (by omega)).mpr (zhit_wh hn hh)
        omega
      · exact f3 e (by omega)
    · rw [if_neg c]
      have hb : best < zINF := by omega
      have hwh := (y5 best hb).mp (Nat.le_refl _)
      have hmin : ∀ u, u < best → ¬ zwh S B P 0 r p k u := fun u hu hh => by
        have := (y5 u (by omega)).mpr hh
        omega
      by_cases c2 : fl = 0
      · rw [if_pos c2, if_neg c]
        exact ⟨X2, _, rfl, F2, Or.inl ⟨k, by omega, f3, zwh_hit hwh, fun _ => rfl, fun h => by omega⟩⟩
      · rw [if_neg c2]
        by_cases c3 : k = 0
        · rw [if_neg (fun h => h c3)]
          exact ⟨X2, _, rfl, F2, Or.inl ⟨k, by omega, f3, zwh_hit hwh, fun h => absurd h c2, fun _ => ⟨fun _ => rfl, fun h => by omega⟩⟩⟩
        · rw [if_pos c3]
          exact ⟨X2, _, rfl, F2, Or.inl ⟨k, by omega, f3, zwh_hit hwh, fun h => absurd h c2, fun _ => ⟨fun h => absurd h c3, fun _ => ⟨best, hb, rfl, hwh, hmin⟩⟩⟩⟩
  · intro g X1 ⟨f1, f2, f3⟩
    have q12 : (12 : Int32) = zn 12 := rfl
    unfold b_X9_fewestComings_8
    rw [q12, if_pos (by rw [zn_lt (by omega) (by omega)]; omega)]
    exact ⟨X1, _, rfl, f1, Or.inr ⟨fun d hd => f3 d (by omega), rfl⟩⟩
theorem zr_soon {N r p : Nat} {M : zq_M} {S : Nat → Nat → Nat} {P : Nat → Nat → Nat → Nat} {B : Nat → Nat → Nat → Bool} (hN : 1100 < N) (hS : zyB S) (hG : zyGM M S P B) (hr : r < 3) (hp : p < S 0 0) : ∃ M1 res, f_X11_soonestOf N M (zn p) (zn r) = some (res, M1) ∧ zrF M M1 ∧ ((∃ d, d ≤ 12 ∧ (∀ e, e < d → ¬ zhit S B r p e) ∧ zhit S B r p d ∧ res = zn d) ∨ ((∀ d, d ≤ 12 → ¬ zhit S B r p d) ∧ res = -5)) := by
  have hb1 := hS.2.1
  obtain ⟨M0, x1, x2, x3⟩ := zr_begin hN hS hG (zy_wln hS)
  unfold f_X11_soonestOf
  rw [hG.1.2.1, x1]
  simp only [Option.bind_some]
  refine zL (α := Int32 → zq_M → Option (Int32 × zq_M)) (fun (M1 : zq_M) k g => g (zn k) M1) (fun k M1 => zrF M M1 ∧ zrI (S 0 0) (zv_pk (S 3)) B M1 k ∧ ∀ e, e < k → ¬ zhit S B r p e) (fun o => ∃ M1 res, o = some (res, M1) ∧ zrF M M1 ∧ ((∃ d, d ≤ 12 ∧ (∀ e, e < d → ¬ zhit S B r p e) ∧ zhit S B r p d ∧ res = zn d) ∨ ((∀ d, d ≤ 12 → ¬ zhit S B r p d) ∧ res = -5))) 13 ?_ ?_ N 0 M0 (by omega) (by omega) ⟨x2, x3, fun e he => by omega⟩
  · intro g k M1 hk ⟨f1, f2, f3⟩ ih
    have G1 := zyGM_r f1 hG
    obtain ⟨b, y1, y2⟩ := zr_can (g := S 0 1 + k) hN hS G1 f2 hp hr (by omega)
    have q13 : (13 : Int32) = zn 13 := rfl
    have q3 : (zn k : Int32) + 1 = zn (k + 1) := zn_add _ 1
    unfold b_X11_soonestOf_10
    rw [q13, if_neg (by rw [zn_le (by omega) (by omega)]; omega), G1.1.2.2.1, zn_add, y1]
    simp only [Option.bind_some]
    cases hb : b with
    | false =>
      rw [if_pos (by rfl)]
      obtain ⟨M2, z1, z2, z3⟩ := zr_go hN hS G1 f2
      rw [z1, q3]
      simp only [Option.bind_some]
      refine ih M2 ⟨zrF_t f1 z2, z3, fun e he => ?_⟩
      by_cases e2 : e = k
      · subst e2
        intro hh
        have := y2.mpr hh
        rw [hb] at this; cases this
      · exact f3 e (by omega)
    | true =>
      rw [if_neg (by decide)]
      exact ⟨M1, _, rfl, f1, Or.inl ⟨k, by omega, f3, y2.mp hb, rfl⟩⟩
  · intro g M1 ⟨f1, f2, f3⟩
    have q13 : (13 : Int32) = zn 13 := rfl
    unfold b_X11_soonestOf_10
    rw [q13, if_pos (by rw [zn_le (by omega) (by omega)]; omega)]
    exact ⟨M1, _, rfl, f1, Or.inr ⟨fun d hd => f3 d (by omega), rfl⟩⟩
def zlead (S : Nat → Nat → Nat) (B : Nat → Nat → Nat → Bool) (r p d f : Nat) : Prop := zp_may (S 0 0) B (zv_pk (S 3)) (f / 4) (f % 4) = true ∧ ∃ a, a < 4 ^ S 0 0 ∧ zR (S 0 0) (zp_mv (zv_pk (S 3)) (f / 4) (f % 4)) B (d - 1) a ∧ zU S a r (S 0 1 + d) p = true
theorem zr_lead {N r p d f : Nat} {M : zq_M} {S : Nat → Nat → Nat} {P : Nat → Nat → Nat → Nat} {B : Nat → Nat → Nat → Bool} (hN : 1100 < N) (hS : zyB S) (hG : zyGM M S P B) (hr : r < 3) (hp : p < S 0 0) (hf : f < 4 * S 0 0) (hd0 : 0 < d) (hd : d ≤ 12) : ∃ (M1 : zq_M) (b : Bool), f_X11_leadsBy N M (zn f) (zn p) (zn r) (zn d) = some (if b = true then 1 else 0, M1) ∧ zrF M M1 ∧ (b = true ↔ zlead S B r p d f) := by
  have hn := hS.1
  have hb1 := hS.2.1
  unfold f_X11_leadsBy
  rw [hG.1.2.1, zl_4, zn_div (by omega) (by omega), zn_irem (by omega) (by omega), zy_mcM (by omega) hG.1.1 hn hG.2.2.2 (zy_wl hS) (by omega) (by omega)]
  simp only [Option.bind_some]
  cases hm : zp_may (S 0 0) B (zv_pk (S 3)) (f / 4) (f % 4) with
  | false =>
    rw [if_neg (by decide)]
    refine ⟨M, false, rfl, ⟨rfl, fun _ _ => rfl⟩, ?_⟩
    unfold zlead
    rw [hm]
    simp
  | true =>
    rw [if_pos (by decide), zy_mvM N M (by omega) (by omega) (zy_wl hS)]
    simp only [Option.bind_some]
    obtain ⟨M0, x1, x2, x3⟩ := zr_begin hN hS hG (zp_mlt hn (zy_wln hS) (show f / 4 < S 0 0 by omega) (show f % 4 < 4 by omega))
    rw [x1]
    simp only [Option.bind_some]
    refine zL (α := Int32 → zq_M → Option (Int32 × zq_M)) (fun (M1 : zq_M) k g => g (zn (k + 1)) M1) (fun k M1 => zrF M M1 ∧ zrI (S 0 0) (zp_mv (zv_pk (S 3)) (f / 4) (f % 4)) B M1 k) (fun o => ∃ (M1 : zq_M) (b : Bool), o = some (if b = true then 1 else 0, M1) ∧ zrF M M1 ∧ (b = true ↔ zlead S B r p d f)) (d - 1) ?_ ?_ N 0 M0 (by omega) (by omega) ⟨x2, x3⟩
    · intro g k M1 hk ⟨f1, f2⟩ ih
      obtain ⟨M2, z1, z2, z3⟩ := zr_go hN hS (zyGM_r f1 hG) f2
      have q3 : (zn (k + 1) : Int32) + 1 = zn (k + 1 + 1) := zn_add _ 1
      unfold b_X11_leadsBy_40
      rw [if_neg (by rw [zn_le (by omega) (by omega)]; omega), z1, q3]
      simp only [Option.bind_some]
      exact ih M2 ⟨zrF_t f1 z2, z3⟩
    · intro g M1 ⟨f1, f2⟩
      have G1 := zyGM_r f1 hG
      obtain ⟨b, y1, y2⟩ := zr_can (g := S 0 1 + d) hN hS G1 f2 hp hr (by omega)
      unfold b_X11_leadsBy_40 k_X11_leadsBy_57_2
      rw [if_pos (by rw [zn_le (by omega) (by omega)]; omega), G1.1.2.2.1, zn_add, y1]
      simp only [Option.bind_some]
      refine ⟨M1, b, ?_, f1, ?_⟩
      · cases b <;> rfl
      · rw [y2]
        unfold zlead
        constructor
        · intro h; exact ⟨hm, h⟩
        · intro h; exact h.2
theorem zI_soonest (N : Nat) (hN : 1100 < N) : zq_op_soonest N zI := by
  intro q j X M a b c hq hI
  have hI1 := zI_idle q j X M hI
  obtain ⟨S, h, C, W, U, E, T, hA⟩ := zy_pic N hq hI
  obtain ⟨X0, x1, x2, x3⟩ := zy_lookX (by omega) hA
  obtain ⟨M0, m1, m2, m3⟩ := zy_lookM (by omega) hA
  obtain ⟨hS, hq1, hX, hM, a1, a2, a3, a4, a5, a6⟩ := hA
  have hn := hS.1
  unfold f_X10_soonest f_X11_soonest
  rw [zw_xp, zw_mp, hX.1, hM.1, zw_xr, zw_mr, zw_x, zw_m, x1, m1]
  simp only [Option.bind_some]
  have d4 : ¬ ((1 : Int32) = 0) := by decide
  by_cases c0 : a < 0 ∨ zn (S 0 0) - 1 < a
  · simp only [c0, if_true]
    exact ⟨_, _, _, rfl, rfl, hI1⟩
  simp only [c0, d4, if_false]
  by_cases c1 : b < 0 ∨ 2 < b
  · simp only [c1, if_true]
    exact ⟨_, _, _, rfl, rfl, hI1⟩
  simp only [c1, d4, if_false]
  by_cases c2 : c < 0 ∨ 1 < c
  · simp only [c2, if_true, not_true, if_false]
    exact ⟨_, _, _, rfl, rfl, hI1⟩
  simp only [c2, d4, if_false, not_false_iff, if_true]
  obtain ⟨p, hp, rfl⟩ := zn_pers hn c0
  obtain ⟨r, hr, rfl⟩ := zw_in (n := 2) (fun h => c1 (Or.inl h)) (fun h => c1 (Or.inr h)) (by omega)
  obtain ⟨fl, hfl, rfl⟩ := zw_in (n := 1) (fun h => c2 (Or.inl h)) (fun h => c2 (Or.inr h)) (by omega)
  have hP : ∀ p r m, zp_pr S W U T C p r m ≤ 1001 := fun p r m => zp_prl a4
  have ex : (if ¬ zn fl = (1 : Int32) then j_X10_soonest_46 N j (zn p) (zn r) X0 0 else j_X10_soonest_46 N j (zn p) (zn r) X0 1) = j_X10_soonest_46 N j (zn p) (zn r) X0 (zn fl) := by
    have : fl = 0 ∨ fl = 1 := by omega
    rcases this with rfl | rfl
    · rw [if_pos (by decide)]; rfl
    · rw [if_neg (by decide)]; rfl
  rw [ex]
  obtain ⟨X2, res, y1, y2, y3⟩ := zw_fewX (fl := fl) hN hS x2 hP (show r < 3 by omega) hp (by omega)
  obtain ⟨M2, res2, n1, n2, n3⟩ := zr_soon hN hS m2 (show r < 3 by omega) hp
  unfold j_X10_soonest_46
  rw [y1, n1]
  simp only [Option.bind_some, zq_p]
  have hfx := zfx_t x3 (zfx_w y2)
  have hfm := zfm_t m3 (zfm_r2 n2)
  have g2 : (zn fl = 0) = (fl = 0) := zn_eq (b := 0) (by omega) (by omega)
  have huni : ∀ d d' : Nat, (∀ e, e < d → ¬ zhit S (zp_ba S W T C) r p e) → zhit S (zp_ba S W T C) r p d → (∀ e, e < d' → ¬ zhit S (zp_ba S W T C) r p e) → zhit S (zp_ba S W T C) r p d' → d = d' := by
    intro d d' h1 h2 h3 h4
    rcases Nat.lt_trichotomy d d' with c | c | c
    · exact absurd h2 (h3 d c)
    · exact c
    · exact absurd h4 (h1 d' c)
  by_cases cf : fl = 0
  · rw [if_neg (by rw [g2]; exact fun h => h cf)]
    have : res = res2 := by
      rcases y3 with ⟨d, d1, d2, d3, d4, d5⟩ | ⟨d1, d2⟩
      · rcases n3 with ⟨d', e1, e2, e3, e4⟩ | ⟨e1, e2⟩
        · rw [d4 cf, e4, huni d d' d2 d3 e2 e3]
        · exact absurd d3 (e1 d d1)
      · rcases n3 with ⟨d', e1, e2, e3, e4⟩ | ⟨e1, e2⟩
        · exact absurd e3 (d1 d' e1)
        · rw [d2, e2]
    exact ⟨res, X2, M2, rfl, by rw [this], zI_scr hfx hfm hI1⟩
  · rw [if_pos (by rw [g2]; exact cf)]
    have cf1 : fl = 1 := by omega
    have q4n : ∀ M3 : zq_M, zrF M0 M3 → (4 : Int32) * M3.1 69 0 = zn (4 * S 0 0) := by
      intro M3 f
      rw [f.2 69 (by omega), m2.1.1, zl_4, zn_mul]
    have hmin5 : ∀ M3 : zq_M, zrF M0 M3 → zI (q + 1) j X2 M3 := fun M3 f => zI_scr hfx (zfm_t m3 (zfm_r2 f)) hI1
    obtain ⟨NN, hNN⟩ : ∃ NN, N = NN + 1 := ⟨N - 1, by omega⟩
    have hfive : ∀ v5 : Int32, v5 ≤ 0 → zq_loop (fun _ _ => none) (b_X11_soonest_50 N (zn p) (zn r) v5) N (0 : Int32) M2 = some (-5, M2) := by
      intro v5 h5
      have : ∀ K : Nat, 0 < K → zq_loop (fun _ _ => none) (b_X11_soonest_50 N (zn p) (zn r) v5) K (0 : Int32) M2 = some (-5, M2) := by
        intro K hK
        cases K with
        | zero => omega
        | succ K =>
          show b_X11_soonest_50 N (zn p) (zn r) v5 _ 0 M2 = _
          unfold b_X11_soonest_50
          rw [q4n M2 n2, if_neg (by rw [zl_0, zn_le (by omega) (by omega)]; omega), if_pos h5]
      exact this N (by omega)
    rcases y3 with ⟨d, d1, d2, d3, d4, d5⟩ | ⟨d1, d2⟩
    · rcases n3 with ⟨d', e1, e2, e3, e4⟩ | ⟨e1, e2⟩
      · have hdd := huni d d' d2 d3 e2 e3
        subst hdd
        obtain ⟨k1, k2⟩ := d5 cf1
        by_cases cd : d = 0
        · rw [k1 cd, e4, cd, hfive (zn 0) (by decide)]
          exact ⟨_, _, _, rfl, rfl, hmin5 M2 n2⟩
        · obtain ⟨v, v1, v2, v3, v4⟩ := k2 (by omega)
          obtain ⟨dd, rfl⟩ : ∃ dd, d = dd + 1 := ⟨d - 1, by omega⟩
          have hle : ∀ f, f < v → f / 4 < S 0 0 → ¬ zlead S (zp_ba S W T C) r p (dd + 1) f := by
            rintro f hf hf4 ⟨l1, aa, l2, l3, l4⟩
            exact v4 f hf ⟨aa, l2, (zZl hn (zy_wln hS)).mpr ⟨by omega, f, Nat.le_refl _, hf4, l1, l3⟩, l4⟩
          have hlv : v / 4 < S 0 0 ∧ zlead S (zp_ba S W T C) r p (dd + 1) v := by
            obtain ⟨aa, w1, w2, w3⟩ := v3
            obtain ⟨w0, f, z1, z2, z3, z4⟩ := (zZl hn (zy_wln hS)).mp w2
            have : f = v := by
              apply Classical.byContradiction
              intro hne
              exact hle f (by omega) z2 ⟨z3, aa, w1, z4, w3⟩
            subst this
            exact ⟨z2, z3, aa, w1, z4, w3⟩
          rw [e4, v2]
          have key : ∃ M3, zq_loop (fun _ _ => none) (b_X11_soonest_50 N (zn p) (zn r) (zn (dd + 1))) N (0 : Int32) M2 = some (zn v, M3) ∧ zrF M0 M3 := by
            refine zL (α := Int32 → zq_M → Option (Int32 × zq_M)) (fun (M1 : zq_M) k g => g (zn k) M1) (fun k M1 => zrF M0 M1 ∧ k ≤ v) (fun o => ∃ M3, o = some (zn v, M3) ∧ zrF M0 M3) (4 * S 0 0) ?_ ?_ N 0 M2 (by omega) (by omega) ⟨n2, by omega⟩
            · intro g k M3 hk ⟨f1, f2⟩ ih
              obtain ⟨M4, bb, l1, l2, l3⟩ := zr_lead (d := dd + 1) (f := k) hN hS (zyGM_r f1 m2) (show r < 3 by omega) hp hk (by omega) d1
              have q3 : (zn k : Int32) + 1 = zn (k + 1) := zn_add _ 1
              unfold b_X11_soonest_50
              rw [q4n M3 f1, if_neg (by rw [zn_le (by omega) (by omega)]; omega), if_neg (by rw [zl_0, zn_le (by omega) (by omega)]; omega), l1, q3]
              simp only [Option.bind_some, zq_p]
              by_cases ev : k = v
              · have hbb : bb = true := l3.mpr (by rw [ev]; exact hlv.2)
                rw [hbb, if_neg (by decide), ev]
                exact ⟨M4, rfl, zrF_t f1 l2⟩
              · have hbb : bb = false := by
                  cases hc : bb with
                  | false => rfl
                  | true => exact absurd (l3.mp hc) (hle k (by omega) (by omega))
                rw [hbb, if_pos (by rfl)]
                exact ih M4 ⟨zrF_t f1 l2, by omega⟩
            · intro g M3 ⟨f1, f2⟩
              omega
          obtain ⟨M3, w1, w2⟩ := key
          rw [w1]
          exact ⟨_, _, _, rfl, rfl, hmin5 M3 w2⟩
      · exact absurd d3 (e1 d d1)
    · rcases n3 with ⟨d', e1, e2, e3, e4⟩ | ⟨e1, e2⟩
      · exact absurd e3 (d1 d' e1)
      · rw [d2, e2, hfive (-5) (by decide)]
        exact ⟨_, _, _, rfl, rfl, hmin5 M2 n2⟩
