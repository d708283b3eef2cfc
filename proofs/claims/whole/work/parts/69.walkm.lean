def zR (n w : Nat) (B : Nat → Nat → Nat → Bool) : Nat → Nat → Prop
  | 0, x => x = w
  | d + 1, x => ∃ a p r, a < 4 ^ n ∧ p < n ∧ r < 4 ∧ zR n w B d a ∧ zp_may n B a p r = true ∧ zp_mv a p r = x
theorem zR_x {n w d x : Nat} {B : Nat → Nat → Nat → Bool} (hn : n ≤ 5) (hw : w < 4 ^ n) (h : zR n w B d x) : x < 4 ^ n := by
  cases d with
  | zero =>
    have h : x = w := h
    rw [h]; exact hw
  | succ d =>
    obtain ⟨a, p, r, h1, h2, h3, h4, h5, h6⟩ := h
    rw [← h6]
    exact zp_mlt hn h1 h2 h3
theorem zZR {n w d x v md : Nat} {B : Nat → Nat → Nat → Bool} {P : Nat → Nat → Nat → Nat} (h : zZ n w B P md d x v) : zR n w B d x := by
  induction d generalizing x v with
  | zero => exact h.1
  | succ d ih =>
    obtain ⟨-, a, p, r, u, h1, h2, h3, h4, h5, h6, h7⟩ := h
    exact ⟨a, p, r, h1, h2, h3, ih h4, h5, h6⟩
theorem zRZ {n w d x : Nat} {B : Nat → Nat → Nat → Bool} {P : Nat → Nat → Nat → Nat} (hn : n ≤ 5) (h : zR n w B d x) : zZ n w B P 0 d x 100 := by
  induction d generalizing x with
  | zero => exact ⟨h, by decide⟩
  | succ d ih =>
    obtain ⟨a, p, r, h1, h2, h3, h4, h5, h6⟩ := h
    refine ⟨by decide, a, p, r, 100, h1, h2, h3, ih h4, h5, h6, ?_⟩
    unfold zinc
    rw [if_neg (by decide)]
    split <;> omega
theorem zZl {n w d x v : Nat} {B : Nat → Nat → Nat → Bool} {P : Nat → Nat → Nat → Nat} (hn : n ≤ 5) (hw : w < 4 ^ n) : zZ n w B P 0 (d + 1) x v ↔ v < zINF ∧ ∃ f, f ≤ v ∧ f / 4 < n ∧ zp_may n B w (f / 4) (f % 4) = true ∧ zR n (zp_mv w (f / 4) (f % 4)) B d x := by
  induction d generalizing x v with
  | zero =>
    constructor
    · rintro ⟨h0, a, p, r, u, h1, h2, h3, h4, h5, h6, h7⟩
      have h4 : a = w := h4.1
      subst h4
      have h7 : 4 * p + r ≤ v := h7
      refine ⟨h0, 4 * p + r, h7, ?_, ?_, ?_⟩
      · omega
      · rw [show (4 * p + r) / 4 = p by omega, show (4 * p + r) % 4 = r by omega]; exact h5
      · rw [show (4 * p + r) / 4 = p by omega, show (4 * p + r) % 4 = r by omega]; exact h6.symm
    · rintro ⟨h0, f, h1, h2, h3, h4⟩
      refine ⟨h0, w, f / 4, f % 4, 0, hw, h2, by omega, ⟨rfl, by decide⟩, h3, h4.symm, ?_⟩
      show 4 * (f / 4) + f % 4 ≤ v
      omega
  | succ d ih =>
    constructor
    · rintro ⟨h0, a, p, r, u, h1, h2, h3, h4, h5, h6, h7⟩
      obtain ⟨k0, f, k1, k2, k3, k4⟩ := ih.mp h4
      have h7 : u ≤ v := h7
      exact ⟨h0, f, by omega, k2, k3, a, p, r, h1, h2, h3, k4, h5, h6⟩
    · rintro ⟨h0, f, h1, h2, h3, a, p, r, k1, k2, k3, k4, k5, k6⟩
      exact ⟨h0, a, p, r, v, k1, k2, k3, ih.mpr ⟨h0, f, h1, h2, h3, k4⟩, k5, k6, Nat.le_refl v⟩
def zrF (M M1 : zq_M) : Prop := M1.2 = M.2 ∧ ∀ c, c ≠ 87 ∧ c ≠ 88 → M1.1 c = M.1 c
theorem zrF_t {X Y Z : zq_M} (h : zrF X Y) (g : zrF Y Z) : zrF X Z := ⟨g.1.trans h.1, fun c hc => (g.2 c hc).trans (h.2 c hc)⟩
theorem zrF_u {c0 k : Nat} {v : Int32} {X Y : zq_M} (hc : c0 = 87 ∨ c0 = 88) (h : zrF X Y) : zrF X (zq_u1 Y c0 k v) := ⟨h.1, fun c h1 => (zq_un (by omega)).trans (h.2 c h1)⟩
theorem zyGM_fr {M M1 : zq_M} {S : Nat → Nat → Nat} {P : Nat → Nat → Nat → Nat} {B : Nat → Nat → Nat → Bool} (h0 : ∀ k, k < 3 ∨ k = 9 → M1.1 69 k = M.1 69 k) (hc : ∀ c, 70 ≤ c ∧ c ≤ 74 ∨ c = 85 ∨ c = 86 → M1.1 c = M.1 c) (hG : zyGM M S P B) : zyGM M1 S P B := by
  obtain ⟨a1, a2, a6, a7⟩ := hG
  refine ⟨zyM_fr (fun k hk => h0 k (by omega)) (fun c h1 h2 => hc c (by omega)) a1, by rw [h0 9 (by omega)]; exact a2, ?_, ?_⟩
  · intro p r m h1 h2 h3 h4
    rw [hc 85 (by omega)]; exact a6 p r m h1 h2 h3 h4
  · intro p r m h1 h2 h3 h4
    rw [hc 86 (by omega)]; exact a7 p r m h1 h2 h3 h4
theorem zyGM_r {M M1 : zq_M} {S : Nat → Nat → Nat} {P : Nat → Nat → Nat → Nat} {B : Nat → Nat → Nat → Bool} (f : zrF M M1) (hG : zyGM M S P B) : zyGM M1 S P B := zyGM_fr (fun k hk => by rw [f.2 69 (by omega)]) (fun c hc => f.2 c (by omega)) hG
theorem zy_plsM {N : Nat} {M : zq_M} {S : Nat → Nat → Nat} (hS : zyB S) (hM : M.1 69 0 = zn (S 0 0)) : f_X11_places N M = some (zn (4 ^ S 0 0)) := by
  have hn := hS.1
  unfold f_X11_places
  rw [hM, zn_4n hn]
def zrI (n w : Nat) (B : Nat → Nat → Nat → Bool) (M : zq_M) (d : Nat) : Prop := ∃ V : Nat → Bool, (∀ a, a < 4 ^ n → M.1 87 a = if V a = true then 1 else 0) ∧ ∀ a, a < 4 ^ n → (V a = true ↔ zR n w B d a)
theorem zr_begin {N w0 : Nat} {M : zq_M} {S : Nat → Nat → Nat} {P : Nat → Nat → Nat → Nat} {B : Nat → Nat → Nat → Bool} (hN : 1100 < N) (hS : zyB S) (hG : zyGM M S P B) (hw : w0 < 4 ^ S 0 0) : ∃ M1, f_X11_beginAt N M (zn w0) = some M1 ∧ zrF M M1 ∧ zrI (S 0 0) w0 B M1 0 := by
  have hn := hS.1
  have h4n := zs_p4 hn
  have h4p : 0 < 4 ^ S 0 0 := Nat.pow_pos (by omega)
  unfold f_X11_beginAt
  refine zL (α := Int32 → zq_M → Option zq_M) (fun (M1 : zq_M) k g => g (zn k) M1) (fun k M1 => zrF M M1 ∧ ∀ a, a < k → M1.1 87 a = 0) (fun o => ∃ M1, o = some M1 ∧ zrF M M1 ∧ zrI (S 0 0) w0 B M1 0) (4 ^ S 0 0) ?_ ?_ N 0 M (by omega) (by omega) ⟨⟨rfl, fun _ _ => rfl⟩, fun a ha => by omega⟩
  · intro g k M1 hk ⟨f1, f2⟩ ih
    unfold b_X11_beginAt_2
    rw [zy_plsM hS (by rw [f1.2 69 (by omega)]; exact hG.1.1)]
    simp only [Option.bind_some, zq_b, zt_nar0]
    rw [if_neg (by rw [zn_le (by omega) (by omega)]; omega), zn_ck (by omega) (by omega), zn_ix (by omega), zl_1, zn_add]
    refine ih _ ⟨zrF_u (by omega) f1, fun a ha => ?_⟩
    rw [zq_g1]
    by_cases e : a = k
    · rw [if_pos ⟨rfl, e⟩]
    · rw [if_neg (fun h => e h.2)]; exact f2 a (by omega)
  · intro g M1 ⟨f1, f2⟩
    unfold b_X11_beginAt_2 k_X11_beginAt_23_2
    rw [zy_plsM hS (by rw [f1.2 69 (by omega)]; exact hG.1.1)]
    simp only [Option.bind_some, zq_b, zt_nar1]
    rw [if_pos (by rw [zn_le (by omega) (by omega)]; omega), zn_ck (by omega) (by omega), zn_ix (by omega)]
    refine ⟨_, rfl, zrF_u (by omega) f1, fun a => a == w0, fun a ha => ?_, fun a ha => ?_⟩
    · rw [zq_g1]
      by_cases e : a = w0
      · rw [if_pos ⟨rfl, e⟩, if_pos (by simpa using e)]
      · rw [if_neg (fun h => e h.2), if_neg (by simpa using e)]; exact f2 a ha
    · show _ ↔ a = w0
      simp
theorem zr_go {N w0 d : Nat} {M : zq_M} {S : Nat → Nat → Nat} {P : Nat → Nat → Nat → Nat} {B : Nat → Nat → Nat → Bool} (hN : 1100 < N) (hS : zyB S) (hG : zyGM M S P B) (hI : zrI (S 0 0) w0 B M d) : ∃ M1, f_X11_goOn N M = some M1 ∧ zrF M M1 ∧ zrI (S 0 0) w0 B M1 (d + 1) := by
  have hn := hS.1
  have h4n := zs_p4 hn
  have h4p : 0 < 4 ^ S 0 0 := Nat.pow_pos (by omega)
  obtain ⟨V, hV, hR⟩ := hI
  unfold f_X11_goOn
  refine zL (α := Int32 → zq_M → Option zq_M) (fun (M1 : zq_M) k g => g (zn k) M1) (fun k M1 => zf1 88 M M1 ∧ ∀ a, a < k → M1.1 88 a = 0) (fun o => ∃ M1, o = some M1 ∧ zrF M M1 ∧ zrI (S 0 0) w0 B M1 (d + 1)) (4 ^ S 0 0) ?_ ?_ N 0 M (by omega) (by omega) ⟨zf1_r _ _, fun a ha => by omega⟩
  · intro g k M1 hk ⟨f1, f2⟩ ih
    unfold b_X11_goOn_2
    rw [zy_plsM hS (by rw [f1.2 69 (by omega)]; exact hG.1.1)]
    simp only [Option.bind_some, zq_b, zt_nar0]
    rw [if_neg (by rw [zn_le (by omega) (by omega)]; omega), zn_ck (by omega) (by omega), zn_ix (by omega), zl_1, zn_add]
    refine ih _ ⟨zf1_u f1, fun a ha => ?_⟩
    rw [zq_g1]
    by_cases e : a = k
    · rw [if_pos ⟨rfl, e⟩]
    · rw [if_neg (fun h => e h.2)]; exact f2 a (by omega)
  · intro g0 M1 ⟨f1, f2⟩
    unfold b_X11_goOn_2 k_X11_goOn_23_7
    rw [zy_plsM hS (by rw [f1.2 69 (by omega)]; exact hG.1.1)]
    simp only [Option.bind_some]
    rw [if_pos (by rw [zn_le (by omega) (by omega)]; omega)]
    refine zL (α := Int32 → zq_M → Option zq_M) (fun (q : zq_M × (Nat → Bool)) k g => g (zn k) q.1) (fun k q => zf1 88 M q.1 ∧ (∀ x, x < 4 ^ S 0 0 → q.1.1 88 x = if q.2 x = true then 1 else 0) ∧ zJ (S 0 0) (fun a p r => V a && zp_may (S 0 0) B a p r) (fun a p r v => True) k 0 0 (fun x v => q.2 x = true)) (fun o => ∃ M1, o = some M1 ∧ zrF M M1 ∧ zrI (S 0 0) w0 B M1 (d + 1)) (4 ^ S 0 0) ?_ ?_ N 0 (M1, fun _ => false) (by omega) (by omega) ⟨f1, fun x hx => by rw [if_neg (by simp)]; exact f2 x hx, zJ_0 (fun x v h => by cases h)⟩
    · rintro g1 k ⟨M2, V2⟩ hk ⟨e1, e2, e3⟩ ih1
      dsimp only at e1 e2 e3 ih1 ⊢
      unfold b_X11_goOn_25
      rw [zy_plsM hS (by rw [e1.2 69 (by omega)]; exact hG.1.1)]
      simp only [Option.bind_some]
      rw [if_neg (by rw [zn_le (by omega) (by omega)]; omega)]
      refine zL (α := Int32 → zq_M → Option zq_M) (fun (q : zq_M × (Nat → Bool)) p g => g (zn p) q.1) (fun p q => zf1 88 M q.1 ∧ (∀ x, x < 4 ^ S 0 0 → q.1.1 88 x = if q.2 x = true then 1 else 0) ∧ zJ (S 0 0) (fun a p r => V a && zp_may (S 0 0) B a p r) (fun a p r v => True) k p 0 (fun x v => q.2 x = true)) (fun o => ∃ M1, o = some M1 ∧ zrF M M1 ∧ zrI (S 0 0) w0 B M1 (d + 1)) (S 0 0) ?_ ?_ N 0 (M2, V2) (by omega) (by omega) ⟨e1, e2, e3⟩
      · rintro g2 p ⟨M3, V3⟩ hp ⟨c1, c2, c3⟩ ih2
        dsimp only at c1 c2 c3 ih2 ⊢
        unfold b_X11_goOn_35
        rw [c1.2 69 (by omega), hG.1.1, if_neg (by rw [zn_le (by omega) (by omega)]; omega), zn_ck (by omega) (by omega), zn_ix (by omega), c1.2 87 (by omega), hV k hk]
        cases hVk : V k with
        | false =>
          rw [if_pos (by rfl), zl_1, zn_add]
          refine ih1 (M3, V3) ⟨c1, c2, ?_⟩
          intro x v
          rw [c3 x v]
          constructor
          · rintro ⟨a1, p1, r1, h1, h2, h3, h4⟩
            exact ⟨a1, p1, r1, h1, h2, by omega, h4⟩
          · rintro ⟨a1, p1, r1, h1, h2, h3, h4, h5⟩
            by_cases e : a1 = k
            · subst e
              dsimp only at h4
              rw [hVk] at h4; cases h4
            · exact ⟨a1, p1, r1, h1, h2, by omega, h4, h5⟩
        | true =>
          rw [if_neg (by decide)]
          refine zL (α := Int32 → zq_M → Option zq_M) (fun (q : zq_M × (Nat → Bool)) r g => g (zn r) q.1) (fun r q => zf1 88 M q.1 ∧ (∀ x, x < 4 ^ S 0 0 → q.1.1 88 x = if q.2 x = true then 1 else 0) ∧ zJ (S 0 0) (fun a p r => V a && zp_may (S 0 0) B a p r) (fun a p r v => True) k p r (fun x v => q.2 x = true)) (fun o => ∃ M1, o = some M1 ∧ zrF M M1 ∧ zrI (S 0 0) w0 B M1 (d + 1)) 4 ?_ ?_ N 0 (M3, V3) (by omega) (by omega) ⟨c1, c2, c3⟩
          · rintro g3 r ⟨M4, V4⟩ hr ⟨b1, b2, b3⟩ ih3
            dsimp only at b1 b2 b3 ih3 ⊢
            have G4 : zyGM M4 S P B := zyGM_fr (fun k hk => by rw [b1.2 69 (by omega)]) (fun c hc => b1.2 c (by omega)) hG
            have q3 : (zn r : Int32) + 1 = zn (r + 1) := zn_add _ 1
            unfold b_X11_goOn_54
            rw [zl_4, if_neg (by rw [zn_le (by omega) (by omega)]; omega), zy_mcM (by omega) G4.1.1 hn G4.2.2.2 (by omega) hp hr, q3]
            simp only [Option.bind_some]
            cases hmay : zp_may (S 0 0) B k p r with
            | false =>
              rw [if_pos (by rfl)]
              exact ih3 (M4, V4) ⟨b1, b2, zJ_no b3 (by simp [hmay])⟩
            | true =>
              rw [if_neg (by decide), zy_mvM N M4 (by omega) hr (by omega)]
              have hmv := zp_mlt hn hk hp hr
              simp only [Option.bind_some, zq_b, zt_nar1]
              rw [zn_ck (by omega) (by omega), zn_ix (by omega)]
              refine ih3 (_, fun x => if x = zp_mv k p r then true else V4 x) ⟨zf1_u b1, fun x hx => ?_, zJ_yes b3 hp hr (by simp [hmay, hVk]) (fun x v => ?_)⟩
              · show (zq_u1 M4 88 (zp_mv k p r) 1).1 88 x = if (if x = zp_mv k p r then true else V4 x) = true then 1 else 0
                rw [zq_g1]
                by_cases e : x = zp_mv k p r
                · rw [if_pos ⟨rfl, e⟩, if_pos e]; rfl
                · rw [if_neg (fun h => e h.2), if_neg e]; exact b2 x hx
              · dsimp only
                by_cases e : x = zp_mv k p r
                · rw [if_pos e]; simp [e]
                · rw [if_neg e]
                  constructor
                  · intro h; exact Or.inl h
                  · rintro (h | ⟨h, -⟩)
                    · exact h
                    · exact absurd h.symm e
          · rintro g3 ⟨M4, V4⟩ ⟨b1, b2, b3⟩
            dsimp only at b1 b2 b3 ⊢
            unfold b_X11_goOn_54
            rw [zl_4, if_pos (by rw [zn_le (by omega) (by omega)]; omega), zl_1, zn_add]
            exact ih2 (M4, V4) ⟨b1, b2, zJ_p b3⟩
      · rintro g2 ⟨M3, V3⟩ ⟨c1, c2, c3⟩
        dsimp only at c1 c2 c3 ⊢
        unfold b_X11_goOn_35
        rw [c1.2 69 (by omega), hG.1.1, if_pos (by rw [zn_le (by omega) (by omega)]; omega), zl_1, zn_add]
        exact ih1 (M3, V3) ⟨c1, c2, zJ_a c3⟩
    · rintro g1 ⟨M2, V2⟩ ⟨e1, e2, e3⟩
      dsimp only at e1 e2 e3 ⊢
      unfold b_X11_goOn_25 k_X11_goOn_100_4
      rw [zy_plsM hS (by rw [e1.2 69 (by omega)]; exact hG.1.1)]
      simp only [Option.bind_some]
      rw [if_pos (by rw [zn_le (by omega) (by omega)]; omega)]
      have F2 : zrF M M2 := ⟨e1.1, fun c hc => e1.2 c (by omega)⟩
      refine zL (α := Int32 → zq_M → Option zq_M) (fun (M1 : zq_M) k g => g (zn k) M1) (fun k M1 => zf1 87 M2 M1 ∧ ∀ a, a < k → M1.1 87 a = if V2 a = true then 1 else 0) (fun o => ∃ M1, o = some M1 ∧ zrF M M1 ∧ zrI (S 0 0) w0 B M1 (d + 1)) (4 ^ S 0 0) ?_ ?_ N 0 M2 (by omega) (by omega) ⟨zf1_r _ _, fun a ha => by omega⟩
      · intro g k M3 hk ⟨c1, c2⟩ ih
        unfold b_X11_goOn_102
        rw [zy_plsM hS (by rw [c1.2 69 (by omega), e1.2 69 (by omega)]; exact hG.1.1)]
        simp only [Option.bind_some, zq_b]
        rw [if_neg (by rw [zn_le (by omega) (by omega)]; omega), zn_ck (by omega) (by omega), zn_ck (by omega) (by omega), zn_ix (by omega), c1.2 88 (by omega), e2 k hk, zt_nar, zl_1, zn_add]
        refine ih _ ⟨zf1_u c1, fun a ha => ?_⟩
        rw [zq_g1]
        by_cases e : a = k
        · rw [if_pos ⟨rfl, e⟩, e]; rfl
        · rw [if_neg (fun h => e h.2)]; exact c2 a (by omega)
      · intro g M3 ⟨c1, c2⟩
        unfold b_X11_goOn_102
        rw [zy_plsM hS (by rw [c1.2 69 (by omega), e1.2 69 (by omega)]; exact hG.1.1)]
        simp only [Option.bind_some]
        rw [if_pos (by rw [zn_le (by omega) (by omega)]; omega)]
        refine ⟨M3, rfl, zrF_t F2 ⟨c1.1, fun c hc => c1.2 c (by omega)⟩, V2, c2, fun a ha => ?_⟩
        have e3' := e3 a 0
        dsimp only at e3'
        rw [e3']
        constructor
        · rintro ⟨a1, p1, r1, h1, h2, h3, h4, h5, -⟩
          simp only [Bool.and_eq_true] at h4
          exact ⟨a1, p1, r1, by omega, h1, h2, (hR a1 (by omega)).mp h4.1, h4.2, h5⟩
        · rintro ⟨a1, p1, r1, h1, h2, h3, h4, h5, h6⟩
          refine ⟨a1, p1, r1, h2, h3, by omega, ?_, h6, trivial⟩
          simp only [Bool.and_eq_true]
          exact ⟨(hR a1 h1).mpr h4, h5⟩
theorem zr_can {N w0 d p r g : Nat} {M : zq_M} {S : Nat → Nat → Nat} {P : Nat → Nat → Nat → Nat} {B : Nat → Nat → Nat → Bool} (hN : 1100 < N) (hS : zyB S) (hG : zyGM M S P B) (hI : zrI (S 0 0) w0 B M d) (hp : p < S 0 0) (hr : r < 3) (hg : g < 100000) : ∃ b : Bool, f_X11_canSpeak N M (zn p) (zn r) (zn g) = some (if b = true then 1 else 0) ∧ (b = true ↔ ∃ a, a < 4 ^ S 0 0 ∧ zR (S 0 0) w0 B d a ∧ zU S a r g p = true) := by
  have hn := hS.1
  have h4n := zs_p4 hn
  have h4p : 0 < 4 ^ S 0 0 := Nat.pow_pos (by omega)
  obtain ⟨V, hV, hR⟩ := hI
  refine ⟨zs_any (fun a => V a && zU S a r g p) (4 ^ S 0 0), ?_, ?_⟩
  · unfold f_X11_canSpeak
    refine zL (α := Int32 → Option Int32) (fun (_ : Unit) k g => g (zn k)) (fun k _ => zs_any (fun a => V a && zU S a r g p) k = false) (fun o => o = some (if zs_any (fun a => V a && zU S a r g p) (4 ^ S 0 0) = true then 1 else 0)) (4 ^ S 0 0) ?_ ?_ N 0 () (by omega) (by omega) rfl
    · intro f k _ hk hW ih
      have ih := ih ()
      have hms := zy_msM (N := N) (p := p) (g := g) (a := k) (by omega) hS hG.1 hG.2.1 (by omega) hp hg
      unfold b_X11_canSpeak_3
      rw [zy_plsM hS hG.1.1, hms, zy_plM N M (by omega) (by omega)]
      simp only [Option.bind_some]
      have q3 : (zn k : Int32) + 1 = zn (k + 1) := zn_add _ 1
      rw [if_neg (by rw [zn_le (by omega) (by omega)]; omega), zn_ck (by omega) (by omega), zn_ix (by omega), hV k hk, q3]
      cases hVk : V k with
      | false =>
        rw [if_pos (by rfl)]
        exact ih (zs_any_f hW (by simp [hVk]))
      | true =>
        rw [if_neg (by decide)]
        have g2 : (zn (k / 4 ^ p % 4) = zn r) = (k / 4 ^ p % 4 = r) := zn_eq (by omega) (by omega)
        simp only [g2]
        by_cases c : k / 4 ^ p % 4 = r
        · rw [if_neg (fun h => h c), c]
          have hz : (decide (r < 3) && zk_sp S r (fun q => k / 4 ^ q % 4 == r) g p) = zU S k r g p := rfl
          rw [hz]
          cases hu : zU S k r g p with
          | false =>
            rw [if_pos (by rfl)]
            exact ih (zs_any_f hW (by simp [hu]))
          | true =>
            rw [if_neg (by decide)]
            have : zs_any (fun a => V a && zU S a r g p) (4 ^ S 0 0) = true := zs_any_iff.mpr ⟨k, hk, by simp [hVk, hu]⟩
            rw [if_pos this]
        · rw [if_pos c]
          refine ih (zs_any_f hW ?_)
          have : zU S k r g p = false := by
            unfold zU zk_sp
            simp [c]
          simp [this]
    · intro f _ hW
      unfold b_X11_canSpeak_3
      rw [zy_plsM hS hG.1.1]
      simp only [Option.bind_some]
      rw [if_pos (by rw [zn_le (by omega) (by omega)]; omega), if_neg (by rw [hW]; decide)]
  · rw [zs_any_iff]
    constructor
    · rintro ⟨k, h1, h2⟩
      simp only [Bool.and_eq_true] at h2
      exact ⟨k, h1, (hR k h1).mp h2.1, h2.2⟩
    · rintro ⟨k, h1, h2, h3⟩
      refine ⟨k, h1, ?_⟩
      simp only [Bool.and_eq_true]
      exact ⟨(hR k h1).mpr h2, h3⟩
