theorem zw_take {N j n md d st : Nat} {X : zq_M} {L V : Nat → Nat} (hN : 1100 < N) (hn : n ≤ 5) (hw : zwS n X md d st L) (hV : ∀ x, x < 1024 → X.1 43 x = zn (V x)) (hVl : ∀ x, V x ≤ zINF) : ∃ (X1 : zq_M) (b : Nat), f_X9_takeNext N j X = some (zn b, X1) ∧ zf1 42 X X1 ∧ (∀ a, a < 4 ^ n → X1.1 42 a = zn (V a)) ∧ (∀ a, 4 ^ n ≤ a → X1.1 42 a = X.1 42 a) ∧ b < 2 ∧ (b = 0 ↔ ∀ a, a < 4 ^ n → L a = V a) := by
  have h4n := zs_p4 hn
  have hinf : zINF = 1073741824 := rfl
  have h4p : 0 < 4 ^ n := Nat.pow_pos (by omega)
  unfold f_X9_takeNext
  refine zL (α := Int32 → Int32 → zq_M → Option (Int32 × zq_M)) (fun (q : zq_M × Nat) k g => g (zn q.2) (zn k) q.1) (fun k q => zf1 42 X q.1 ∧ (∀ a, a < k → q.1.1 42 a = zn (V a)) ∧ (∀ a, k ≤ a → q.1.1 42 a = X.1 42 a) ∧ q.2 < 2 ∧ (q.2 = 0 ↔ ∀ a, a < k → L a = V a)) (fun o => ∃ (X1 : zq_M) (b : Nat), o = some (zn b, X1) ∧ zf1 42 X X1 ∧ (∀ a, a < 4 ^ n → X1.1 42 a = zn (V a)) ∧ (∀ a, 4 ^ n ≤ a → X1.1 42 a = X.1 42 a) ∧ b < 2 ∧ (b = 0 ↔ ∀ a, a < 4 ^ n → L a = V a)) (4 ^ n) ?_ ?_ N 0 (X, 0) (by omega) (by omega) ⟨zf1_r _ _, fun a ha => by omega, fun a ha => rfl, (by decide : (0 : Nat) < 2), ⟨fun _ a ha => by omega, fun _ => rfl⟩⟩
  · rintro g k ⟨X1, b⟩ hk ⟨f1, f2, f3, f4, f5⟩ ih
    dsimp only at f1 f2 f3 f4 f5 ih ⊢
    have l1 := hw.2.2.2.2.2 k
    have l2 := hVl k
    have e42 : X1.1 42 k = zn (L k) := by rw [f3 k (by omega)]; exact hw.2.2.2.2.1 k (by omega)
    have e43 : X1.1 43 k = zn (V k) := by rw [f1.2 43 (by omega)]; exact hV k (by omega)
    have g1 : (zn (4 ^ n) ≤ zn k) = (4 ^ n ≤ k) := zn_le (by omega) (by omega)
    have g2 : (zn (L k) = zn (V k)) = (L k = V k) := zn_eq (by omega) (by omega)
    have g3 : (zn k : Int32) + 1 = zn (k + 1) := zn_add _ 1
    unfold b_X9_takeNext_4 j_X9_takeNext_33
    rw [f1.2 41 (by omega), hw.1]
    repeat rw [zn_ck (a := k) (by omega) (by omega)]
    rw [zn_ix (by omega), e42, e43]
    simp only [g1, g2, g3, zq_b]
    rw [if_neg (by omega)]
    have fin : ∀ b1 : Nat, b1 < 2 → (b1 = 0 ↔ b = 0 ∧ L k = V k) → ∃ (X2 : zq_M) (b : Nat), g (zn b1) (zn (k + 1)) (zq_u1 X1 42 k (zn (V k))) = some (zn b, X2) ∧ zf1 42 X X2 ∧ (∀ a, a < 4 ^ n → X2.1 42 a = zn (V a)) ∧ (∀ a, 4 ^ n ≤ a → X2.1 42 a = X.1 42 a) ∧ b < 2 ∧ (b = 0 ↔ ∀ a, a < 4 ^ n → L a = V a) := by
      intro b1 hb1 hb2
      refine ih (zq_u1 X1 42 k (zn (V k)), b1) ⟨zf1_u f1, fun a ha => ?_, fun a ha => ?_, hb1, ?_⟩
      · show (zq_u1 X1 42 k (zn (V k))).1 42 a = _
        rw [zq_g1]
        by_cases e : a = k
        · rw [if_pos ⟨rfl, e⟩, e]
        · rw [if_neg (fun h => e h.2)]; exact f2 a (by omega)
      · show (zq_u1 X1 42 k (zn (V k))).1 42 a = _
        rw [zq_us1 (by omega)]; exact f3 a (by omega)
      · rw [hb2, f5]
        constructor
        · rintro ⟨h1, h2⟩ a ha
          by_cases e : a = k
          · rw [e]; exact h2
          · exact h1 a (by omega)
        · intro h
          exact ⟨fun a ha => h a (by omega), h k (by omega)⟩
    by_cases c : L k = V k
    · rw [if_pos c, zl_0, zn_or, Nat.or_zero]
      exact fin b f4 ⟨fun h => ⟨h, c⟩, fun h => h.1⟩
    · rw [if_neg c]
      have : zn b ||| (1 : Int32) = zn 1 := by
        have : b = 0 ∨ b = 1 := by omega
        rcases this with rfl | rfl <;> rfl
      rw [this]
      exact fin 1 (by omega) ⟨fun h => by omega, fun h => absurd h.2 c⟩
  · rintro g ⟨X1, b⟩ ⟨f1, f2, f3, f4, f5⟩
    dsimp only at f1 f2 f3 f4 f5 ⊢
    unfold b_X9_takeNext_4
    rw [f1.2 41 (by omega), hw.1, if_pos (by rw [zn_le (by omega) (by omega)]; omega)]
    have : zq_gz (zn b) (some (zn b, X1)) = some (zn b, X1) := by
      have : b = 0 ∨ b = 1 := by omega
      rcases this with rfl | rfl <;> rfl
    rw [this]
    exact ⟨X1, b, rfl, f1, f2, f3, f4, f5⟩
theorem zw_goOn {N j h md d : Nat} {X : zq_M} {S : Nat → Nat → Nat} {P : Nat → Nat → Nat → Nat} {B : Nat → Nat → Nat → Bool} (hN : 1100 < N) (hS : zyB S) (hG : zyGX j X S h P B) (hP : ∀ p r m, P p r m ≤ 1001) (hm : md < 2) (hd : d < 100) (hI : zwI (S 0 0) (zv_pk (S 3)) B P md X d) : ∃ X1, f_X9_goOn N j X = some X1 ∧ zwF X X1 ∧ zwI (S 0 0) (zv_pk (S 3)) B P md X1 (d + 1) := by
  have hn := hS.1
  have h4n := zs_p4 hn
  have h4p : 0 < 4 ^ S 0 0 := Nat.pow_pos (by omega)
  have hinf : zINF = 1073741824 := rfl
  have hwl := zy_wln hS
  obtain ⟨L, st, hw, hL, hst, hst2⟩ := hI
  have g3 : (zn d : Int32) + 1 = zn (d + 1) := zn_add _ 1
  unfold f_X9_goOn
  rw [hw.2.2.1]
  have g1 : (zn st = 0) = (st = 0) := zn_eq (b := 0) (by omega) (by omega)
  simp only [g1]
  by_cases c : st = 0
  · rw [if_neg (fun h => h c)]
    have hq : (1073741824 : Int32) = zn zINF := rfl
    rw [hq]
    obtain ⟨X3, x1, x2, x3, x4⟩ := zy_fill (N := N) (c := 43) (len := 1024) (sh := zq_shX j) (X := X) (v := zn zINF) (by omega) (by omega)
    rw [x1]
    simp only [Option.bind_some]
    have hLi : ∀ x, 4 ^ S 0 0 ≤ x → L x = zINF := by
      intro x hx
      have h1 := hw.2.2.2.2.2 x
      apply Classical.byContradiction
      intro hne
      have := zZ_x hn hwl ((hL x (L x)).mp ⟨Nat.le_refl _, by omega⟩)
      omega
    refine zL (α := Int32 → zq_M → Option zq_M) (fun (q : zq_M × (Nat → Nat)) k g => g (zn k) q.1) (fun k q => zf1 43 X q.1 ∧ (∀ x, x < 1024 → q.1.1 43 x = zn (q.2 x)) ∧ (∀ x, q.2 x ≤ zINF) ∧ zJ (S 0 0) (fun a p r => decide (L a ≠ zINF) && zp_may (S 0 0) B a p r) (fun a p r v => zinc P (S 0 0) md d (L a) a p r ≤ v ∧ v < zINF) k 0 0 (fun x v => q.2 x ≤ v ∧ v < zINF)) (fun o => ∃ X1, o = some X1 ∧ zwF X X1 ∧ zwI (S 0 0) (zv_pk (S 3)) B P md X1 (d + 1)) (4 ^ S 0 0) ?_ ?_ N 0 (X3, fun _ => zINF) (by omega) (by omega) ⟨x2, x3, fun _ => Nat.le_refl _, zJ_0 (fun x v h => by have h1 : zINF ≤ v := h.1; have h2 := h.2; omega)⟩
    · rintro g k ⟨X1, V1⟩ hk ⟨f1, f2, f3, f4⟩ ih
      dsimp only at f1 f2 f3 f4 ih ⊢
      have w2 : zwS (S 0 0) X1 md d st L := by
        obtain ⟨a1, a2, a3, a4, a5, a6⟩ := hw
        refine ⟨by rw [f1.2 41 (by omega)]; exact a1, by rw [f1.2 41 (by omega)]; exact a2, by rw [f1.2 41 (by omega)]; exact a3, by rw [f1.2 41 (by omega)]; exact a4, fun x hx => by rw [f1.2 42 (by omega)]; exact a5 x hx, a6⟩
      have hlk := hw.2.2.2.2.2 k
      have g1 : (zn (4 ^ S 0 0) ≤ zn k) = (4 ^ S 0 0 ≤ k) := zn_le (by omega) (by omega)
      have g2 : (zn (L k) = zn zINF) = (L k = zINF) := zn_eq (by omega) (by omega)
      have g3 : (zn k : Int32) + 1 = zn (k + 1) := zn_add _ 1
      unfold b_X9_goOn_18
      rw [w2.1, zn_ck (by omega) (by omega), zn_ix (by omega), w2.2.2.2.2.1 k (by omega), hq]
      simp only [g1, g2, g3]
      rw [if_neg (by omega)]
      by_cases c2 : L k = zINF
      · rw [if_pos c2]
        exact ih (X1, V1) ⟨f1, f2, f3, zJ_skip (fun p r => by simp [c2]) f4⟩
      · rw [if_neg c2]
        obtain ⟨X2, V2, y1, y2, y3, y4, y5⟩ := zw_leave (N := N) (a := k) hN hS (zyGX_w (zwF_1 (by omega) f1) hG) hP w2 hm hd hk c2 f2 f3 f4
        rw [y1]
        simp only [Option.bind_some]
        exact ih (X2, V2) ⟨zf1_t f1 y2, y3, y4, y5⟩
    · rintro g ⟨X1, V1⟩ ⟨f1, f2, f3, f4⟩
      dsimp only at f1 f2 f3 f4 ⊢
      have w2 : zwS (S 0 0) X1 md d st L := by
        obtain ⟨a1, a2, a3, a4, a5, a6⟩ := hw
        refine ⟨by rw [f1.2 41 (by omega)]; exact a1, by rw [f1.2 41 (by omega)]; exact a2, by rw [f1.2 41 (by omega)]; exact a3, by rw [f1.2 41 (by omega)]; exact a4, fun x hx => by rw [f1.2 42 (by omega)]; exact a5 x hx, a6⟩
      unfold b_X9_goOn_18 k_X9_goOn_48_4
      rw [w2.1, if_pos (by rw [zn_le (by omega) (by omega)]; omega)]
      obtain ⟨X2, b, y1, y2, y3, y4, y5, y6⟩ := zw_take (N := N) (j := j) hN hn w2 f2 f3
      rw [y1]
      simp only [Option.bind_some, zq_p]
      have hV : ∀ x v, (V1 x ≤ v ∧ v < zINF) ↔ zZ (S 0 0) (zv_pk (S 3)) B P md (d + 1) x v := by
        intro x v
        have f4' := f4 x v
        dsimp only at f4'
        rw [f4']
        constructor
        · rintro ⟨a, p, r, h1, h2, h3, h4, h5, h6, h7⟩
          simp only [Bool.and_eq_true, decide_eq_true_eq] at h4
          have hla := hw.2.2.2.2.2 a
          exact ⟨h7, a, p, r, L a, by omega, h1, h2, (hL a (L a)).mp ⟨Nat.le_refl _, by omega⟩, h4.2, h5, h6⟩
        · rintro ⟨h0, a, p, r, u, h1, h2, h3, h4, h5, h6, h7⟩
          have hu := (hL a u).mpr h4
          refine ⟨a, p, r, h2, h3, by omega, ?_, h6, Nat.le_trans (zinc_m hu.1) h7, h0⟩
          simp only [Bool.and_eq_true, decide_eq_true_eq]
          exact ⟨by omega, h5⟩
      have hVi : ∀ x, 4 ^ S 0 0 ≤ x → V1 x = zINF := by
        intro x hx
        have h1 := f3 x
        apply Classical.byContradiction
        intro hne
        have := zZ_x hn hwl ((hV x (V1 x)).mp ⟨Nat.le_refl _, by omega⟩)
        omega
      have e42 : ∀ a, a < 1024 → X2.1 42 a = zn (V1 a) := by
        intro a ha
        by_cases e : a < 4 ^ S 0 0
        · exact y3 a e
        · rw [y4 a (by omega), w2.2.2.2.2.1 a ha, hLi a (by omega), hVi a (by omega)]
      have e41 : ∀ k, X2.1 41 k = X1.1 41 k := fun k => by rw [y2.2 41 (by omega)]
      have fin : ∀ st1 : Nat, st1 < 2 → (st1 ≠ 0 → b = 0) → ∃ X1_1, j_X9_goOn_61 X2 (zn st1) = some X1_1 ∧ zwF X X1_1 ∧ zwI (S 0 0) (zv_pk (S 3)) B P md X1_1 (d + 1) := by
        intro st1 hs1 hs2
        unfold j_X9_goOn_61 j_X9_goOn_64
        have hgz : ∀ o : Option zq_M, zq_gz (zn st1) o = o := by
          intro o
          have : st1 = 0 ∨ st1 = 1 := by omega
          rcases this with rfl | rfl <;> rfl
        rw [hgz]
        simp only [zq_b]
        have e5 : (zq_u1 X2 41 6 (zn st1)).1 41 5 + 1 = zn (d + 1) := by rw [zq_us1 (by omega), e41, w2.2.1]; exact g3
        rw [e5]
        refine ⟨_, rfl, zwF_u (by omega) (zwF_u (by omega) (zwF_t (zwF_1 (by omega) f1) (zwF_1 (by omega) y2))), V1, st1, ⟨?_, ?_, ?_, ?_, ?_, f3⟩, hV, ?_, hs1⟩
        · rw [zq_us1 (by omega), zq_us1 (by omega), e41]; exact w2.1
        · rw [zq_g1, if_pos ⟨rfl, rfl⟩]
        · rw [zq_us1 (by omega), zq_g1, if_pos ⟨rfl, rfl⟩]
        · rw [zq_us1 (by omega), zq_us1 (by omega), e41]; exact w2.2.2.2.1
        · intro a ha
          rw [zq_un (by omega), zq_un (by omega)]; exact e42 a ha
        · intro hne
          have hb := y6.mp (hs2 hne)
          have hall : ∀ x, L x = V1 x := by
            intro x
            by_cases e : x < 4 ^ S 0 0
            · exact hb x e
            · rw [hLi x (by omega), hVi x (by omega)]
          refine zZ_set hwl hn (fun x v => ?_)
          rw [← hV x v, ← hL x v, hall x]
      by_cases c2 : b = 0
      · rw [if_neg (by rw [c2]; decide)]
        exact fin 1 (by omega) (fun _ => c2)
      · have hb1 : b = 1 := by omega
        rw [if_pos (by rw [hb1]; decide)]
        exact fin 0 (by omega) (fun h => absurd rfl h)
  · rw [if_pos c]
    unfold j_X9_goOn_64
    simp only [zq_b]
    rw [hw.2.1, g3]
    have hs := hst c
    refine ⟨_, rfl, zwF_u (by omega) ⟨rfl, fun _ _ => rfl⟩, L, st, ⟨?_, ?_, ?_, ?_, ?_, hw.2.2.2.2.2⟩, ?_, fun _ => zZ_set hwl hn hs, hst2⟩
    · rw [zq_us1 (by omega)]; exact hw.1
    · rw [zq_g1, if_pos ⟨rfl, rfl⟩]
    · rw [zq_us1 (by omega)]; exact hw.2.2.1
    · rw [zq_us1 (by omega)]; exact hw.2.2.2.1
    · intro a ha; rw [zq_un (by omega)]; exact hw.2.2.2.2.1 a ha
    · intro x v; rw [hs x v]; exact hL x v
