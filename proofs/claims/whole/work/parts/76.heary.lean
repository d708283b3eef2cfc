def zeM (S : Nat → Nat → Nat) (B : Nat → Nat → Nat → Bool) (s0 : Nat) (X : zq_M) (d : Nat) : Prop := X.1 45 6 = zn (4 ^ S 0 0) ∧ ∃ K : Nat → Nat, (∀ a, a < 1024 → X.1 46 a = zn (K a)) ∧ (∀ a, K a < 4294967296) ∧ ∀ a s, a < 4 ^ S 0 0 → (zs_bit (K a) s = true ↔ zKm S B s0 d a s)
def zeK (S : Nat → Nat → Nat) (B : Nat → Nat → Nat → Bool) (s0 : Nat) (X : zq_M) (d : Nat) : Prop := X.1 45 6 = zn (4 ^ S 0 0) ∧ ∃ K : Nat → Nat, (∀ a, a < 1024 → X.1 46 a = zn (K a)) ∧ (∀ a, K a < 4294967296) ∧ ∀ a s, a < 4 ^ S 0 0 → (zs_bit (K a) s = true ↔ zK S B s0 d a s)
theorem zs_b0 (s : Nat) : zs_bit 0 s = false := by rw [zs_bt]; simp
theorem ze_all {N j h d W s0 : Nat} {X : zq_M} {S : Nat → Nat → Nat} {P : Nat → Nat → Nat → Nat} {B : Nat → Nat → Nat → Bool} (hN : 1100 < N) (hS : zyB S) (hG : zyGX j X S h P B) (hT : zeT S X d) (h0 : s0 < 2 ^ S 0 0) (hM : zeM S B s0 X d) (hW : W < 4294967296) : ∃ (X1 : zq_M) (b : Nat), f_X1_sayAll N j X (zn W) = some (zn b, X1) ∧ (X1.2 = X.2 ∧ ∀ c, c ≠ 46 ∧ c ≠ 49 ∧ c ≠ 50 → X1.1 c = X.1 c) ∧ zeK S B s0 X1 d ∧ b < 2 ∧ (b = 1 ↔ ∃ a s, a < 4 ^ S 0 0 ∧ zK S B s0 d a s ∧ zs_bit W s = true) := by
  have hn := hS.1
  have h32 := zs_p2 hn
  have h4n := zs_p4 hn
  have h4p : 0 < 4 ^ S 0 0 := Nat.pow_pos (by omega)
  obtain ⟨h45, K, k1, k2, k3⟩ := hM
  have hnd : ∀ a, a < 4 ^ S 0 0 → K a = 0 → ∀ s, ¬ zK S B s0 d a s := by
    intro a ha hz s hh
    obtain ⟨s1, w1, -⟩ := zK_m.mp hh
    have := (k3 a s1 ha).mpr w1
    rw [hz, zs_b0] at this; cases this
  unfold f_X1_sayAll
  refine zL (α := Int32 → Int32 → zq_M → Option (Int32 × zq_M)) (fun (q : zq_M × (Nat → Nat) × Nat) k g => g (zn q.2.2) (zn k) q.1) (fun k q => (q.1.2 = X.2 ∧ ∀ c, c ≠ 46 ∧ c ≠ 49 ∧ c ≠ 50 → q.1.1 c = X.1 c) ∧ (∀ a, a < 1024 → q.1.1 46 a = zn (q.2.1 a)) ∧ (∀ a, q.2.1 a < 4294967296) ∧ (∀ a, k ≤ a → q.2.1 a = K a) ∧ (∀ a s, a < k → (zs_bit (q.2.1 a) s = true ↔ zK S B s0 d a s)) ∧ q.2.2 < 2 ∧ (q.2.2 = 1 ↔ ∃ a s, a < k ∧ zK S B s0 d a s ∧ zs_bit W s = true)) (fun o => ∃ (X1 : zq_M) (b : Nat), o = some (zn b, X1) ∧ (X1.2 = X.2 ∧ ∀ c, c ≠ 46 ∧ c ≠ 49 ∧ c ≠ 50 → X1.1 c = X.1 c) ∧ zeK S B s0 X1 d ∧ b < 2 ∧ (b = 1 ↔ ∃ a s, a < 4 ^ S 0 0 ∧ zK S B s0 d a s ∧ zs_bit W s = true)) (4 ^ S 0 0) ?_ ?_ N 0 (X, K, 0) (by omega) (by omega) ⟨⟨rfl, fun _ _ => rfl⟩, k1, k2, fun a _ => rfl, fun a s ha => by omega, (by decide : (0 : Nat) < 2), ⟨fun h => (by cases h), fun ⟨a, s, h, _⟩ => by omega⟩⟩
  · rintro g k ⟨X1, K1, b⟩ hk ⟨f1, f2, f3, f4, f5, f6, f7⟩ ih
    dsimp only at f1 f2 f3 f4 f5 f6 f7 ih ⊢
    have G1 : zyGX j X1 S h P B := zyGX_fr f1.1 (fun c hc => f1.2 c (by omega)) hG
    have T1 : zeT S X1 d := fun r t hr ht => by rw [f1.2 48 (by omega)]; exact hT r t hr ht
    have q3 : (zn k : Int32) + 1 = zn (k + 1) := zn_add _ 1
    have e46 := f2 k (by omega)
    have gz := zn_z32 (f3 k)
    have hKk := f4 k (Nat.le_refl _)
    unfold b_X1_sayAll_4
    rw [f1.2 45 (by omega), h45, if_neg (by rw [zn_le (by omega) (by omega)]; omega), zn_ck (by omega) (by omega), zn_ix (by omega), e46, q3]
    simp only [gz]
    by_cases c : K1 k = 0
    · rw [if_pos c]
      have hno := hnd k hk (by rw [← hKk]; exact c)
      refine ih (X1, K1, b) ⟨f1, f2, f3, fun a ha => f4 a (by omega), fun a s ha => ?_, f6, ?_⟩
      · by_cases e : a = k
        · subst e
          show zs_bit (K1 a) s = true ↔ _
          rw [c, zs_b0]
          exact ⟨fun h => (by cases h), fun h => absurd h (hno s)⟩
        · exact f5 a s (by omega)
      · dsimp only
        rw [f7]
        constructor
        · rintro ⟨a, s, h1, h2⟩; exact ⟨a, s, by omega, h2⟩
        · rintro ⟨a, s, h1, h2, h3⟩
          by_cases e : a = k
          · subst e; exact absurd h2 (hno s)
          · exact ⟨a, s, by omega, h2, h3⟩
    · rw [if_neg c]
      obtain ⟨X2, R, y1, y2, y3, y4⟩ := ze_said (N := N) hN hS G1 T1 hk e46
      rw [y1]
      simp only [Option.bind_some, zq_p, zq_b]
      have eu : (zq_u1 X2 46 k (zn R)).1 46 k = zn R := by rw [zq_g1, if_pos ⟨rfl, rfl⟩]
      rw [zn_ck (by omega) (by omega), zn_ck (by omega) (by omega), eu, zn_and]
      have hR : ∀ t, zs_bit R t = true ↔ zK S B s0 d k t := by
        intro t
        rw [y4 t, zK_m]
        constructor
        · rintro ⟨s, h1, h2, h3⟩
          rw [hKk] at h2
          exact ⟨s, (k3 k s hk).mp h2, h3⟩
        · rintro ⟨s, h1, h2⟩
          refine ⟨s, zKm_l h0 h1, ?_, h2⟩
          rw [hKk]; exact (k3 k s hk).mpr h1
      have hand : R &&& W < 4294967296 := Nat.and_lt_two_pow (n := 32) _ hW
      have gw := zn_z32 hand
      have hiff : (R &&& W = 0) ↔ ¬ ∃ s, zK S B s0 d k s ∧ zs_bit W s = true := by
        rw [zs_and0 (n := 32) y3]
        constructor
        · rintro h ⟨s, h1, h2⟩
          have := zK_l h1
          exact h s (by omega) ⟨(hR s).mpr h1, h2⟩
        · rintro h s hs ⟨h1, h2⟩
          exact h ⟨s, (hR s).mp h1, h2⟩
      simp only [gw]
      have fin : ∀ b1 : Nat, b1 < 2 → (b1 = 1 ↔ b = 1 ∨ ∃ s, zK S B s0 d k s ∧ zs_bit W s = true) → ∃ (X1_1 : zq_M) (b : Nat), g (zn b1) (zn (k + 1)) (zq_u1 X2 46 k (zn R)) = some (zn b, X1_1) ∧ (X1_1.2 = X.2 ∧ ∀ c, c ≠ 46 ∧ c ≠ 49 ∧ c ≠ 50 → X1_1.1 c = X.1 c) ∧ zeK S B s0 X1_1 d ∧ b < 2 ∧ (b = 1 ↔ ∃ a s, a < 4 ^ S 0 0 ∧ zK S B s0 d a s ∧ zs_bit W s = true) := by
        intro b1 hb1 hb2
        refine ih (zq_u1 X2 46 k (zn R), (fun x => if x = k then R else K1 x), b1) ⟨⟨y2.1.trans f1.1, fun c hc => ?_⟩, fun a ha => ?_, fun a => ?_, fun a ha => ?_, fun a s ha => ?_, hb1, ?_⟩
        · show (zq_u1 X2 46 k (zn R)).1 c = _
          rw [zq_un (by omega), y2.2 c (by omega)]; exact f1.2 c hc
        · show (zq_u1 X2 46 k (zn R)).1 46 a = zn (if a = k then R else K1 a)
          rw [zq_g1]
          by_cases e : a = k
          · rw [if_pos ⟨rfl, e⟩, if_pos e]
          · rw [if_neg (fun h => e h.2), if_neg e, y2.2 46 (by omega)]; exact f2 a ha
        · dsimp only
          split
          · exact y3
          · exact f3 a
        · dsimp only
          rw [if_neg (by omega)]; exact f4 a (by omega)
        · dsimp only
          by_cases e : a = k
          · rw [if_pos e, e]; exact hR s
          · rw [if_neg e]; exact f5 a s (by omega)
        · dsimp only
          rw [hb2, f7]
          constructor
          · rintro (⟨a, s, h1, h2⟩ | ⟨s, h1⟩)
            · exact ⟨a, s, by omega, h2⟩
            · exact ⟨k, s, by omega, h1⟩
          · rintro ⟨a, s, h1, h2⟩
            by_cases e : a = k
            · subst e; exact Or.inr ⟨s, h2⟩
            · exact Or.inl ⟨a, s, by omega, h2⟩
      by_cases c2 : R &&& W = 0
      · rw [if_pos c2, zl_0, zn_or, Nat.or_zero]
        exact fin b f6 ⟨fun h => Or.inl h, fun h => h.elim id (fun h => absurd h (hiff.mp c2))⟩
      · rw [if_neg c2]
        have : zn b ||| (1 : Int32) = zn 1 := by
          have : b = 0 ∨ b = 1 := by omega
          rcases this with rfl | rfl <;> rfl
        rw [this]
        refine fin 1 (by omega) ⟨fun _ => Or.inr ?_, fun _ => rfl⟩
        apply Classical.byContradiction
        intro h
        exact c2 (hiff.mpr h)
  · rintro g ⟨X1, K1, b⟩ ⟨f1, f2, f3, f4, f5, f6, f7⟩
    dsimp only at f1 f2 f3 f4 f5 f6 f7 ⊢
    unfold b_X1_sayAll_4
    rw [f1.2 45 (by omega), h45, if_pos (by rw [zn_le (by omega) (by omega)]; omega)]
    have : zq_gz (zn b) (some (zn b, X1)) = some (zn b, X1) := by
      have : b = 0 ∨ b = 1 := by omega
      rcases this with rfl | rfl <;> rfl
    rw [this]
    exact ⟨X1, b, rfl, f1, ⟨by rw [f1.2 45 (by omega)]; exact h45, K1, f2, f3, fun a s ha => f5 a s ha⟩, f6, f7⟩
theorem za_n {ρ : Type} {m : Nat} (hm : m ≤ 1024) (o : Option ρ) : zq_ac 0 0 (zn m) 1024 1024 o = o := by
  unfold zq_ac
  have h1 : (zn m).toNatClampNeg = m := zn_ix (by omega)
  have h2 : ((0 : Int32).toNatClampNeg) = 0 := rfl
  have h3 : ¬ (zn m < 0) := by rw [zl_0, zn_lt (by omega) (by omega)]; omega
  have h4 : ¬ ((0 : Int32) < 0) := by decide
  rw [if_neg]
  rw [h1, h2]
  rintro (h | h | h | h | h)
  · exact h4 h
  · exact h4 h
  · exact h3 h
  · omega
  · omega
theorem ze_leave {N j h a : Nat} {X : zq_M} {S : Nat → Nat → Nat} {K V : Nat → Nat} {P : Nat → Nat → Nat → Nat} {B : Nat → Nat → Nat → Bool} (hN : 1100 < N) (hS : zyB S) (hG : zyGX j X S h P B) (ha : a < 4 ^ S 0 0) (hK : X.1 46 a = zn (K a)) (hKn : K a ≠ 0) (hV : ∀ x, x < 1024 → X.1 47 x = zn (V x)) (hVl : ∀ x, V x < 4294967296) (hKl : ∀ x, K x < 4294967296) (hJ : zJ (S 0 0) (fun a p r => decide (K a ≠ 0) && zp_may (S 0 0) B a p r) (fun a p r v => zs_bit (K a) v = true) a 0 0 (fun x v => zs_bit (V x) v = true)) : ∃ (X1 : zq_M) (V1 : Nat → Nat), f_X1_leave N j X (zn a) = some X1 ∧ zf1 47 X X1 ∧ (∀ x, x < 1024 → X1.1 47 x = zn (V1 x)) ∧ (∀ x, V1 x < 4294967296) ∧ zJ (S 0 0) (fun a p r => decide (K a ≠ 0) && zp_may (S 0 0) B a p r) (fun a p r v => zs_bit (K a) v = true) (a + 1) 0 0 (fun x v => zs_bit (V1 x) v = true) := by
  have hn := hS.1
  have h4n := zs_p4 hn
  unfold f_X1_leave
  refine zL (α := Int32 → zq_M → Option zq_M) (fun (q : zq_M × (Nat → Nat)) k g => g (zn k) q.1) (fun k q => zf1 47 X q.1 ∧ (∀ x, x < 1024 → q.1.1 47 x = zn (q.2 x)) ∧ (∀ x, q.2 x < 4294967296) ∧ zJ (S 0 0) (fun a p r => decide (K a ≠ 0) && zp_may (S 0 0) B a p r) (fun a p r v => zs_bit (K a) v = true) a k 0 (fun x v => zs_bit (q.2 x) v = true)) (fun o => ∃ (X1 : zq_M) (V1 : Nat → Nat), o = some X1 ∧ zf1 47 X X1 ∧ (∀ x, x < 1024 → X1.1 47 x = zn (V1 x)) ∧ (∀ x, V1 x < 4294967296) ∧ zJ (S 0 0) (fun a p r => decide (K a ≠ 0) && zp_may (S 0 0) B a p r) (fun a p r v => zs_bit (K a) v = true) (a + 1) 0 0 (fun x v => zs_bit (V1 x) v = true)) (S 0 0) ?_ ?_ N 0 (X, V) (by omega) (by omega) ⟨zf1_r _ _, hV, hVl, hJ⟩
  · rintro g p ⟨X1, V1⟩ hp ⟨f1, f2, f3, f4⟩ ih
    dsimp only at f1 f2 f3 f4 ih ⊢
    unfold b_X1_leave_2
    rw [f1.2 1 (by omega), hG.1.1, if_neg (by rw [zn_le (by omega) (by omega)]; omega)]
    refine zL (α := Int32 → zq_M → Option zq_M) (fun (q : zq_M × (Nat → Nat)) k g => g (zn k) q.1) (fun k q => zf1 47 X q.1 ∧ (∀ x, x < 1024 → q.1.1 47 x = zn (q.2 x)) ∧ (∀ x, q.2 x < 4294967296) ∧ zJ (S 0 0) (fun a p r => decide (K a ≠ 0) && zp_may (S 0 0) B a p r) (fun a p r v => zs_bit (K a) v = true) a p k (fun x v => zs_bit (q.2 x) v = true)) (fun o => ∃ (X1 : zq_M) (V1 : Nat → Nat), o = some X1 ∧ zf1 47 X X1 ∧ (∀ x, x < 1024 → X1.1 47 x = zn (V1 x)) ∧ (∀ x, V1 x < 4294967296) ∧ zJ (S 0 0) (fun a p r => decide (K a ≠ 0) && zp_may (S 0 0) B a p r) (fun a p r v => zs_bit (K a) v = true) (a + 1) 0 0 (fun x v => zs_bit (V1 x) v = true)) 4 ?_ ?_ N 0 (X1, V1) (by omega) (by omega) ⟨f1, f2, f3, f4⟩
    · rintro g2 r ⟨X2, V2⟩ hr ⟨e1, e2, e3, e4⟩ ih2
      dsimp only at e1 e2 e3 e4 ih2 ⊢
      have G2 : zyGX j X2 S h P B := zyGX_e (zeF_1 (by omega) e1) hG
      have g3 : (zn r : Int32) + 1 = zn (r + 1) := zn_add _ 1
      unfold b_X1_leave_18
      rw [zl_4, if_neg (by rw [zn_le (by omega) (by omega)]; omega), zy_mcX G2.1.1 hn G2.2.2.2 (by omega) hp hr, g3]
      simp only [Option.bind_some]
      cases hmay : zp_may (S 0 0) B a p r with
      | false =>
        rw [if_pos (by rfl)]
        exact ih2 (X2, V2) ⟨e1, e2, e3, zJ_no e4 (by simp [hmay])⟩
      | true =>
        rw [if_neg (by decide), zy_mvX N j X2 (by omega) hr (by omega)]
        have hmv := zp_mlt hn ha hp hr
        simp only [Option.bind_some, zq_b]
        rw [zn_ck (by omega) (by omega), zn_ck (by omega) (by omega), zn_ck (by omega) (by omega), zn_ix (by omega), zn_ix (by omega), e2 _ (by omega), e1.2 46 (by omega), hK, zn_or]
        refine ih2 (_, fun x => if x = zp_mv a p r then V2 (zp_mv a p r) ||| K a else V2 x) ⟨zf1_u e1, ?_, ?_, ?_⟩
        · intro x hx
          show (zq_u1 X2 47 (zp_mv a p r) (zn (V2 (zp_mv a p r) ||| K a))).1 47 x = zn (if x = zp_mv a p r then V2 (zp_mv a p r) ||| K a else V2 x)
          rw [zq_g1]
          by_cases e : x = zp_mv a p r
          · rw [if_pos ⟨rfl, e⟩, if_pos e]
          · rw [if_neg (fun h => e h.2), if_neg e]; exact e2 x hx
        · intro x
          dsimp only
          split
          · exact Nat.or_lt_two_pow (n := 32) (e3 _) (hKl a)
          · exact e3 x
        · refine zJ_yes e4 hp hr (by simp [hmay, hKn]) ?_
          intro x v
          dsimp only
          by_cases e : x = zp_mv a p r
          · rw [if_pos e, zs_bor, Bool.or_eq_true, ← e]
            constructor
            · rintro (h | h)
              · exact Or.inl h
              · exact Or.inr ⟨rfl, h⟩
            · rintro (h | h)
              · exact Or.inl h
              · exact Or.inr h.2
          · rw [if_neg e]
            constructor
            · intro h; exact Or.inl h
            · rintro (h | ⟨h, -⟩)
              · exact h
              · exact absurd h.symm e
    · rintro g2 ⟨X2, V2⟩ ⟨e1, e2, e3, e4⟩
      dsimp only at e1 e2 e3 e4 ⊢
      unfold b_X1_leave_18
      rw [zl_4, if_pos (by rw [zn_le (by omega) (by omega)]; omega), zl_1, zn_add]
      exact ih (X2, V2) ⟨e1, e2, e3, zJ_p e4⟩
  · rintro g ⟨X1, V1⟩ ⟨f1, f2, f3, f4⟩
    dsimp only at f1 f2 f3 f4 ⊢
    unfold b_X1_leave_2
    rw [f1.2 1 (by omega), hG.1.1, if_pos (by rw [zn_le (by omega) (by omega)]; omega)]
    exact ⟨X1, V1, rfl, f1, f2, f3, zJ_a f4⟩
theorem ze_go {N j h d s0 : Nat} {X : zq_M} {S : Nat → Nat → Nat} {P : Nat → Nat → Nat → Nat} {B : Nat → Nat → Nat → Bool} (hN : 1100 < N) (hS : zyB S) (hG : zyGX j X S h P B) (hK : zeK S B s0 X d) : ∃ X1, f_X1_goOn N j X = some X1 ∧ zeF X X1 ∧ zeM S B s0 X1 (d + 1) := by
  have hn := hS.1
  have h4n := zs_p4 hn
  have h4p : 0 < 4 ^ S 0 0 := Nat.pow_pos (by omega)
  obtain ⟨h45, K, k1, k2, k3⟩ := hK
  obtain ⟨X3, x1, x2, x3, x4⟩ := zy_fill (N := N) (c := 47) (len := 1024) (sh := zq_shX j) (X := X) (v := 0) (by omega) (by omega)
  unfold f_X1_goOn
  rw [x1]
  simp only [Option.bind_some]
  refine zL (α := Int32 → zq_M → Option zq_M) (fun (q : zq_M × (Nat → Nat)) k g => g (zn k) q.1) (fun k q => zf1 47 X q.1 ∧ (∀ x, x < 1024 → q.1.1 47 x = zn (q.2 x)) ∧ (∀ x, q.2 x < 4294967296) ∧ zJ (S 0 0) (fun a p r => decide (K a ≠ 0) && zp_may (S 0 0) B a p r) (fun a p r v => zs_bit (K a) v = true) k 0 0 (fun x v => zs_bit (q.2 x) v = true)) (fun o => ∃ X1, o = some X1 ∧ zeF X X1 ∧ zeM S B s0 X1 (d + 1)) (4 ^ S 0 0) ?_ ?_ N 0 (X3, fun _ => 0) (by omega) (by omega) ⟨x2, fun x hx => x3 x hx, fun x => (by decide : (0 : Nat) < 4294967296), zJ_0 (fun x v h => by have h : zs_bit 0 v = true := h; rw [zs_b0] at h; cases h)⟩
  · rintro g k ⟨X1, V1⟩ hk ⟨f1, f2, f3, f4⟩ ih
    dsimp only at f1 f2 f3 f4 ih ⊢
    have g3 : (zn k : Int32) + 1 = zn (k + 1) := zn_add _ 1
    have gz := zn_z32 (k2 k)
    have e46 : X1.1 46 k = zn (K k) := by rw [f1.2 46 (by omega)]; exact k1 k (by omega)
    unfold b_X1_goOn_10
    rw [f1.2 45 (by omega), h45, if_neg (by rw [zn_le (by omega) (by omega)]; omega), zn_ck (by omega) (by omega), zn_ix (by omega), e46, g3]
    simp only [gz]
    by_cases c : K k = 0
    · rw [if_pos c]
      exact ih (X1, V1) ⟨f1, f2, f3, zJ_skip (fun p r => by simp [c]) f4⟩
    · rw [if_neg c]
      obtain ⟨X2, V2, y1, y2, y3, y4, y5⟩ := ze_leave (N := N) hN hS (zyGX_e (zeF_1 (by omega) f1) hG) hk e46 c f2 f3 k2 f4
      rw [y1]
      simp only [Option.bind_some]
      exact ih (X2, V2) ⟨zf1_t f1 y2, y3, y4, y5⟩
  · rintro g ⟨X1, V1⟩ ⟨f1, f2, f3, f4⟩
    dsimp only at f1 f2 f3 f4 ⊢
    unfold b_X1_goOn_10 k_X1_goOn_38_2
    rw [f1.2 45 (by omega), h45, if_pos (by rw [zn_le (by omega) (by omega)]; omega), za_n h4n]
    simp only [zq_b]
    have hcp : ∀ c k, (zq_cp1 X1 47 0 46 0 (zn (4 ^ S 0 0))).1 c k = if c = 46 ∧ k < 4 ^ S 0 0 then X1.1 47 k else X1.1 c k := fun c k => zc_g X1 47 46 (4 ^ S 0 0) (by omega) c k
    refine ⟨_, rfl, ⟨(zc_2 _ _ _ _).trans f1.1, fun c hc => ?_⟩, ?_, fun a => if a < 4 ^ S 0 0 then V1 a else K a, fun a ha => ?_, fun a => ?_, fun a s ha => ?_⟩
    · funext k
      rw [hcp, if_neg (by omega), f1.2 c (by omega)]
    · rw [hcp, if_neg (by omega), f1.2 45 (by omega)]; exact h45
    · rw [hcp]
      dsimp only
      by_cases e : a < 4 ^ S 0 0
      · rw [if_pos ⟨rfl, e⟩, if_pos e]; exact f2 a ha
      · rw [if_neg (fun h => e h.2), if_neg e, f1.2 46 (by omega)]; exact k1 a ha
    · dsimp only
      split
      · exact f3 a
      · exact k2 a
    · dsimp only
      rw [if_pos ha]
      have f4' := f4 a s
      dsimp only at f4'
      rw [f4']
      show _ ↔ ∃ a1 p r, _
      constructor
      · rintro ⟨a1, p1, r1, h1, h2, h3, h4, h5, h6⟩
        simp only [Bool.and_eq_true] at h4
        exact ⟨a1, p1, r1, by omega, h1, h2, (k3 a1 s (by omega)).mp h6, h4.2, h5⟩
      · rintro ⟨a1, p1, r1, h1, h2, h3, h4, h5, h6⟩
        have hb := (k3 a1 s h1).mpr h4
        refine ⟨a1, p1, r1, h2, h3, by omega, ?_, h6, hb⟩
        simp only [Bool.and_eq_true, decide_eq_true_eq]
        refine ⟨fun hz => ?_, h5⟩
        rw [hz, zs_b0] at hb; cases hb
def zhk (S : Nat → Nat → Nat) (B : Nat → Nat → Nat → Bool) (s0 : Nat) (wt : Nat → Bool) (d : Nat) : Prop := ∃ a s, a < 4 ^ S 0 0 ∧ zK S B s0 d a s ∧ wt s = true
def zhres (S : Nat → Nat → Nat) (B : Nat → Nat → Nat → Bool) (s0 : Nat) (wt : Nat → Bool) (res : Int32) : Prop := (∃ d, d ≤ 6 ∧ (∀ e, e < d → ¬ zhk S B s0 wt e) ∧ zhk S B s0 wt d ∧ res = zn d) ∨ ((∀ d, d ≤ 6 → ¬ zhk S B s0 wt d) ∧ res = -5)
theorem zhuni {S : Nat → Nat → Nat} {B : Nat → Nat → Nat → Bool} {s0 : Nat} {wt : Nat → Bool} {r1 r2 : Int32} (h : zhres S B s0 wt r1) (g : zhres S B s0 wt r2) : r1 = r2 := by
  rcases h with ⟨d, d1, d2, d3, d4⟩ | ⟨d1, d2⟩
  · rcases g with ⟨e, e1, e2, e3, e4⟩ | ⟨e1, e2⟩
    · have : d = e := by
        rcases Nat.lt_trichotomy d e with c | c | c
        · exact absurd d3 (e2 d c)
        · exact c
        · exact absurd e3 (d2 e c)
      rw [d4, e4, this]
    · exact absurd d3 (e1 d d1)
  · rcases g with ⟨e, e1, e2, e3, e4⟩ | ⟨e1, e2⟩
    · exact absurd e3 (d1 e e1)
    · rw [d2, e2]
theorem ze_till {N j h s0 W : Nat} {X : zq_M} {S : Nat → Nat → Nat} {P : Nat → Nat → Nat → Nat} {B : Nat → Nat → Nat → Bool} {wt : Nat → Bool} (hN : 1100 < N) (hS : zyB S) (hG : zyGX j X S h P B) (h0 : s0 < 2 ^ S 0 0) (hW : W < 4294967296) (hwt : ∀ s, s < 2 ^ S 0 0 → zs_bit W s = wt s) : ∃ X1 res, f_X1_fewestTill N j X (zn s0) (zn W) = some (res, X1) ∧ zeF X X1 ∧ zhres S B s0 wt res := by
  have hn := hS.1
  have h32 := zs_p2 hn
  have h4n := zs_p4 hn
  have h4p : 0 < 4 ^ S 0 0 := Nat.pow_pos (by omega)
  have hwl := zy_wl hS
  unfold f_X1_fewestTill
  simp only [zq_b]
  rw [hG.1.1, zn_4n hn]
  obtain ⟨X2, x1, x2, x3, x4⟩ := zy_fill (N := N) (c := 46) (len := 1024) (sh := zq_shX j) (X := zq_u1 X 45 6 (zn (4 ^ S 0 0))) (v := 0) (by omega) (by omega)
  have F2 : zeF X X2 := zeF_t (zeF_u (by omega) ⟨rfl, fun _ _ => rfl⟩) (zeF_1 (by omega) x2)
  have G2 := zyGX_e F2 hG
  rw [x1]
  simp only [Option.bind_some]
  rw [zy_pkX (n := S 0 0) (P := S 3) (by omega) G2.1.1 hn G2.1.2.2.2.2.1 hS.2.2.2.2.2.1 hS.2.2.2.2.2.2.2.2.2]
  simp only [Option.bind_some]
  rw [zn_ck (by omega) (by omega), zn_ix (by omega), zl_1, zn_shl (by omega), Nat.one_mul]
  have hs32 : s0 < 32 := by omega
  have M0 : zeM S B s0 (zq_u1 X2 46 (zv_pk (S 3)) (zn (2 ^ s0))) 0 := by
    refine ⟨by rw [zq_un (by omega), x2.2 45 (by omega), zq_g1, if_pos ⟨rfl, rfl⟩], fun a => if a = zv_pk (S 3) then 2 ^ s0 else 0, fun a ha => ?_, fun a => ?_, fun a s ha => ?_⟩
    · rw [zq_g1]
      dsimp only
      by_cases e : a = zv_pk (S 3)
      · rw [if_pos ⟨rfl, e⟩, if_pos e]
      · rw [if_neg (fun h => e h.2), if_neg e]; exact x3 a ha
    · dsimp only
      have : 2 ^ s0 < 2 ^ 32 := Nat.pow_lt_pow_right (by omega) (by omega)
      split <;> omega
    · show zs_bit (if a = zv_pk (S 3) then 2 ^ s0 else 0) s = true ↔ (a = zv_pk (S 3) ∧ s = s0)
      by_cases e : a = zv_pk (S 3)
      · rw [if_pos e, zs_b2p, beq_iff_eq]
        exact ⟨fun h => ⟨e, h.symm⟩, fun h => h.2.symm⟩
      · rw [if_neg e, zs_b0]
        exact ⟨fun h => (by cases h), fun h => absurd h.1 e⟩
  refine zL (α := Int32 → zq_M → Option (Int32 × zq_M)) (fun (X1 : zq_M) k g => g (zn k) X1) (fun k X1 => zeF X X1 ∧ (k = 0 → zeM S B s0 X1 0) ∧ (0 < k → zeK S B s0 X1 (k - 1)) ∧ ∀ e, e < k → ¬ zhk S B s0 wt e) (fun o => ∃ X1 res, o = some (res, X1) ∧ zeF X X1 ∧ zhres S B s0 wt res) 7 ?_ ?_ N 0 _ (by omega) (by omega) ⟨zeF_u (by omega) F2, fun _ => M0, fun h => by omega, fun e he => by omega⟩
  · intro g k X1 hk ⟨f1, f2, f3, f4⟩ ih
    have q6 : (6 : Int32) = zn 6 := rfl
    have q3 : (zn k : Int32) + 1 = zn (k + 1) := zn_add _ 1
    have inner : ∀ X2, zeF X X2 → zeM S B s0 X2 k → ∃ X1 res, j_X1_fewestTill_57 N j (zn W) (zn k) g X2 = some (res, X1) ∧ zeF X X1 ∧ zhres S B s0 wt res := by
      intro X2 F2 M2
      have G2 := zyGX_e F2 hG
      obtain ⟨X3, y1, y2, y3⟩ := ze_tell (N := N) (d := k) hN hS G2 (by omega)
      have F3 : zeF X X3 := zeF_t F2 ⟨y2.1, fun c hc => y2.2 c (by omega)⟩
      have M3 : zeM S B s0 X3 k := by
        obtain ⟨a1, K, a2, a3⟩ := M2
        exact ⟨by rw [y2.2 45 (by omega)]; exact a1, K, fun a ha => by rw [y2.2 46 (by omega)]; exact a2 a ha, a3⟩
      obtain ⟨X4, b, z1, z2, z3, z4, z5⟩ := ze_all (N := N) hN hS (zyGX_e F3 hG) y3 h0 M3 hW
      have F4 : zeF X X4 := zeF_t F3 ⟨z2.1, fun c hc => z2.2 c (by omega)⟩
      have hb : b = 1 ↔ zhk S B s0 wt k := by
        rw [z5]
        constructor
        · rintro ⟨a, s, h1, h2, h3⟩; exact ⟨a, s, h1, h2, by rw [← hwt s (zK_l h2)]; exact h3⟩
        · rintro ⟨a, s, h1, h2, h3⟩; exact ⟨a, s, h1, h2, by rw [hwt s (zK_l h2)]; exact h3⟩
      unfold j_X1_fewestTill_57
      rw [y1]
      simp only [Option.bind_some]
      rw [z1]
      simp only [Option.bind_some, zq_p]
      have gb : (zn b = 0) = (b = 0) := zn_eq (b := 0) (by omega) (by omega)
      simp only [gb]
      by_cases c : b = 0
      · rw [if_pos c, q3]
        refine ih X4 ⟨F4, fun h => by omega, fun _ => by rw [Nat.add_sub_cancel]; exact z3, fun e he => ?_⟩
        by_cases e2 : e = k
        · subst e2
          intro hh
          have := hb.mpr hh
          omega
        · exact f4 e (by omega)
      · rw [if_neg c]
        exact ⟨X4, _, rfl, F4, Or.inl ⟨k, by omega, f4, hb.mp (by omega), rfl⟩⟩
    unfold b_X1_fewestTill_43
    rw [q6, if_neg (by rw [zn_lt (by omega) (by omega)]; omega)]
    by_cases ck : k = 0
    · subst ck
      rw [if_pos (by decide)]
      exact inner X1 f1 (f2 rfl)
    · rw [if_neg (by rw [zl_0, zn_le (by omega) (by omega)]; omega)]
      obtain ⟨X2, z1, z2, z3⟩ := ze_go (N := N) hN hS (zyGX_e f1 hG) (f3 (by omega))
      rw [z1]
      simp only [Option.bind_some]
      rw [show k - 1 + 1 = k by omega] at z3
      exact inner X2 (zeF_t f1 z2) z3
  · intro g X1 ⟨f1, f2, f3, f4⟩
    have q6 : (6 : Int32) = zn 6 := rfl
    unfold b_X1_fewestTill_43
    rw [q6, if_pos (by rw [zn_lt (by omega) (by omega)]; omega)]
    exact ⟨X1, _, rfl, f1, Or.inr ⟨fun d hd => f4 d (by omega), rfl⟩⟩
