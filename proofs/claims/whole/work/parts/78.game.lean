def zgwon (S : Nat → Nat → Nat) (r party a g : Nat) : Bool := !(zs_set (fun p => zU S a r g p) (S 0 0) &&& party == 0) && (zs_set (fun p => zU S a r g p && !(zs_bit party p)) (S 0 0) == 0)
def zgP (S : Nat → Nat → Nat) (B : Nat → Nat → Nat → Bool) (r party : Nat) : Nat → Bool → Nat → Nat → Prop
  | 0, _, a, g => zgwon S r party a g = true
  | l + 1, true, a, g => zgP S B r party l false a g ∨ ∃ p q, p < S 0 0 ∧ q < 4 ∧ zp_may (S 0 0) B a p q = true ∧ zgP S B r party l false (zp_mv a p q) (g + 1)
  | l + 1, false, a, g => zgP S B r party l true a g ∧ ∀ p q, p < S 0 0 → q < 4 → zp_may (S 0 0) B a p q = true → zgP S B r party l true (zp_mv a p q) (g + 1)
theorem zg_set {S : Nat → Nat → Nat} (hn : S 0 0 ≤ 5) (r party a g : Nat) (hp : party < 2 ^ S 0 0) : (zn (zs_set (fun p => zU S a r g p) (S 0 0)) &&& zn party = 0) = (zs_set (fun p => zU S a r g p) (S 0 0) &&& party = 0) ∧ (zn (zs_set (fun p => zU S a r g p) (S 0 0)) &&& (zn party ^^^ (-1 : Int32)) = 0) = (zs_set (fun p => zU S a r g p && !(zs_bit party p)) (S 0 0) = 0) := by
  have l32 := zs_l32 (fun p => zU S a r g p) hn
  have l33 := zs_l32 (fun p => zU S a r g p && !(zs_bit party p)) hn
  refine ⟨?_, ?_⟩
  · rw [zn_and]
    exact zn_z32 (by have := Nat.and_le_left (n := zs_set (fun p => zU S a r g p) (S 0 0)) (m := party); omega)
  · have hps : party = zs_set (zs_bit party) (S 0 0) := (zs_self hp).symm
    rw [show zn party = zn (zs_set (zs_bit party) (S 0 0)) by rw [← hps], zs_ands _ _ hn]
    exact zn_z32 (by omega)
theorem zg_leaf {S : Nat → Nat → Nat} (hn : S 0 0 ≤ 5) (r party a g : Nat) (hp : party < 2 ^ S 0 0) {ρ : Type} (f : Int32 → ρ) : (if (zn (zs_set (fun p => zU S a r g p) (S 0 0)) &&& zn party) = 0 then f 0 else (if ¬ (zn (zs_set (fun p => zU S a r g p) (S 0 0)) &&& (zn party ^^^ (-1 : Int32))) = 0 then f 0 else f 1)) = f (if zgwon S r party a g = true then 1 else 0) := by
  obtain ⟨e1, e2⟩ := zg_set hn r party a g hp
  simp only [e1, e2]
  unfold zgwon
  by_cases c1 : zs_set (fun p => zU S a r g p) (S 0 0) &&& party = 0
  · rw [if_pos c1]
    have : (zs_set (fun p => zU S a r g p) (S 0 0) &&& party == 0) = true := by simpa using c1
    rw [this]; rfl
  · rw [if_neg c1]
    have h1 : (zs_set (fun p => zU S a r g p) (S 0 0) &&& party == 0) = false := by simpa using c1
    rw [h1]
    by_cases c2 : zs_set (fun p => zU S a r g p && !(zs_bit party p)) (S 0 0) = 0
    · rw [if_neg (fun h => h c2)]
      have h2 : (zs_set (fun p => zU S a r g p && !(zs_bit party p)) (S 0 0) == 0) = true := by simpa using c2
      rw [h2]; rfl
    · rw [if_pos c2]
      have h2 : (zs_set (fun p => zU S a r g p && !(zs_bit party p)) (S 0 0) == 0) = false := by simpa using c2
      rw [h2]; rfl
theorem zyGX_1 {c0 j h : Nat} {X X1 : zq_M} {S : Nat → Nat → Nat} {P : Nat → Nat → Nat → Nat} {B : Nat → Nat → Nat → Bool} (hc0 : 28 ≤ c0 ∧ c0 < 111 ∧ c0 ≠ 39 ∧ c0 ≠ 40) (f : zf1 c0 X X1) (hG : zyGX j X S h P B) : zyGX j X1 S h P B := zyGX_fr f.1 (fun c hc => f.2 c (by omega)) hG
theorem zg_spk {N j h r a g : Nat} {X : zq_M} {S : Nat → Nat → Nat} {P : Nat → Nat → Nat → Nat} {B : Nat → Nat → Nat → Bool} (hN : 1100 < N) (hS : zyB S) (hG : zyGX j X S h P B) (hr : r < 4) (ha : a < 4 ^ S 0 0) (hg : g < 100000) : ∃ X1, f_X6_whoIsAt N j X (zn a) (zn r) = some (zn (zs_set (fun q => a / 4 ^ q % 4 == r) (S 0 0))) ∧ f_X6_speakers N j X (zn r) (zn (zs_set (fun q => a / 4 ^ q % 4 == r) (S 0 0))) (zn g) = some (zn (zs_set (fun p => zU S a r g p) (S 0 0)), X1) ∧ zf1 37 X X1 := by
  have hn := hS.1
  have h4n := zs_p4 hn
  obtain ⟨X1, e1, e2⟩ := zy_spX (N := N) (j := j) (t := zs_set (fun q => a / 4 ^ q % 4 == r) (S 0 0)) (r := r) (g := g) (by omega) hS hG.1 (zs_lt _ _) hr hg hG.2.1
  refine ⟨X1, zy_whk (n := S 0 0) (by omega) hG.1.1 hn (by omega) hr, ?_, e2⟩
  rw [e1]
  have e : zs_set (fun p => decide (r < 3) && zk_sp S r (zs_bit (zs_set (fun q => a / 4 ^ q % 4 == r) (S 0 0))) g p) (S 0 0) = zs_set (fun p => zU S a r g p) (S 0 0) := zs_scg (fun p hp => by
    unfold zU
    rw [zk_spcg (T1 := fun q => a / 4 ^ q % 4 == r) (fun q hq => zs_bset (fun q => a / 4 ^ q % 4 == r) hq) hp])
  rw [e]
theorem zg_wins {N j h r party : Nat} {S : Nat → Nat → Nat} {P : Nat → Nat → Nat → Nat} {B : Nat → Nat → Nat → Bool} (hN : 1100 < N) (hS : zyB S) (hr : r < 3) (hp : party < 2 ^ S 0 0) : ∀ (l K : Nat), l < K → ∀ (ours : Bool) (a g : Nat) (X : zq_M), zyGX j X S h P B → a < 4 ^ S 0 0 → g + l < 50000 → ∃ (X1 : zq_M) (b : Bool), zq_loop (fun _ _ _ _ _ _ _ => none) (B_X8_wins N j) K (zn r) (zn party) (zn a) (zn g) (zn l) (if ours = true then 1 else 0) X = some (if b = true then 1 else 0, X1) ∧ zf1 37 X X1 ∧ (b = true ↔ zgP S B r party l ours a g) := by
  have hn := hS.1
  have h4n := zs_p4 hn
  intro l
  induction l with
  | zero =>
    intro K hK ours a g X hG ha hg
    obtain ⟨K, rfl⟩ : ∃ K1, K = K1 + 1 := ⟨K - 1, by omega⟩
    show ∃ (X1 : zq_M) (b : Bool), B_X8_wins N j _ (zn r) (zn party) (zn a) (zn g) (zn 0) _ X = _ ∧ _
    obtain ⟨X1, e1, e2, e3⟩ := zg_spk (N := N) hN hS hG (show r < 4 by omega) ha (show g < 100000 by omega)
    unfold B_X8_wins
    rw [if_neg (by decide), e1]
    simp only [Option.bind_some]
    rw [e2]
    simp only [Option.bind_some, zq_p]
    rw [zg_leaf hn r party a g hp (fun v => some (v, X1))]
    exact ⟨X1, zgwon S r party a g, rfl, e3, Iff.rfl⟩
  | succ l ih =>
    intro K hK ours a g X hG ha hg
    obtain ⟨K, rfl⟩ : ∃ K1, K = K1 + 1 := ⟨K - 1, by omega⟩
    show ∃ (X1 : zq_M) (b : Bool), B_X8_wins N j (zq_loop (fun _ _ _ _ _ _ _ => none) (B_X8_wins N j) K) (zn r) (zn party) (zn a) (zn g) (zn (l + 1)) (if ours = true then 1 else 0) X = _ ∧ _
    generalize hrc : zq_loop (fun _ _ _ _ _ _ _ => none) (B_X8_wins N j) K = rc at *
    have ih' : ∀ (o : Bool) (a g : Nat) (X : zq_M), zyGX j X S h P B → a < 4 ^ S 0 0 → g + l < 50000 → ∃ (X1 : zq_M) (b : Bool), rc (zn r) (zn party) (zn a) (zn g) (zn l) (if o = true then 1 else 0) X = some (if b = true then 1 else 0, X1) ∧ zf1 37 X X1 ∧ (b = true ↔ zgP S B r party l o a g) := by
      rw [← hrc]; exact fun o a g X h1 h2 h3 => ih K (by omega) o a g X h1 h2 h3
    have q1 : (zn (l + 1) - 1 : Int32) = zn l := by
      have := zn_sub (a := l + 1) (b := 1) (by omega)
      exact this
    have q2 : (zn g + 1 : Int32) = zn (g + 1) := zn_add _ 1
    have e68 : B_X8_wins N j rc (zn r) (zn party) (zn a) (zn g) (zn (l + 1)) (if ours = true then 1 else 0) X = j_X8_wins_68 N j X (zn r) (zn party) (zn a) (zn g) (zn (l + 1)) (if ours = true then 1 else 0) rc (if (!ours) = true then 1 else 0) := by
      unfold B_X8_wins
      rw [if_pos (by rw [zl_0, zn_lt (by omega) (by omega)]; omega)]
      cases ours <;> rfl
    rw [e68]
    unfold j_X8_wins_68
    rw [q1]
    obtain ⟨X1, b1, y1, y2, y3⟩ := ih' (!ours) a g X hG ha (by omega)
    rw [y1]
    simp only [Option.bind_some, zq_p]
    have hne : ∀ b o : Bool, ((if b = true then (1 : Int32) else 0) = (if o = true then 1 else 0)) = (b = o) := by
      intro b o; cases b <;> cases o <;> simp
    have hgz : ∀ (o : Bool) (X : zq_M), zq_gz (if o = true then (1 : Int32) else 0) (some ((if o = true then (1 : Int32) else 0), X)) = some ((if o = true then (1 : Int32) else 0), X) := by
      intro o X; cases o <;> rfl
    simp only [hne, hgz]
    have settle : ∀ X2, zf1 37 X X2 → ((zgP S B r party l (!ours) a g ↔ ours = true) ∨ ∃ p q, p < S 0 0 ∧ q < 4 ∧ zp_may (S 0 0) B a p q = true ∧ (zgP S B r party l (!ours) (zp_mv a p q) (g + 1) ↔ ours = true)) → ∃ (X1 : zq_M) (b : Bool), some ((if ours = true then (1 : Int32) else 0), X2) = some (if b = true then 1 else 0, X1) ∧ zf1 37 X X1 ∧ (b = true ↔ zgP S B r party (l + 1) ours a g) := by
      intro X2 f h
      refine ⟨X2, ours, rfl, f, ?_⟩
      cases ours with
      | true =>
        refine ⟨fun _ => ?_, fun _ => rfl⟩
        rcases h with h | ⟨p, q, h1, h2, h3, h4⟩
        · exact Or.inl (h.mpr rfl)
        · exact Or.inr ⟨p, q, h1, h2, h3, h4.mpr rfl⟩
      | false =>
        refine ⟨fun h => (by cases h), fun hz => ?_⟩
        rcases h with h | ⟨p, q, h1, h2, h3, h4⟩
        · exact h.mp hz.1
        · exact h4.mp (hz.2 p q h1 h2 h3)
    by_cases c1 : b1 = ours
    · rw [if_neg (fun h => h c1)]
      exact settle X1 y2 (Or.inl (by rw [← y3, c1]))
    · rw [if_pos c1]
      refine zL (α := Int32 → zq_M → Option (Int32 × zq_M)) (fun (X2 : zq_M) k g => g (zn k) X2) (fun k X2 => zf1 37 X X2 ∧ ∀ p q, p < k → q < 4 → zp_may (S 0 0) B a p q = true → ¬ (zgP S B r party l (!ours) (zp_mv a p q) (g + 1) ↔ ours = true)) (fun o => ∃ (X1 : zq_M) (b : Bool), o = some (if b = true then 1 else 0, X1) ∧ zf1 37 X X1 ∧ (b = true ↔ zgP S B r party (l + 1) ours a g)) (S 0 0) ?_ ?_ N 0 X1 (by omega) (by omega) ⟨y2, fun p q h => by omega⟩
      · intro g1 p X2 hp1 ⟨f1, f2⟩ ih1
        unfold b_X8_wins_82
        rw [f1.2 1 (by omega), hG.1.1, if_neg (by rw [zn_le (by omega) (by omega)]; omega)]
        refine zL (α := Int32 → zq_M → Option (Int32 × zq_M)) (fun (X2 : zq_M) k g => g (zn k) X2) (fun k X2 => zf1 37 X X2 ∧ ∀ q, q < k → zp_may (S 0 0) B a p q = true → ¬ (zgP S B r party l (!ours) (zp_mv a p q) (g + 1) ↔ ours = true)) (fun o => ∃ (X1 : zq_M) (b : Bool), o = some (if b = true then 1 else 0, X1) ∧ zf1 37 X X1 ∧ (b = true ↔ zgP S B r party (l + 1) ours a g)) 4 ?_ ?_ N 0 X2 (by omega) (by omega) ⟨f1, fun q h => by omega⟩
        · intro g2 q X3 hq ⟨e1, e2⟩ ih2
          have G3 := zyGX_1 (by omega) e1 hG
          have q4 : (zn q : Int32) + 1 = zn (q + 1) := zn_add _ 1
          unfold b_X8_wins_100
          rw [zl_4, if_neg (by rw [zn_le (by omega) (by omega)]; omega), zy_mcX G3.1.1 hn G3.2.2.2 (by omega) hp1 hq, q4]
          simp only [Option.bind_some]
          cases hmay : zp_may (S 0 0) B a p q with
          | false =>
            rw [if_pos (by rfl)]
            refine ih2 X3 ⟨e1, fun q1 h1 h2 => ?_⟩
            by_cases e : q1 = q
            · subst e; rw [hmay] at h2; cases h2
            · exact e2 q1 (by omega) h2
          | true =>
            rw [if_neg (by decide), zy_mvX N j X3 (by omega) hq (by omega)]
            have hmv := zp_mlt hn ha hp1 hq
            simp only [Option.bind_some]
            have e154 : (if ¬ (if ours = true then (1 : Int32) else 0) = 0 then (j_X8_wins_154 (zn r) (zn party) (zn g) (zn (l + 1)) (if ours = true then 1 else 0) rc (zn q) X3 g2 (zn (zp_mv a p q)) (0 : Int32)) else (j_X8_wins_154 (zn r) (zn party) (zn g) (zn (l + 1)) (if ours = true then 1 else 0) rc (zn q) X3 g2 (zn (zp_mv a p q)) (1 : Int32))) = j_X8_wins_154 (zn r) (zn party) (zn g) (zn (l + 1)) (if ours = true then 1 else 0) rc (zn q) X3 g2 (zn (zp_mv a p q)) (if (!ours) = true then 1 else 0) := by
              cases ours <;> rfl
            rw [e154]
            unfold j_X8_wins_154
            rw [q1, q2, q4]
            obtain ⟨X4, b4, z1, z2, z3⟩ := ih' (!ours) (zp_mv a p q) (g + 1) X3 G3 hmv (by omega)
            rw [z1]
            simp only [Option.bind_some, zq_p, hne, hgz]
            have F4 := zf1_t e1 z2
            by_cases c2 : b4 = ours
            · rw [if_neg (fun h => h c2)]
              exact settle X4 F4 (Or.inr ⟨p, q, hp1, hq, hmay, by rw [← z3, c2]⟩)
            · rw [if_pos c2]
              refine ih2 X4 ⟨F4, fun q1 h1 h2 => ?_⟩
              by_cases e : q1 = q
              · subst e
                rw [← z3]
                intro h
                apply c2
                rw [Bool.eq_iff_iff]
                exact h
              · exact e2 q1 (by omega) h2
        · intro g2 X3 ⟨e1, e2⟩
          unfold b_X8_wins_100
          rw [zl_4, if_pos (by rw [zn_le (by omega) (by omega)]; omega), zl_1, zn_add]
          refine ih1 X3 ⟨e1, fun p1 q1 h1 h2 h3 => ?_⟩
          by_cases e : p1 = p
          · subst e; exact e2 q1 h2 h3
          · exact f2 p1 q1 (by omega) h2 h3
      · intro g1 X2 ⟨f1, f2⟩
        unfold b_X8_wins_82 k_X8_wins_177_2
        rw [f1.2 1 (by omega), hG.1.1, if_pos (by rw [zn_le (by omega) (by omega)]; omega)]
        refine ⟨X2, !ours, ?_, f1, ?_⟩
        · cases ours <;> rfl
        · have hstay : ¬ (zgP S B r party l (!ours) a g ↔ ours = true) := by
            rw [← y3]
            intro h
            apply c1
            rw [Bool.eq_iff_iff]
            exact h
          cases ours with
          | true =>
            refine ⟨fun h => (by cases h), fun hz => ?_⟩
            exfalso
            rcases hz with hz | ⟨p, q, h1, h2, h3, h4⟩
            · exact hstay ⟨fun _ => rfl, fun _ => hz⟩
            · exact f2 p q h1 h2 h3 ⟨fun _ => rfl, fun _ => h4⟩
          | false =>
            refine ⟨fun _ => ⟨?_, fun p q h1 h2 h3 => ?_⟩, fun _ => rfl⟩
            · apply Classical.byContradiction
              intro hz
              exact hstay ⟨fun h => absurd h hz, fun h => by cases h⟩
            · apply Classical.byContradiction
              intro hz
              exact f2 p q h1 h2 h3 ⟨fun h => absurd h hz, fun h => by cases h⟩
