def zwI (n w : Nat) (B : Nat → Nat → Nat → Bool) (P : Nat → Nat → Nat → Nat) (md : Nat) (X : zq_M) (d : Nat) : Prop := ∃ L st, zwS n X md d st L ∧ (∀ x v, (L x ≤ v ∧ v < zINF) ↔ zZ n w B P md d x v) ∧ (st ≠ 0 → ∀ x v, zZ n w B P md (d + 1) x v ↔ zZ n w B P md d x v) ∧ st < 2
theorem zw_least {N j h r p md d st : Nat} {X : zq_M} {S : Nat → Nat → Nat} {L : Nat → Nat} {P : Nat → Nat → Nat → Nat} {B : Nat → Nat → Nat → Bool} (hN : 1100 < N) (hS : zyB S) (hG : zyGX j X S h P B) (hw : zwS (S 0 0) X md d st L) (hr : r < 4) (hp : p < S 0 0) (hd : d < 100) : ∃ X1 best, f_X9_leastWith N j X (zn p) (zn r) = some (zn best, X1) ∧ (X1.2 = X.2 ∧ ∀ c, c ≠ 37 ∧ c ≠ 44 → X1.1 c = X.1 c) ∧ best ≤ zINF ∧ ∀ v, v < zINF → (best ≤ v ↔ ∃ a, a < 4 ^ S 0 0 ∧ L a ≤ v ∧ zU S a r (S 0 1 + d) p = true) := by
  have hn := hS.1
  have h32 := zs_p2 hn
  have h4n := zs_p4 hn
  have h4p : 0 < 4 ^ S 0 0 := Nat.pow_pos (by omega)
  have hinf : zINF = 1073741824 := rfl
  obtain ⟨X1, x1, x2, x3⟩ := zw_tell hN hS hG hw hr hd
  have G1 : zyGX j X1 S h P B := zyGX_fr x2.1 (fun c hc => x2.2 c (by omega)) hG
  have hq : (1073741824 : Int32) = zn zINF := rfl
  unfold f_X9_leastWith
  rw [x1, hq]
  simp only [Option.bind_some]
  refine zL (α := Int32 → Int32 → Option (Int32 × zq_M)) (fun (b : Nat) k g => g (zn b) (zn k)) (fun k b => b ≤ zINF ∧ ∀ v, v < zINF → (b ≤ v ↔ ∃ a, a < k ∧ L a ≤ v ∧ zU S a r (S 0 1 + d) p = true)) (fun o => ∃ X1 best, o = some (zn best, X1) ∧ (X1.2 = X.2 ∧ ∀ c, c ≠ 37 ∧ c ≠ 44 → X1.1 c = X.1 c) ∧ best ≤ zINF ∧ ∀ v, v < zINF → (best ≤ v ↔ ∃ a, a < 4 ^ S 0 0 ∧ L a ≤ v ∧ zU S a r (S 0 1 + d) p = true)) (4 ^ S 0 0) ?_ ?_ N 0 zINF (by omega) (by omega) ⟨Nat.le_refl _, fun v hv => ⟨fun h => by omega, fun ⟨a, h, _⟩ => by omega⟩⟩
  · intro g k b hk ⟨b1, b2⟩ ih
    have hl := hw.2.2.2.2.2 k
    unfold b_X9_leastWith_11
    rw [x2.2 41 (by omega), x2.2 42 (by omega), hw.1, zn_ck (by omega) (by omega), zn_ck (by omega) (by omega), zn_ix (by omega), hw.2.2.2.2.1 k (by omega), zy_whk (n := S 0 0) (by omega) G1.1.1 hn (by omega) hr]
    have g1 : (zn (4 ^ S 0 0) ≤ zn k) = (4 ^ S 0 0 ≤ k) := zn_le (by omega) (by omega)
    have g2 : (zn b ≤ zn (L k)) = (b ≤ L k) := zn_le (by omega) (by omega)
    have g3 : (zn k : Int32) + 1 = zn (k + 1) := zn_add _ 1
    have ht := zs_lt (fun q => k / 4 ^ q % 4 == r) (S 0 0)
    simp only [g1, g2, g3, Option.bind_some]
    rw [if_neg (by omega), zn_ck (by omega) (by omega), zn_ix (by omega), x3 _ ht]
    have e1 := zn_bset (fun p => decide (r < 3) && zk_sp S r (zs_bit (zs_set (fun q => k / 4 ^ q % 4 == r) (S 0 0))) (S 0 1 + d) p) hn hp
    have e2 : (decide (r < 3) && zk_sp S r (zs_bit (zs_set (fun q => k / 4 ^ q % 4 == r) (S 0 0))) (S 0 1 + d) p) = zU S k r (S 0 1 + d) p := by
      unfold zU
      rw [zk_spcg (T1 := fun q => k / 4 ^ q % 4 == r) (fun q hq => zs_bset (fun q => k / 4 ^ q % 4 == r) hq) hp]
    simp only [e2] at e1
    simp only [e1]
    have keep : (L k < b → zU S k r (S 0 1 + d) p = false) → ∀ v, v < zINF → (b ≤ v ↔ ∃ a, a < k + 1 ∧ L a ≤ v ∧ zU S a r (S 0 1 + d) p = true) := by
      intro hno v hv
      rw [b2 v hv]
      constructor
      · rintro ⟨a, h1, h2, h3⟩; exact ⟨a, by omega, h2, h3⟩
      · rintro ⟨a, h1, h2, h3⟩
        by_cases e : a = k
        · subst e
          by_cases hb : L a < b
          · rw [hno hb] at h3; cases h3
          · exact (b2 v hv).mp (by omega)
        · exact ⟨a, by omega, h2, h3⟩
    by_cases c1 : b ≤ L k
    · rw [if_pos c1]
      exact ih b ⟨b1, keep (fun h => by omega)⟩
    rw [if_neg c1]
    by_cases c2 : zU S k r (S 0 1 + d) p = true
    · rw [if_neg (fun h => h c2)]
      refine ih (L k) ⟨hl, fun v hv => ⟨fun h => ⟨k, by omega, h, c2⟩, ?_⟩⟩
      rintro ⟨a, h1, h2, h3⟩
      by_cases e : a = k
      · subst e; exact h2
      · have := (b2 v hv).mpr ⟨a, by omega, h2, h3⟩
        omega
    · rw [if_pos c2]
      refine ih b ⟨b1, keep (fun _ => ?_)⟩
      cases hb : zU S k r (S 0 1 + d) p with
      | false => rfl
      | true => exact absurd hb c2
  · intro g b ⟨b1, b2⟩
    unfold b_X9_leastWith_11
    rw [x2.2 41 (by omega), hw.1, if_pos (by rw [zn_le (by omega) (by omega)]; omega)]
    exact ⟨X1, b, rfl, x2, b1, b2⟩
theorem zw_carr {N j h a p r md d st : Nat} {X : zq_M} {S : Nat → Nat → Nat} {L : Nat → Nat} {P : Nat → Nat → Nat → Nat} {B : Nat → Nat → Nat → Bool} (hS : zyB S) (hG : zyGX j X S h P B) (hw : zwS (S 0 0) X md d st L) (hm : md < 2) (hd : d < 100) (ha : a < 4 ^ S 0 0) (hp : p < S 0 0) (hr : r < 4) (hc : ¬ a / 4 ^ p % 4 = r) : f_X9_carried N j X (zn a) (zn p) (zn r) = some (zn (zinc P (S 0 0) md d (L a) a p r)) := by
  have hn := hS.1
  have h4n := zs_p4 hn
  have h4p : 0 < 4 ^ S 0 0 := Nat.pow_pos (by omega)
  have hinf : zINF = 1073741824 := rfl
  unfold f_X9_carried zinc
  rw [hw.2.2.2.1, hw.2.1, zn_ck (by omega) (by omega), zn_ck (by omega) (by omega), zn_ix (by omega), hw.2.2.2.2.1 a (by omega), zy_prX hG.1.1 hn hG.2.2.1 (by omega) hp hr hc]
  have g1 : (zn md = 0) = (md = 0) := zn_eq (b := 0) (by omega) (by omega)
  have g2 : (zn d = 0) = (d = 0) := zn_eq (b := 0) (by omega) (by omega)
  simp only [g1, g2, Option.bind_some]
  by_cases c : md = 0
  · rw [if_pos c, if_neg (show ¬ md = 1 by omega)]
    by_cases c2 : d = 0
    · rw [if_neg (fun h => h c2), if_pos c2, zl_4, zn_mul, zn_add]
    · rw [if_pos c2, if_neg c2]
  · rw [if_neg c, if_pos (show md = 1 by omega), zn_add]
theorem zw_leave {N j h a md d st : Nat} {X : zq_M} {S : Nat → Nat → Nat} {L V : Nat → Nat} {P : Nat → Nat → Nat → Nat} {B : Nat → Nat → Nat → Bool} (hN : 1100 < N) (hS : zyB S) (hG : zyGX j X S h P B) (hP : ∀ p r m, P p r m ≤ 1001) (hw : zwS (S 0 0) X md d st L) (hm : md < 2) (hd : d < 100) (ha : a < 4 ^ S 0 0) (hL : L a ≠ zINF) (hV : ∀ x, x < 1024 → X.1 43 x = zn (V x)) (hVl : ∀ x, V x ≤ zINF) (hJ : zJ (S 0 0) (fun a p r => decide (L a ≠ zINF) && zp_may (S 0 0) B a p r) (fun a p r v => zinc P (S 0 0) md d (L a) a p r ≤ v ∧ v < zINF) a 0 0 (fun x v => V x ≤ v ∧ v < zINF)) : ∃ (X1 : zq_M) (V1 : Nat → Nat), f_X9_leave N j X (zn a) = some X1 ∧ zf1 43 X X1 ∧ (∀ x, x < 1024 → X1.1 43 x = zn (V1 x)) ∧ (∀ x, V1 x ≤ zINF) ∧ zJ (S 0 0) (fun a p r => decide (L a ≠ zINF) && zp_may (S 0 0) B a p r) (fun a p r v => zinc P (S 0 0) md d (L a) a p r ≤ v ∧ v < zINF) (a + 1) 0 0 (fun x v => V1 x ≤ v ∧ v < zINF) := by
  have hn := hS.1
  have h4n := zs_p4 hn
  have h4p : 0 < 4 ^ S 0 0 := Nat.pow_pos (by omega)
  have hinf : zINF = 1073741824 := rfl
  have hLl := hw.2.2.2.2.2 a
  unfold f_X9_leave
  refine zL (α := Int32 → zq_M → Option zq_M) (fun (q : zq_M × (Nat → Nat)) k g => g (zn k) q.1) (fun k q => zf1 43 X q.1 ∧ (∀ x, x < 1024 → q.1.1 43 x = zn (q.2 x)) ∧ (∀ x, q.2 x ≤ zINF) ∧ zJ (S 0 0) (fun a p r => decide (L a ≠ zINF) && zp_may (S 0 0) B a p r) (fun a p r v => zinc P (S 0 0) md d (L a) a p r ≤ v ∧ v < zINF) a k 0 (fun x v => q.2 x ≤ v ∧ v < zINF)) (fun o => ∃ (X1 : zq_M) (V1 : Nat → Nat), o = some X1 ∧ zf1 43 X X1 ∧ (∀ x, x < 1024 → X1.1 43 x = zn (V1 x)) ∧ (∀ x, V1 x ≤ zINF) ∧ zJ (S 0 0) (fun a p r => decide (L a ≠ zINF) && zp_may (S 0 0) B a p r) (fun a p r v => zinc P (S 0 0) md d (L a) a p r ≤ v ∧ v < zINF) (a + 1) 0 0 (fun x v => V1 x ≤ v ∧ v < zINF)) (S 0 0) ?_ ?_ N 0 (X, V) (by omega) (by omega) ⟨zf1_r _ _, hV, hVl, hJ⟩
  · rintro g p ⟨X1, V1⟩ hp ⟨f1, f2, f3, f4⟩ ih
    dsimp only at f1 f2 f3 f4 ih ⊢
    unfold b_X9_leave_2
    rw [f1.2 1 (by omega), hG.1.1, if_neg (by rw [zn_le (by omega) (by omega)]; omega)]
    refine zL (α := Int32 → zq_M → Option zq_M) (fun (q : zq_M × (Nat → Nat)) k g => g (zn k) q.1) (fun k q => zf1 43 X q.1 ∧ (∀ x, x < 1024 → q.1.1 43 x = zn (q.2 x)) ∧ (∀ x, q.2 x ≤ zINF) ∧ zJ (S 0 0) (fun a p r => decide (L a ≠ zINF) && zp_may (S 0 0) B a p r) (fun a p r v => zinc P (S 0 0) md d (L a) a p r ≤ v ∧ v < zINF) a p k (fun x v => q.2 x ≤ v ∧ v < zINF)) (fun o => ∃ (X1 : zq_M) (V1 : Nat → Nat), o = some X1 ∧ zf1 43 X X1 ∧ (∀ x, x < 1024 → X1.1 43 x = zn (V1 x)) ∧ (∀ x, V1 x ≤ zINF) ∧ zJ (S 0 0) (fun a p r => decide (L a ≠ zINF) && zp_may (S 0 0) B a p r) (fun a p r v => zinc P (S 0 0) md d (L a) a p r ≤ v ∧ v < zINF) (a + 1) 0 0 (fun x v => V1 x ≤ v ∧ v < zINF)) 4 ?_ ?_ N 0 (X1, V1) (by omega) (by omega) ⟨f1, f2, f3, f4⟩
    · rintro g2 r ⟨X2, V2⟩ hr ⟨e1, e2, e3, e4⟩ ih2
      dsimp only at e1 e2 e3 e4 ih2 ⊢
      have G2 : zyGX j X2 S h P B := zyGX_w (zwF_1 (by omega) e1) hG
      have w2 : zwS (S 0 0) X2 md d st L := by
        obtain ⟨a1, a2, a3, a4, a5, a6⟩ := hw
        refine ⟨by rw [e1.2 41 (by omega)]; exact a1, by rw [e1.2 41 (by omega)]; exact a2, by rw [e1.2 41 (by omega)]; exact a3, by rw [e1.2 41 (by omega)]; exact a4, fun x hx => by rw [e1.2 42 (by omega)]; exact a5 x hx, a6⟩
      have g3 : (zn r : Int32) + 1 = zn (r + 1) := zn_add _ 1
      unfold b_X9_leave_18
      rw [zl_4, if_neg (by rw [zn_le (by omega) (by omega)]; omega), zy_mcX G2.1.1 hn G2.2.2.2 (by omega) hp hr, g3]
      simp only [Option.bind_some]
      cases hmay : zp_may (S 0 0) B a p r with
      | false =>
        rw [if_pos (by rfl)]
        exact ih2 (X2, V2) ⟨e1, e2, e3, zJ_no e4 (by simp [hmay])⟩
      | true =>
        have hne : ¬ a / 4 ^ p % 4 = r := by
          intro h
          unfold zp_may at hmay
          rw [h] at hmay
          simp at hmay
        rw [if_neg (by decide), zy_mvX N j X2 (by omega) hr (by omega)]
        have hmv := zp_mlt hn ha hp hr
        simp only [Option.bind_some]
        rw [zn_ck (by omega) (by omega), zw_carr (N := N) hS G2 w2 hm hd ha hp hr hne]
        simp only [Option.bind_some, zq_b]
        rw [zn_ck (by omega) (by omega), zn_ix (by omega), e2 _ (by omega)]
        have hPb := hP p r (zp_mn (S 0 0) a r + 1)
        have hci : zinc P (S 0 0) md d (L a) a p r < 2147483648 := by
          unfold zinc
          split
          · omega
          · split <;> omega
        generalize hce : zinc P (S 0 0) md d (L a) a p r = ca at *
        have hv2 := e3 (zp_mv a p r)
        have g4 : (zn ca < zn (V2 (zp_mv a p r))) = (ca < V2 (zp_mv a p r)) := zn_lt hci (by omega)
        simp only [g4]
        have g5 : (if ca < V2 (zp_mv a p r) then zn ca else zn (V2 (zp_mv a p r))) = zn (if ca < V2 (zp_mv a p r) then ca else V2 (zp_mv a p r)) := by split <;> rfl
        rw [g5]
        refine ih2 (_, fun x => if x = zp_mv a p r then (if ca < V2 (zp_mv a p r) then ca else V2 (zp_mv a p r)) else V2 x) ⟨zf1_u e1, ?_, ?_, ?_⟩
        · intro x hx
          show (zq_u1 X2 43 (zp_mv a p r) (zn (if ca < V2 (zp_mv a p r) then ca else V2 (zp_mv a p r)))).1 43 x = zn (if x = zp_mv a p r then (if ca < V2 (zp_mv a p r) then ca else V2 (zp_mv a p r)) else V2 x)
          rw [zq_g1]
          by_cases e : x = zp_mv a p r
          · rw [if_pos ⟨rfl, e⟩, if_pos e]
          · rw [if_neg (fun h => e h.2), if_neg e]; exact e2 x hx
        · intro x
          dsimp only
          split
          · split <;> omega
          · exact e3 x
        · refine zJ_yes e4 hp hr (by simp [hmay, hL]) ?_
          intro x v
          dsimp only
          rw [hce]
          by_cases e : x = zp_mv a p r
          · subst e
            rw [if_pos rfl]
            constructor
            · rintro ⟨h1, h2⟩
              by_cases c : ca < V2 (zp_mv a p r)
              · rw [if_pos c] at h1; exact Or.inr ⟨rfl, h1, h2⟩
              · rw [if_neg c] at h1; exact Or.inl ⟨h1, h2⟩
            · rintro (⟨h1, h2⟩ | ⟨h1, h2, h3⟩)
              · refine ⟨?_, h2⟩; split <;> omega
              · refine ⟨?_, h3⟩; split <;> omega
          · rw [if_neg e]
            constructor
            · intro h; exact Or.inl h
            · rintro (h | ⟨h1, h2⟩)
              · exact h
              · exact absurd h1.symm e
    · rintro g2 ⟨X2, V2⟩ ⟨e1, e2, e3, e4⟩
      dsimp only at e1 e2 e3 e4 ⊢
      unfold b_X9_leave_18
      rw [zl_4, if_pos (by rw [zn_le (by omega) (by omega)]; omega), zl_1, zn_add]
      exact ih (X2, V2) ⟨e1, e2, e3, zJ_p e4⟩
  · rintro g ⟨X1, V1⟩ ⟨f1, f2, f3, f4⟩
    dsimp only at f1 f2 f3 f4 ⊢
    unfold b_X9_leave_2
    rw [f1.2 1 (by omega), hG.1.1, if_pos (by rw [zn_le (by omega) (by omega)]; omega)]
    exact ⟨X1, V1, rfl, f1, f2, f3, zJ_a f4⟩
