def zls (n : Nat) (F : Nat → Nat → Nat) : Nat := zs_sum (fun p => zs_sum (F p) 4) n
def zlw (S : Nat → Nat → Nat) (B : Nat → Nat → Nat → Bool) (a : Nat) : Nat := zls (S 0 0) (fun p r => if zp_may (S 0 0) B a p r = true then 1 else 0)
def zlu (S : Nat → Nat → Nat) (who a g : Nat) : Bool := zU S a (a / 4 ^ who % 4) g who
def zlsh (S : Nat → Nat → Nat) (B : Nat → Nat → Nat → Bool) (who : Nat) : Nat → Nat → Nat → Nat → Nat
  | 0, a, g, s => if zlu S who a g = true then s else 0
  | l + 1, a, g, s => if zlw S B a = 0 then (if zlu S who a g = true then s else 0) else zls (S 0 0) (fun p r => if zp_may (S 0 0) B a p r = true then zlsh S B who l (zp_mv a p r) (g + 1) (s / zlw S B a) else 0)
theorem zs_suml {f : Nat → Nat} {m : Nat} : ∀ n, (∀ k, k < n → f k ≤ m) → zs_sum f n ≤ m * n := by
  intro n
  induction n with
  | zero => intro _; exact Nat.le_refl _
  | succ n ih =>
    intro h
    have h1 := ih (fun k hk => h k (by omega))
    have h2 := h n (by omega)
    show zs_sum f n + f n ≤ m * (n + 1)
    rw [Nat.mul_succ]; omega
theorem zls_l {n m : Nat} {F : Nat → Nat → Nat} (hn : n ≤ 5) (h : ∀ p r, p < n → r < 4 → F p r ≤ m) : zls n F ≤ m * 20 := by
  have h1 : zls n F ≤ (m * 4) * n := zs_suml n (fun p hp => zs_suml 4 (fun r hr => h p r hp hr))
  have h2 : (m * 4) * n ≤ (m * 4) * 5 := Nat.mul_le_mul_left _ hn
  omega
theorem zlw_15 {S : Nat → Nat → Nat} {B : Nat → Nat → Nat → Bool} {a : Nat} (hn : S 0 0 ≤ 5) : zlw S B a ≤ 15 := by
  have : zlw S B a ≤ 3 * S 0 0 := by
    refine zs_suml (S 0 0) (fun p hp => ?_)
    have hf : ∀ r, r = a / 4 ^ p % 4 → (if zp_may (S 0 0) B a p r = true then 1 else 0) = 0 := by
      intro r hr
      rw [if_neg]
      unfold zp_may
      simp [hr]
    have hle : ∀ r, (if zp_may (S 0 0) B a p r = true then 1 else 0) ≤ 1 := by intro r; split <;> omega
    have l0 := hle 0
    have l1 := hle 1
    have l2 := hle 2
    have l3 := hle 3
    show 0 + (if zp_may (S 0 0) B a p 0 = true then 1 else 0) + (if zp_may (S 0 0) B a p 1 = true then 1 else 0) + (if zp_may (S 0 0) B a p 2 = true then 1 else 0) + (if zp_may (S 0 0) B a p 3 = true then 1 else 0) ≤ 3
    have h4 : a / 4 ^ p % 4 = 0 ∨ a / 4 ^ p % 4 = 1 ∨ a / 4 ^ p % 4 = 2 ∨ a / 4 ^ p % 4 = 3 := by omega
    rcases h4 with h4 | h4 | h4 | h4
    · have := hf 0 h4.symm; omega
    · have := hf 1 h4.symm; omega
    · have := hf 2 h4.symm; omega
    · have := hf 3 h4.symm; omega
  omega
theorem zlsh_l {S : Nat → Nat → Nat} {B : Nat → Nat → Nat → Bool} {who : Nat} (hn : S 0 0 ≤ 5) : ∀ l a g s, zlsh S B who l a g s ≤ s * 20 ^ l := by
  intro l
  induction l with
  | zero =>
    intro a g s
    show (if zlu S who a g = true then s else 0) ≤ _
    split <;> omega
  | succ l ih =>
    intro a g s
    have h20 : 1 ≤ 20 ^ (l + 1) := Nat.pow_pos (by omega)
    show (if zlw S B a = 0 then (if zlu S who a g = true then s else 0) else _) ≤ _
    split
    · have : s * 1 ≤ s * 20 ^ (l + 1) := Nat.mul_le_mul_left _ h20
      split <;> omega
    · have := zls_l (n := S 0 0) (m := s * 20 ^ l) (F := fun p r => if zp_may (S 0 0) B a p r = true then zlsh S B who l (zp_mv a p r) (g + 1) (s / zlw S B a) else 0) hn (fun p r _ _ => by
        split
        · exact Nat.le_trans (ih _ _ _) (Nat.mul_le_mul_right _ (Nat.div_le_self _ _))
        · omega)
      rw [Nat.pow_succ, ← Nat.mul_assoc]
      exact this
theorem zl_ways {N j h a : Nat} {X : zq_M} {S : Nat → Nat → Nat} {P : Nat → Nat → Nat → Nat} {B : Nat → Nat → Nat → Bool} (hN : 1100 < N) (hS : zyB S) (hG : zyGX j X S h P B) (ha : a < 4 ^ S 0 0) : f_X8_waysOn N j X (zn a) = some (zn (zlw S B a)) := by
  have hn := hS.1
  have h4n := zs_p4 hn
  unfold f_X8_waysOn
  refine zL (α := Int32 → Int32 → Option Int32) (fun (_ : Unit) p f => f (zn (zs_sum (fun p => zs_sum (fun r => if zp_may (S 0 0) B a p r = true then 1 else 0) 4) p)) (zn p)) (fun _ _ => True) (fun o => o = some (zn (zlw S B a))) (S 0 0) ?_ ?_ N 0 () (by omega) (by omega) trivial
  · intro f p _ hp _ ih
    have ih := ih () trivial
    unfold b_X8_waysOn_4
    rw [hG.1.1, if_neg (by rw [zn_le (by omega) (by omega)]; omega)]
    refine zL (α := Int32 → Int32 → Option Int32) (fun (_ : Unit) r f => f (zn (zs_sum (fun p => zs_sum (fun r => if zp_may (S 0 0) B a p r = true then 1 else 0) 4) p + zs_sum (fun r => if zp_may (S 0 0) B a p r = true then 1 else 0) r)) (zn r)) (fun _ _ => True) (fun o => o = some (zn (zlw S B a))) 4 ?_ ?_ N 0 () (by omega) (by omega) trivial
    · intro f2 r _ hr _ ih2
      have ih2 := ih2 () trivial
      have q3 : (zn r : Int32) + 1 = zn (r + 1) := zn_add _ 1
      unfold b_X8_waysOn_21
      rw [zl_4, if_neg (by rw [zn_le (by omega) (by omega)]; omega), zy_mcX hG.1.1 hn hG.2.2.2 (by omega) hp hr, q3]
      simp only [Option.bind_some]
      have es : zs_sum (fun r => if zp_may (S 0 0) B a p r = true then 1 else 0) (r + 1) = zs_sum (fun r => if zp_may (S 0 0) B a p r = true then 1 else 0) r + (if zp_may (S 0 0) B a p r = true then 1 else 0) := rfl
      rw [es] at ih2
      cases hm : zp_may (S 0 0) B a p r with
      | false => rw [hm] at ih2; rw [if_pos (by rfl)]; exact ih2
      | true => rw [hm] at ih2; rw [if_neg (by decide), zl_1, zn_add]; exact ih2
    · intro f2 _ _
      unfold b_X8_waysOn_21
      rw [zl_4, if_pos (by rw [zn_le (by omega) (by omega)]; omega), zl_1, zn_add]
      exact ih
  · intro f _ _
    unfold b_X8_waysOn_4
    rw [hG.1.1, if_pos (by rw [zn_le (by omega) (by omega)]; omega)]
    rfl
theorem zl_shX {N j h who : Nat} {S : Nat → Nat → Nat} {P : Nat → Nat → Nat → Nat} {B : Nat → Nat → Nat → Bool} (hN : 1100 < N) (hS : zyB S) (hw : who < S 0 0) : ∀ (l K : Nat), l < K → l ≤ 2 → ∀ (a g s : Nat) (X : zq_M), zyGX j X S h P B → a < 4 ^ S 0 0 → g + l < 50000 → s ≤ 129859329600 → ∃ X1, zq_loop (fun _ _ _ _ _ _ => none) (B_X8_sharesSpeaking N j) K (zn who) (zn a) (zn g) (zn l) (zm s) X = some (zm (zlsh S B who l a g s), X1) ∧ zf1 37 X X1 := by
  have hn := hS.1
  have h4n := zs_p4 hn
  have leaf : ∀ (a g s : Nat) (X : zq_M) (l : Nat) (rc : Int32 → Int32 → Int32 → Int32 → Int64 → zq_M → Option (Int64 × zq_M)), zyGX j X S h P B → a < 4 ^ S 0 0 → g < 50000 → ∃ X1, j_X8_sharesSpeaking_14 N j X (zn who) (zn a) (zn g) (zn l) (zm s) rc (0 : Int32) = some (zm (if zlu S who a g = true then s else 0), X1) ∧ zf1 37 X X1 := by
    intro a g s X l rc hG ha hg
    obtain ⟨X1, e1, e2, e3⟩ := zg_spk (N := N) (r := a / 4 ^ who % 4) hN hS hG (by omega) ha (show g < 100000 by omega)
    unfold j_X8_sharesSpeaking_14
    rw [if_neg (by decide), zn_plc (by omega) (by omega)]
    simp only [zq_b]
    rw [e1]
    simp only [Option.bind_some]
    rw [e2]
    simp only [Option.bind_some, zq_p]
    have eb := zn_bset (fun p => zU S a (a / 4 ^ who % 4) g p) hn hw
    simp only [eb]
    refine ⟨X1, ?_, e3⟩
    unfold zlu
    by_cases c : zU S a (a / 4 ^ who % 4) g who = true
    · rw [if_neg (fun h => h c), if_pos c]
    · rw [if_pos c, if_neg c]; rfl
  intro l
  induction l with
  | zero =>
    intro K hK _ a g s X hG ha hg hs
    obtain ⟨K, rfl⟩ : ∃ K1, K = K1 + 1 := ⟨K - 1, by omega⟩
    show ∃ X1, B_X8_sharesSpeaking N j _ (zn who) (zn a) (zn g) (zn 0) (zm s) X = _ ∧ _
    unfold B_X8_sharesSpeaking
    rw [if_pos (by decide)]
    exact leaf a g s X 0 _ hG ha (by omega)
  | succ l ih =>
    intro K hK hl2 a g s X hG ha hg hs
    obtain ⟨K, rfl⟩ : ∃ K1, K = K1 + 1 := ⟨K - 1, by omega⟩
    show ∃ X1, B_X8_sharesSpeaking N j (zq_loop (fun _ _ _ _ _ _ => none) (B_X8_sharesSpeaking N j) K) (zn who) (zn a) (zn g) (zn (l + 1)) (zm s) X = _ ∧ _
    generalize hrc : zq_loop (fun _ _ _ _ _ _ => none) (B_X8_sharesSpeaking N j) K = rc at *
    have ih' : ∀ (a g s : Nat) (X : zq_M), zyGX j X S h P B → a < 4 ^ S 0 0 → g + l < 50000 → s ≤ 129859329600 → ∃ X1, rc (zn who) (zn a) (zn g) (zn l) (zm s) X = some (zm (zlsh S B who l a g s), X1) ∧ zf1 37 X X1 := by
      rw [← hrc]; exact fun a g s X h1 h2 h3 h4 => ih K (by omega) (by omega) a g s X h1 h2 h3 h4
    have hw15 := zlw_15 (B := B) (a := a) hn
    have q1 : (zn (l + 1) - 1 : Int32) = zn l := by
      have := zn_sub (a := l + 1) (b := 1) (by omega)
      exact this
    have q2 : (zn g + 1 : Int32) = zn (g + 1) := zn_add _ 1
    unfold B_X8_sharesSpeaking
    rw [if_neg (by rw [zl_0, zn_le (by omega) (by omega)]; omega), zl_ways hN hS hG ha]
    simp only [Option.bind_some]
    have ezl : zlsh S B who (l + 1) a g s = if zlw S B a = 0 then (if zlu S who a g = true then s else 0) else zls (S 0 0) (fun p r => if zp_may (S 0 0) B a p r = true then zlsh S B who l (zp_mv a p r) (g + 1) (s / zlw S B a) else 0) := rfl
    rw [ezl]
    by_cases c : zlw S B a = 0
    · rw [c, if_pos rfl]
      exact leaf a g s X (l + 1) rc hG ha (by omega)
    · rw [if_neg c]
      unfold j_X8_sharesSpeaking_14
      have gw : (zn (zlw S B a) = 0) = (zlw S B a = 0) := zn_eq (b := 0) (by omega) (by omega)
      rw [if_pos (by rw [gw]; exact c)]
      refine zL (α := Int64 → Int32 → zq_M → Option (Int64 × zq_M)) (fun (X2 : zq_M) p f => f (zm (zs_sum (fun p => zs_sum (fun r => if zp_may (S 0 0) B a p r = true then zlsh S B who l (zp_mv a p r) (g + 1) (s / zlw S B a) else 0) 4) p)) (zn p) X2) (fun _ X2 => zf1 37 X X2) (fun o => ∃ X1, o = some (zm (zls (S 0 0) (fun p r => if zp_may (S 0 0) B a p r = true then zlsh S B who l (zp_mv a p r) (g + 1) (s / zlw S B a) else 0)), X1) ∧ zf1 37 X X1) (S 0 0) ?_ ?_ N 0 X (by omega) (by omega) (zf1_r _ _)
      · intro f p X2 hp f1 ih1
        have ih1' := ih1
        unfold b_X8_sharesSpeaking_75
        rw [f1.2 1 (by omega), hG.1.1, if_neg (by rw [zn_le (by omega) (by omega)]; omega)]
        refine zL (α := Int64 → Int32 → zq_M → Option (Int64 × zq_M)) (fun (X3 : zq_M) r f => f (zm (zs_sum (fun p => zs_sum (fun r => if zp_may (S 0 0) B a p r = true then zlsh S B who l (zp_mv a p r) (g + 1) (s / zlw S B a) else 0) 4) p + zs_sum (fun r => if zp_may (S 0 0) B a p r = true then zlsh S B who l (zp_mv a p r) (g + 1) (s / zlw S B a) else 0) r)) (zn r) X3) (fun _ X3 => zf1 37 X X3) (fun o => ∃ X1, o = some (zm (zls (S 0 0) (fun p r => if zp_may (S 0 0) B a p r = true then zlsh S B who l (zp_mv a p r) (g + 1) (s / zlw S B a) else 0)), X1) ∧ zf1 37 X X1) 4 ?_ ?_ N 0 X2 (by omega) (by omega) f1
        · intro f2 r X3 hr e1 ih2
          have G3 := zyGX_1 (by omega) e1 hG
          have q3 : (zn r : Int32) + 1 = zn (r + 1) := zn_add _ 1
          have es : zs_sum (fun r => if zp_may (S 0 0) B a p r = true then zlsh S B who l (zp_mv a p r) (g + 1) (s / zlw S B a) else 0) (r + 1) = zs_sum (fun r => if zp_may (S 0 0) B a p r = true then zlsh S B who l (zp_mv a p r) (g + 1) (s / zlw S B a) else 0) r + (if zp_may (S 0 0) B a p r = true then zlsh S B who l (zp_mv a p r) (g + 1) (s / zlw S B a) else 0) := rfl
          rw [es] at ih2
          unfold b_X8_sharesSpeaking_93
          rw [zl_4, if_neg (by rw [zn_le (by omega) (by omega)]; omega), zy_mcX G3.1.1 hn G3.2.2.2 (by omega) hp hr, q3]
          simp only [Option.bind_some]
          cases hm : zp_may (S 0 0) B a p r with
          | false =>
            rw [hm] at ih2
            rw [if_pos (by rfl)]
            exact ih2 X3 e1
          | true =>
            rw [hm] at ih2
            rw [if_neg (by decide), zy_mvX N j X3 (by omega) hr (by omega)]
            have hmv := zp_mlt hn ha hp hr
            simp only [Option.bind_some]
            rw [zm_of (by omega), zm_dw (by omega) c, q1, q2, zm_div (by omega) (by omega)]
            obtain ⟨X4, z1, z2⟩ := ih' (zp_mv a p r) (g + 1) (s / zlw S B a) X3 G3 hmv (by omega) (Nat.le_trans (Nat.div_le_self _ _) hs)
            rw [z1]
            simp only [Option.bind_some, zq_p]
            rw [zm_add, Nat.add_assoc]
            exact ih2 X4 (zf1_t e1 z2)
        · intro f2 X3 e1
          unfold b_X8_sharesSpeaking_93
          rw [zl_4, if_pos (by rw [zn_le (by omega) (by omega)]; omega), zl_1, zn_add]
          exact ih1' X3 e1
      · intro f X2 f1
        unfold b_X8_sharesSpeaking_75
        rw [f1.2 1 (by omega), hG.1.1, if_pos (by rw [zn_le (by omega) (by omega)]; omega)]
        exact ⟨X2, rfl, f1⟩
