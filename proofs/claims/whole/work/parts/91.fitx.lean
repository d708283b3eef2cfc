theorem zF_mid {N j n m s : Nat} {X : zq_M} {ρ : Nat → Nat} (hN : 20 < N) (hn : n ≤ 5) (X0 : X.1 1 0 = zn n) (hm : m < 32) (hs : s < n) (hρ : ∀ p, p < n → X.1 53 p = zn (ρ p) ∧ ρ p < 32) (ho : zs_cnt (zs_bit m) 10 % 2 = 1) : f_X4_isMiddle N j X (zn s) (zn m) = some (zn (if 2 * zF_low n m s ρ + 1 = zs_cnt (zs_bit m) 10 then 1 else 0)) := by
  unfold f_X4_isMiddle
  refine zL (α := Int32 → Int32 → Option Int32) (fun (v : Int32) p f => f v (zn p)) (fun k v => v = zn (zs_cnt (fun p => zs_bit m p && decide (ρ p < ρ s)) k)) (fun o => o = some (zn (if 2 * zF_low n m s ρ + 1 = zs_cnt (zs_bit m) 10 then 1 else 0))) n ?_ ?_ N 0 0 (by omega) (by omega) rfl
  · intro rc p v hp hv ih
    have e1 : zn p + (1 : Int32) = zn (p + 1) := zn_add p 1
    have eb : (zq_shr (zn m) (zn p) &&& 1 = 1) = (zs_bit m p = true) := zn_bit (by omega) (by omega)
    unfold b_X4_isMiddle_5
    rw [X0, if_neg (by rw [zn_le (by omega) (by omega)]; omega), e1]
    simp only [eb]
    cases c : zs_bit m p
    · rw [if_pos (by decide)]
      refine ih _ ?_
      rw [zs_cf (by simp [c]), hv]
    · rw [if_neg (by decide), zn_ck (by omega) (by omega), zn_ck (by omega) (by omega), zn_ix (by omega), zn_ix (by omega), (hρ p hp).1, (hρ _ hs).1]
      have b1 := (hρ p hp).2
      have b2 := (hρ _ hs).2
      have e2 : (zn (ρ s) ≤ zn (ρ p)) = (ρ s ≤ ρ p) := zn_le (by omega) (by omega)
      simp only [e2]
      by_cases c2 : ρ s ≤ ρ p
      · rw [if_pos c2]
        refine ih _ ?_
        rw [zs_cf (by simp [c]; omega), hv]
      · rw [if_neg c2]
        refine ih _ ?_
        rw [zs_ct (by simp [c]; omega), hv, zl_1, zn_add]
  · intro rc v hv
    have k1 := zs_cle (fun p => zs_bit m p && decide (ρ p < ρ s)) n
    have k2 := zs_cle (zs_bit m) 10
    unfold b_X4_isMiddle_5
    rw [X0, if_pos (by rw [zn_le (by omega) (by omega)]; omega)]
    unfold k_X4_isMiddle_52_2
    have w4 : f_J6_bitCount_0f7a4 N (zq_shX j) X (zn m) = some (zn (zs_cnt (zs_bit m) 10)) := zb_c _ _ _ (by omega)
    rw [w4, Option.bind_some, hv, zl_2, zn_div (by omega) (by omega)]
    have e2 : (zn (zs_cnt (fun p => zs_bit m p && decide (ρ p < ρ s)) n) = zn (zs_cnt (zs_bit m) 10 / 2)) = (zF_low n m s ρ = zs_cnt (zs_bit m) 10 / 2) := zn_eq (by omega) (by omega)
    simp only [e2]
    by_cases c : zF_low n m s ρ = zs_cnt (zs_bit m) 10 / 2
    · rw [if_neg (fun h => h c), if_pos (by omega)]; rfl
    · rw [if_pos c, if_neg (by omega)]; rfl
theorem zF_gwa {N j n R : Nat} {X : zq_M} {m s ρ : Nat → Nat} (hN : 20 < N) (hD : zF_D n R m s) (hX : zF_X X n R m s) (hρ : ∀ p, p < n → X.1 53 p = zn (ρ p) ∧ ρ p < 32) : f_X4_goesWithAll N j X = some (zn (zF_g n R m s ρ)) := by
  obtain ⟨hn, hR, hd⟩ := hD
  obtain ⟨X0, X11, Xr⟩ := hX
  unfold f_X4_goesWithAll
  refine zL (α := Int32 → Option Int32) (fun (_ : Unit) i f => f (zn i)) (fun i _ => zs_any (zF_bad n m s ρ) i = false) (fun o => o = some (zn (zF_g n R m s ρ))) R ?_ ?_ N 0 () (by omega) (by omega) rfl
  · intro rc i _ hi h1 ih
    obtain ⟨d1, d2, d3⟩ := hd i hi
    obtain ⟨r1, r2⟩ := Xr i hi
    have e1 : zn i + (1 : Int32) = zn (i + 1) := zn_add i 1
    unfold b_X4_goesWithAll_2
    rw [X11, if_neg (by rw [zn_le (by omega) (by omega)]; omega), zn_ck (by omega) (by omega), zn_ck (by omega) (by omega), zn_ix (by omega), r1, r2, zF_mid hN hn X0 d1 d2 hρ d3, Option.bind_some, e1]
    by_cases c : 2 * zF_low n (m i) (s i) ρ + 1 = zs_cnt (zs_bit (m i)) 10
    · rw [if_pos c, if_pos (by decide)]
      exact ih () (zs_any_f h1 (zF_bf c))
    · rw [if_neg c, if_neg (by decide), zF_gt hi c]; rfl
  · intro rc _ h1
    unfold b_X4_goesWithAll_2
    rw [X11, if_pos (by rw [zn_le (by omega) (by omega)]; omega), zF_gf h1]
    rfl
theorem zs_cins {f : Nat → Bool} {p : Nat} (hp : f p = false) : ∀ n, zs_cnt (fun q => f q || p == q) n = zs_cnt f n + if p < n then 1 else 0
  | 0 => by rw [if_neg (by omega)]; rfl
  | n + 1 => by
    have ih := zs_cins hp n
    by_cases h : p = n
    · subst h
      rw [zs_ct (p := fun q => f q || p == q) (by simp), zs_cf (p := f) (by simp [hp]), ih, if_neg (by omega), if_pos (by omega)]
    · cases c : f n
      · rw [zs_cf (p := fun q => f q || p == q) (by simp [c, h]), zs_cf (p := f) (by simp [c]), ih]
        by_cases h2 : p < n
        · rw [if_pos h2, if_pos (by omega)]
        · rw [if_neg h2, if_neg (by omega)]
      · rw [zs_ct (p := fun q => f q || p == q) (by simp [c]), zs_ct (p := f) (by simp [c]), ih]
        by_cases h2 : p < n
        · rw [if_pos h2, if_pos (by omega)]
        · rw [if_neg h2, if_neg (by omega)]
theorem zF_bq (p q : Nat) : (p == q) = Nat.beq p q := by rw [Bool.eq_iff_iff, zF_beq, beq_iff_eq]
theorem zF_dfs {N j n R : Nat} {X : zq_M} {m s : Nat → Nat} (hN : 20 < N) (hD : zF_D n R m s) (hX : zF_X X n R m s) : ∀ k F S l X3, k < F → l.length + k = n → S < 32 → (∀ q, zs_bit S q = zF_m l q) → zs_cnt (zs_bit S) n + k = n → zf1 53 X X3 → (∀ q, zF_m l q = true → X3.1 53 q = zn (zF_i l q)) → ∃ X4, zq_loop (fun _ _ _ => none) (B_X4_fittingFrom N j) F (zn l.length) (zn S) X3 = some (zn (zF_v (fun l => zF_g n R m s (zF_i l)) n k l), X4) ∧ zf1 53 X X4 ∧ ∀ q, zF_m l q = true → X4.1 53 q = zn (zF_i l q) := by
  intro k
  have hn := hD.1
  induction k with
  | zero =>
    intro F S l X3 hF hl hS hSm hc hf hr
    obtain ⟨F, rfl⟩ : ∃ G, F = G + 1 := ⟨F - 1, by omega⟩
    have hX3 : zF_X X3 n R m s := ⟨by rw [hf.2 1 (by omega)]; exact hX.1, by rw [hf.2 1 (by omega)]; exact hX.2.1, fun i hi => by rw [hf.2 8 (by omega), hf.2 9 (by omega)]; exact hX.2.2 i hi⟩
    have hall : ∀ p, p < n → zF_m l p = true := by
      intro p hp
      by_cases h : zF_m l p = true
      · exact h
      · have := zs_clt (p := zs_bit S) hp (by rw [hSm]; exact h)
        omega
    show ∃ X4, B_X4_fittingFrom N j (zq_loop (fun _ _ _ => none) (B_X4_fittingFrom N j) F) (zn l.length) (zn S) X3 = some (zn (zF_g n R m s (zF_i l)), X4) ∧ _
    unfold B_X4_fittingFrom
    rw [hX3.1, if_neg (by rw [zn_lt (by omega) (by omega)]; omega), zF_gwa hN hD hX3 (fun p hp => ⟨hr p (hall p hp), by have := zF_il p l (hall p hp); omega⟩), Option.bind_some]
    have hg2 : zF_g n R m s (zF_i l) = 0 ∨ zF_g n R m s (zF_i l) = 1 := by unfold zF_g; split <;> simp
    rcases hg2 with hg2 | hg2
    · rw [hg2]; exact ⟨X3, rfl, hf, hr⟩
    · rw [hg2]; exact ⟨X3, rfl, hf, hr⟩
  | succ k ihk =>
    intro F S l X3 hF hl hS hSm hc hf hr
    obtain ⟨F, rfl⟩ : ∃ G, F = G + 1 := ⟨F - 1, by omega⟩
    show ∃ X4, B_X4_fittingFrom N j (zq_loop (fun _ _ _ => none) (B_X4_fittingFrom N j) F) (zn l.length) (zn S) X3 = some (zn (zs_sum (fun p => if zF_m l p = true then 0 else zF_v (fun l => zF_g n R m s (zF_i l)) n k (l ++ [p])) n), X4) ∧ _
    generalize hG : zq_loop (fun _ _ _ => none) (B_X4_fittingFrom N j) F = G
    unfold B_X4_fittingFrom
    rw [show X3.1 1 0 = zn n by rw [hf.2 1 (by omega)]; exact hX.1, if_pos (by rw [zn_lt (by omega) (by omega)]; omega)]
    refine zL (α := Int32 → Int32 → zq_M → Option (Int32 × zq_M)) (fun (t : Nat × zq_M) p f => f (zn t.1) (zn p) t.2) (fun p t => t.1 = zs_sum (fun p => if zF_m l p = true then 0 else zF_v (fun l => zF_g n R m s (zF_i l)) n k (l ++ [p])) p ∧ zf1 53 X t.2 ∧ ∀ q, zF_m l q = true → t.2.1 53 q = zn (zF_i l q)) (fun o => ∃ X4, o = some (zn (zs_sum (fun p => if zF_m l p = true then 0 else zF_v (fun l => zF_g n R m s (zF_i l)) n k (l ++ [p])) n), X4) ∧ zf1 53 X X4 ∧ ∀ q, zF_m l q = true → X4.1 53 q = zn (zF_i l q)) n ?_ ?_ N 0 (0, X3) (by omega) (by omega) ⟨rfl, hf, hr⟩
    · intro rc p t hp h1 ih
      obtain ⟨w, X5⟩ := t
      obtain ⟨p1, p2, p3⟩ := h1
      dsimp only at p1 p2 p3 ⊢
      have e1 : zn p + (1 : Int32) = zn (p + 1) := zn_add p 1
      have eb : (zq_shr (zn S) (zn p) &&& 1 = 0) = (zs_bit S p = false) := zn_bit0 (by omega) (by omega)
      unfold b_X4_fittingFrom_29
      rw [show X5.1 1 0 = zn n by rw [p2.2 1 (by omega)]; exact hX.1, if_neg (by rw [zn_le (by omega) (by omega)]; omega), e1]
      simp only [eb]
      cases c : zF_m l p
      · rw [hSm, c, if_neg (fun h => h rfl), zn_ck (by omega) (by omega), zn_ix (by omega)]
        simp only [zq_b]
        rw [zl_1, zn_add, zn_shl (by omega), zn_or, Nat.one_mul]
        have hlen : (l ++ [p]).length = l.length + 1 := by rw [List.length_append]; rfl
        have hq5 : ∀ q, zF_m (l ++ [p]) q = true → (zq_u1 X5 53 p (zn l.length)).1 53 q = zn (zF_i (l ++ [p]) q) := by
          intro q hq
          by_cases h9 : q = p
          · subst h9
            rw [zq_g1, if_pos ⟨rfl, rfl⟩, zF_in q l c]
          · rw [zF_ma, Bool.or_eq_true] at hq
            rcases hq with hq | hq
            · rw [zq_us1 (by omega), zF_ia p q l hq]; exact p3 q hq
            · exact absurd ((zF_beq _ _).mp hq).symm h9
        obtain ⟨X6, x1, x2, x3⟩ := ihk F (S ||| 2 ^ p) (l ++ [p]) (zq_u1 X5 53 p (zn l.length)) (by omega) (by omega) (Nat.or_lt_two_pow (n := 5) hS (Nat.pow_lt_pow_right (by omega) (by omega))) (fun q => by
          rw [zs_bor, zs_b2p, zF_ma, hSm]
          rw [zF_bq]) (by
          have h7 : zs_cnt (zs_bit (S ||| 2 ^ p)) n = zs_cnt (fun q => zs_bit S q || p == q) n := by
            apply zs_ccg
            intro q _
            rw [zs_bor, zs_b2p]
          rw [h7, zs_cins (by rw [hSm]; exact c), if_pos hp]
          omega) ⟨p2.1, fun c hc => by rw [zq_un hc]; exact p2.2 c hc⟩ hq5
        rw [hlen, hG] at x1
        rw [x1, Option.bind_some]
        have h2 := ih (w + zF_v (fun l => zF_g n R m s (zF_i l)) n k (l ++ [p]), X6) ⟨by rw [p1]; show _ = _ + (if zF_m l p = true then 0 else _); rw [c, if_neg (by decide)], x2, fun q hq => by
          rw [x3 q (by rw [zF_ma, hq]; rfl), zF_ia p q l hq]⟩
        rw [← zn_add] at h2
        exact h2
      · rw [hSm, c, if_pos (by decide)]
        exact ih (w, X5) ⟨by rw [p1]; show _ = _ + (if zF_m l p = true then 0 else _); rw [c, if_pos rfl]; rfl, p2, p3⟩
    · intro rc t h1
      obtain ⟨w, X5⟩ := t
      obtain ⟨p1, p2, p3⟩ := h1
      dsimp only at p1 p2 p3 ⊢
      unfold b_X4_fittingFrom_29
      rw [show X5.1 1 0 = zn n by rw [p2.2 1 (by omega)]; exact hX.1, if_pos (by rw [zn_le (by omega) (by omega)]; omega), p1]
      exact ⟨X5, rfl, p2, p3⟩
theorem zF_low_ext {n m s : Nat} {f g : Nat → Nat} (hs : s < n) (h : ∀ p, p < n → f p = g p) : zF_low n m s f = zF_low n m s g := by
  unfold zF_low
  apply zs_ccg
  intro p hp
  rw [h p hp, h s hs]
theorem zF_ext {n R : Nat} {m s f g : Nat → Nat} (hD : zF_D n R m s) (h : ∀ p, p < n → f p = g p) : zF_g n R m s f = zF_g n R m s g := by
  have hb : ∀ i, i < R → zF_bad n m s f i = zF_bad n m s g i := by
    intro i hi
    unfold zF_bad
    rw [zF_low_ext (hD.2.2 i hi).2.1 h]
  have hany : zs_any (zF_bad n m s f) R = zs_any (zF_bad n m s g) R := by
    rw [Bool.eq_iff_iff, zs_any_iff, zs_any_iff]
    constructor
    · rintro ⟨i, hi, h3⟩; exact ⟨i, hi, by rw [← hb i hi]; exact h3⟩
    · rintro ⟨i, hi, h3⟩; exact ⟨i, hi, by rw [hb i hi]; exact h3⟩
  unfold zF_g
  rw [hany]
theorem zs_c00 : ∀ n, zs_cnt (zs_bit 0) n = 0
  | 0 => rfl
  | n + 1 => by
    rw [zs_cf (by rw [zs_bt]; simp), zs_c00 n]
theorem zI_fits (N : Nat) (hN : 4000 < N) : zq_op_fits N zI := by
  intro q j X M hq hI
  have hI1 := zI_idle q j X M hI
  obtain ⟨⟨h1, -, -, -, -, -, -, -, -, h10, h11, h12, -, -, -, -, h17⟩, ⟨e1, -, -, -, -, e6, -, -, -, -, -, -, e13, e14, -⟩⟩ := hI.1
  obtain ⟨n, hn, n1⟩ := h1
  obtain ⟨R, hR, r1⟩ := h10
  have hzn : zx X 1 0 = n := by unfold zx; rw [n1, zn_ix (by omega)]
  have hzr : zx X 1 11 = R := by unfold zx; rw [r1, zn_ix (by omega)]
  by_cases c0 : n = 0
  · unfold f_X10_fits f_X11_fits
    rw [e1, n1, c0, if_neg (fun h => h rfl), if_neg (fun h => h rfl)]
    exact ⟨_, _, _, rfl, rfl, hI1⟩
  have hD : zF_D n R (zx X 8) (zx X 9) := by
    refine ⟨by omega, by omega, fun i hi => ?_⟩
    have h18 := h17 i (by omega) (by omega)
    have h19 := (zv_bz (by omega) (h11 i (by omega))).2
    rw [hzn] at h18
    exact ⟨h19, h18.2, h18.1⟩
  have hX : zF_X X n R (zx X 8) (zx X 9) := ⟨n1, r1, fun i hi => ⟨(zv_bz (by omega) (h11 i (by omega))).1, (zv_bz (by omega) (h12 i (by omega))).1⟩⟩
  have hM : zF_M M n R (zx X 8) (zx X 9) := ⟨e1.trans n1, e6.trans r1, fun i hi => ⟨(e13 i (by omega)).trans (hX.2.2 i hi).1, (e14 i (by omega)).trans (hX.2.2 i hi).2⟩⟩
  obtain ⟨M1, m1, m2⟩ := zF_fm (N := N) hN (by omega) hD hM
  obtain ⟨X1, x1, x2, -⟩ := zF_dfs (N := N) (j := j) (by omega) hD hX n 64 0 [] X (by omega) (by rw [List.length_nil]; omega) (by omega) (fun q => by rw [zs_bt, Nat.zero_testBit]; rfl) (by
    have := zs_c00 n
    omega) ⟨rfl, fun _ _ => rfl⟩ (fun q h => by cases h)
  rw [zF_bridge (by omega) (by omega) (zF_g n R (zx X 8) (zx X 9)) (fun f g h => zF_ext hD h)] at x1
  refine ⟨_, X1, M1, ?_, m1, ?_⟩
  · unfold f_X10_fits
    rw [n1, if_pos (by rw [zl_0, zn_eq (by omega) (by omega)]; exact c0)]
    refine za_c (v := zn _) (X := X1) ?_ rfl
    unfold f_X4_fitting f_X4_fittingFrom fr_X4_fittingFrom
    exact za_c x1 rfl
  · refine zI_scr ⟨fun c hc => x2.2 c (by omega), by rw [x2.2 54 (by omega)], by rw [x2.1], by rw [x2.1], by rw [x2.1]⟩ ⟨fun k hk => by rw [m2.2 69 (by omega)], fun c hc => m2.2 c (by omega), by rw [m2.1]⟩ hI1
