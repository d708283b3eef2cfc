def zF_low (n m s : Nat) (ρ : Nat → Nat) : Nat := zs_cnt (fun p => zs_bit m p && decide (ρ p < ρ s)) n
def zF_bad (n : Nat) (m s ρ : Nat → Nat) (i : Nat) : Bool := !(2 * zF_low n (m i) (s i) ρ + 1 == zs_cnt (zs_bit (m i)) 10)
def zF_g (n R : Nat) (m s ρ : Nat → Nat) : Nat := if zs_any (zF_bad n m s ρ) R = true then 0 else 1
def zF_D (n R : Nat) (m s : Nat → Nat) : Prop := n ≤ 5 ∧ R ≤ 12 ∧ ∀ i, i < R → m i < 32 ∧ s i < n ∧ zs_cnt (zs_bit (m i)) 10 % 2 = 1
def zF_M (M : zq_M) (n R : Nat) (m s : Nat → Nat) : Prop := M.1 69 0 = zn n ∧ M.1 69 36 = zn R ∧ ∀ i, i < R → M.1 93 i = zn (m i) ∧ M.1 94 i = zn (s i)
def zF_X (X : zq_M) (n R : Nat) (m s : Nat → Nat) : Prop := X.1 1 0 = zn n ∧ X.1 1 11 = zn R ∧ ∀ i, i < R → X.1 8 i = zn (m i) ∧ X.1 9 i = zn (s i)
theorem zF_gt {n R i : Nat} {m s ρ : Nat → Nat} (hi : i < R) (h : ¬ 2 * zF_low n (m i) (s i) ρ + 1 = zs_cnt (zs_bit (m i)) 10) : zF_g n R m s ρ = 0 := by
  unfold zF_g
  rw [if_pos (zs_any_iff.mpr ⟨i, hi, by unfold zF_bad; simp [h]⟩)]
theorem zF_gf {n R : Nat} {m s ρ : Nat → Nat} (h : zs_any (zF_bad n m s ρ) R = false) : zF_g n R m s ρ = 1 := by
  unfold zF_g
  rw [h]; rfl
theorem zF_bf {n i : Nat} {m s ρ : Nat → Nat} (h : 2 * zF_low n (m i) (s i) ρ + 1 = zs_cnt (zs_bit (m i)) 10) : zF_bad n m s ρ i = false := by
  unfold zF_bad; simp [h]
theorem zF_gr {N n R : Nat} {M : zq_M} {m s ρ : Nat → Nat} (hN : 20 < N) (hD : zF_D n R m s) (hM : zF_M M n R m s) (hρ : ∀ p, p < n → M.1 95 p = zn (ρ p) ∧ ρ p < 32) : f_X11_goesWithRows N M = some (zn (zF_g n R m s ρ)) := by
  obtain ⟨hn, hR, hd⟩ := hD
  obtain ⟨M0, M36, Mr⟩ := hM
  unfold f_X11_goesWithRows
  refine zL (α := Int32 → Option Int32) (fun (_ : Unit) i f => f (zn i)) (fun i _ => zs_any (zF_bad n m s ρ) i = false) (fun o => o = some (zn (zF_g n R m s ρ))) R ?_ ?_ N 0 () (by omega) (by omega) rfl
  · intro rc i _ hi h1 ih
    obtain ⟨d1, d2, d3⟩ := hd i hi
    obtain ⟨r1, r2⟩ := Mr i hi
    unfold b_X11_goesWithRows_2
    rw [M36, if_neg (by rw [zn_le (by omega) (by omega)]; omega)]
    refine zL (α := Int32 → Int32 → Option Int32) (fun (v : Int32) p f => f v (zn p)) (fun k v => v = zn (zs_cnt (fun p => zs_bit (m i) p && decide (ρ p < ρ (s i))) k)) (fun o => o = some (zn (zF_g n R m s ρ))) n ?_ ?_ N 0 0 (by omega) (by omega) rfl
    · intro rc14 p v hp hv ih2
      have e1 : zn p + (1 : Int32) = zn (p + 1) := zn_add p 1
      unfold b_X11_goesWithRows_14
      rw [M0, if_neg (by rw [zn_le (by omega) (by omega)]; omega), zn_ck (by omega) (by omega), zn_ix (by omega), r1, zy_hasM N M (by omega) (by omega), Option.bind_some, e1]
      cases c : zs_bit (m i) p
      · rw [if_pos zn_v1]
        refine ih2 _ ?_
        rw [zs_cf (by simp [c]), hv, zl_0, zn_add, Nat.add_zero]
      · rw [if_neg zn_v2, zn_ck (by omega) (by omega), zn_ck (by omega) (by omega), r2, zn_ck (by omega) (by omega), zn_ix (by omega), zn_ix (by omega), (hρ p hp).1, (hρ _ d2).1]
        have b1 := (hρ p hp).2
        have b2 := (hρ _ d2).2
        have e2 : (zn (ρ (s i)) ≤ zn (ρ p)) = (ρ (s i) ≤ ρ p) := zn_le (by omega) (by omega)
        simp only [e2]
        by_cases c2 : ρ (s i) ≤ ρ p
        · rw [if_pos c2]
          refine ih2 _ ?_
          rw [zs_cf (by simp [c]; omega), hv, zl_0, zn_add, Nat.add_zero]
        · rw [if_neg c2]
          refine ih2 _ ?_
          rw [zs_ct (by simp [c]; omega), hv, zl_1, zn_add]
    · intro rc14 v hv
      have e1 : zn i + (1 : Int32) = zn (i + 1) := zn_add i 1
      have k1 := zs_cle (fun p => zs_bit (m i) p && decide (ρ p < ρ (s i))) n
      have k2 := zs_cle (zs_bit (m i)) 10
      unfold b_X11_goesWithRows_14
      rw [M0, if_pos (by rw [zn_le (by omega) (by omega)]; omega)]
      unfold k_X11_goesWithRows_70_3
      rw [zn_ck (by omega) (by omega), zn_ix (by omega), r1, zo_ones N M (by omega) d1, Option.bind_some, hv, zl_2, zn_mul, zl_1, zn_add]
      have e2 : (zn (2 * zs_cnt (fun p => zs_bit (m i) p && decide (ρ p < ρ (s i))) n + 1) = zn (zs_cnt (zs_bit (m i)) 10)) = (2 * zF_low n (m i) (s i) ρ + 1 = zs_cnt (zs_bit (m i)) 10) := zn_eq (by omega) (by omega)
      simp only [e2]
      by_cases c : 2 * zF_low n (m i) (s i) ρ + 1 = zs_cnt (zs_bit (m i)) 10
      · rw [if_pos c]
        rw [zn_add]
        exact ih () (zs_any_f h1 (zF_bf c))
      · rw [if_neg c, zF_gt hi c]; rfl
  · intro rc _ h1
    unfold b_X11_goesWithRows_2
    rw [M36, if_pos (by rw [zn_le (by omega) (by omega)]; omega), zF_gf h1]
    rfl
theorem zF_lo {N n c : Nat} {M : zq_M} (hN : 20 < N) (hn : n ≤ 5) (h0 : 0 < n) (hc : c < 4000) (M0 : M.1 69 0 = zn n) : ∃ M1, f_X11_layOrder N M (zn c) = some (zn (if zF_go n n c 0 = true then 1 else 0), M1) ∧ zf1 95 M M1 ∧ (zF_go n n c 0 = true → ∀ p, p < n → M1.1 95 p = zn (zF_d n c p)) := by
  unfold f_X11_layOrder
  refine zL (α := Int32 → Int32 → Int32 → zq_M → Option (Int32 × zq_M)) (fun (t : Nat × Nat × zq_M) k f => f (zn t.1) (zn t.2.1) (zn k) t.2.2) (fun k t => t.1 = c / n ^ k ∧ t.2.1 < 32 ∧ zf1 95 M t.2.2 ∧ zF_go n n c 0 = zF_go n (n - k) t.1 t.2.1 ∧ ∀ q, q < k → t.2.2.1 95 q = zn (zF_d n c q)) (fun o => ∃ M1, o = some (zn (if zF_go n n c 0 = true then 1 else 0), M1) ∧ zf1 95 M M1 ∧ (zF_go n n c 0 = true → ∀ p, p < n → M1.1 95 p = zn (zF_d n c p))) n ?_ ?_ N 0 (c, 0, M) (by omega) (by omega) ⟨by rw [Nat.pow_zero, Nat.div_one], Nat.zero_lt_succ 31, ⟨rfl, fun _ _ => rfl⟩, rfl, fun q h => by omega⟩
  · intro rc k t hk h1 ih
    obtain ⟨v, sm, X4⟩ := t
    obtain ⟨p1, p2, p3, p4, p5⟩ := h1
    dsimp only at p1 p2 p3 p4 p5 ⊢
    have hv : v ≤ c := by rw [p1]; exact Nat.div_le_self _ _
    have x0 : X4.1 69 0 = zn n := by rw [p3.2 69 (by omega)]; exact M0
    have y0 : (zq_u1 X4 95 k (zn (v % n))).1 69 0 = zn n := by rw [zq_us1 (by omega)]; exact x0
    have y1 : (zq_u1 X4 95 k (zn (v % n))).1 95 k = zn (v % n) := by rw [zq_g1, if_pos ⟨rfl, rfl⟩]
    have hm : v % n < n := Nat.mod_lt _ h0
    have e1 : zn k + (1 : Int32) = zn (k + 1) := zn_add k 1
    have dv : ∀ {o : Option (Int32 × zq_M)}, zq_dv (zn n) o = o := by
      intro o
      unfold zq_dv
      rw [if_neg (by rw [zl_0, zn_eq (by omega) (by omega)]; omega)]
    have eg : n - k = (n - (k + 1)) + 1 := by omega
    have p4' : zF_go n n c 0 = if zs_bit sm (v % n) = true then false else zF_go n (n - (k + 1)) (v / n) (sm ||| 2 ^ (v % n)) := by
      rw [p4, eg]; rfl
    have hz : zf1 95 M (zq_u1 X4 95 k (zn (v % n))) := ⟨p3.1, fun c hc => by rw [zq_un hc]; exact p3.2 c hc⟩
    unfold b_X11_layOrder_7
    rw [x0, if_neg (by rw [zn_le (by omega) (by omega)]; omega), dv, zn_ck (by omega) (by omega), zn_ix (by omega), zn_irem (by omega) (by omega)]
    simp only [zq_b]
    rw [y0, dv, zn_ck (by omega) (by omega), y1, zy_hasM N _ (by omega) (by omega), Option.bind_some, e1, zn_div (by omega) (by omega)]
    cases cb : zs_bit sm (v % n)
    · rw [if_pos zn_v1, zn_ck (by omega) (by omega), zl_1, zn_shl (by omega), zn_or, Nat.one_mul]
      rw [cb, if_neg (by decide)] at p4'
      refine ih (v / n, sm ||| 2 ^ (v % n), zq_u1 X4 95 k (zn (v % n))) ⟨?_, ?_, hz, p4', ?_⟩
      · show v / n = _
        rw [p1, Nat.div_div_eq_div_mul, Nat.pow_succ]
      · show sm ||| 2 ^ (v % n) < 32
        exact Nat.or_lt_two_pow (n := 5) p2 (Nat.pow_lt_pow_right (by omega) (by omega))
      · intro q hq
        show (zq_u1 X4 95 k (zn (v % n))).1 95 q = _
        by_cases h9 : q = k
        · rw [h9, y1, p1]; rfl
        · rw [zq_us1 (by omega)]; exact p5 q (by omega)
    · rw [if_neg zn_v2]
      rw [cb, if_pos rfl] at p4'
      rw [p4']
      exact ⟨_, rfl, hz, fun h => by cases h⟩
  · intro rc t h1
    obtain ⟨v, sm, X4⟩ := t
    obtain ⟨p1, p2, p3, p4, p5⟩ := h1
    dsimp only at p1 p2 p3 p4 p5 ⊢
    have x0 : X4.1 69 0 = zn n := by rw [p3.2 69 (by omega)]; exact M0
    have p4' : zF_go n n c 0 = true := by rw [p4, Nat.sub_self]; rfl
    unfold b_X11_layOrder_7
    rw [x0, if_pos (by rw [zn_le (by omega) (by omega)]; omega), p4']
    exact ⟨X4, rfl, p3, fun _ => p5⟩
theorem zF_pw {n : Nat} (hn : n ≤ 5) : n ^ n ≤ 3125 := by
  rcases (show n = 0 ∨ n = 1 ∨ n = 2 ∨ n = 3 ∨ n = 4 ∨ n = 5 by omega) with rfl | rfl | rfl | rfl | rfl | rfl <;> decide
theorem zF_fm {N n R : Nat} {M : zq_M} {m s : Nat → Nat} (hN : 4000 < N) (h0 : 0 < n) (hD : zF_D n R m s) (hM : zF_M M n R m s) : ∃ M1, f_X11_fits N M = some (zn (zs_sum (fun c => if zF_go n n c 0 = true then zF_g n R m s (zF_d n c) else 0) (n ^ n)), M1) ∧ zf1 95 M M1 := by
  have hn := hD.1
  have hp := zF_pw hn
  have M0 := hM.1
  unfold f_X11_fits
  rw [M0, if_pos (by rw [zl_0, zn_eq (by omega) (by omega)]; omega)]
  refine zL (α := Int32 → Int32 → Option (Int32 × zq_M)) (fun (v : Int32) k f => f v (zn k)) (fun k v => v = zn (n ^ k)) (fun o => ∃ M1, o = some (zn (zs_sum (fun c => if zF_go n n c 0 = true then zF_g n R m s (zF_d n c) else 0) (n ^ n)), M1) ∧ zf1 95 M M1) n ?_ ?_ N 0 1 (by omega) (by omega) rfl
  · intro rc k v hk hv ih
    unfold b_X11_fits_14
    rw [M0, if_neg (by rw [zn_le (by omega) (by omega)]; omega), zl_1, zn_add]
    refine ih _ ?_
    rw [hv, zn_mul, Nat.pow_succ]
  · intro rc v hv
    unfold b_X11_fits_14
    rw [M0, if_pos (by rw [zn_le (by omega) (by omega)]; omega), hv]
    unfold k_X11_fits_35_3
    refine zL (α := Int32 → Int32 → zq_M → Option (Int32 × zq_M)) (fun (t : Nat × zq_M) k f => f (zn t.1) (zn k) t.2) (fun k t => t.1 = zs_sum (fun c => if zF_go n n c 0 = true then zF_g n R m s (zF_d n c) else 0) k ∧ zf1 95 M t.2) (fun o => ∃ M1, o = some (zn (zs_sum (fun c => if zF_go n n c 0 = true then zF_g n R m s (zF_d n c) else 0) (n ^ n)), M1) ∧ zf1 95 M M1) (n ^ n) ?_ ?_ N 0 (0, M) (by omega) (by omega) ⟨rfl, rfl, fun _ _ => rfl⟩
    · intro rc2 k t hk h1 ih2
      obtain ⟨w, X5⟩ := t
      obtain ⟨p1, p2⟩ := h1
      dsimp only at p1 p2 ⊢
      have x0 : X5.1 69 0 = zn n := by rw [p2.2 69 (by omega)]; exact M0
      obtain ⟨M1, l1, l2, l3⟩ := zF_lo (N := N) (M := X5) (c := k) (by omega) hn h0 (by omega) x0
      have l2' : zf1 95 M M1 := ⟨l2.1.trans p2.1, fun c hc => (l2.2 c hc).trans (p2.2 c hc)⟩
      have e1 : zn k + (1 : Int32) = zn (k + 1) := zn_add k 1
      have es : ∀ x, (if zF_go n n k 0 = true then zF_g n R m s (zF_d n k) else 0) = x → zs_sum (fun c => if zF_go n n c 0 = true then zF_g n R m s (zF_d n c) else 0) (k + 1) = w + x := by
        intro x hx
        rw [p1, ← hx]; rfl
      unfold b_X11_fits_39
      rw [if_neg (by rw [zn_le (by omega) (by omega)]; omega), l1, Option.bind_some, e1]
      have a0 : zn w + (0 : Int32) = zn w := by rw [zl_0, zn_add, Nat.add_zero]
      have a1 : zn w + (1 : Int32) = zn (w + 1) := zn_add w 1
      simp only [zq_p, a0, a1]
      cases cg : zF_go n n k 0
      · rw [cg] at es l3
        have h2 := ih2 (w, M1) ⟨(es 0 rfl).symm, l2'⟩
        rw [if_pos (show zn (if false = true then 1 else 0) = 0 from rfl)]
        exact h2
      · rw [cg] at es l3
        have hg := zF_gr (N := N) (M := M1) (ρ := zF_d n k) (by omega) hD ⟨by rw [l2'.2 69 (by omega)]; exact M0, by rw [l2'.2 69 (by omega)]; exact hM.2.1, fun i hi => by rw [l2'.2 93 (by omega), l2'.2 94 (by omega)]; exact hM.2.2 i hi⟩ (fun p hp => ⟨l3 rfl p hp, by have := Nat.mod_lt (k / n ^ p) h0; unfold zF_d; omega⟩)
        rw [if_neg (show ¬ zn (if true = true then 1 else 0) = 0 from by decide), hg, Option.bind_some]
        have hg2 : zF_g n R m s (zF_d n k) = 0 ∨ zF_g n R m s (zF_d n k) = 1 := by unfold zF_g; split <;> simp
        rcases hg2 with hg2 | hg2
        · have h2 := ih2 (w, M1) ⟨(es 0 (by rw [if_pos rfl]; exact hg2)).symm, l2'⟩
          rw [hg2, if_pos (show zn 0 = 0 from rfl)]
          exact h2
        · have h2 := ih2 (w + 1, M1) ⟨(es 1 (by rw [if_pos rfl]; exact hg2)).symm, l2'⟩
          rw [hg2, if_neg (show ¬ zn 1 = 0 from by decide)]
          exact h2
    · intro rc2 t h1
      obtain ⟨w, X5⟩ := t
      obtain ⟨p1, p2⟩ := h1
      dsimp only at p1 p2 ⊢
      unfold b_X11_fits_39
      rw [if_pos (by rw [zn_le (by omega) (by omega)]; omega), p1]
      exact ⟨X5, rfl, p2⟩
