theorem zn_andn : ∀ a : Nat, a < 32 → ∀ k : Nat, k < 5 → zn a &&& ((zq_shl (1 : Int32) (zn k)) ^^^ (-1 : Int32)) = zn (zs_set (fun p => zs_bit a p && !(p == k)) 5) := by decide +kernel
theorem zy_near {N j t n p a3 h : Nat} {X : zq_M} {s : Nat → Nat} {same : Nat} (hN : 7 < N) (h0 : X.1 1 0 = zn n) (hn : n ≤ 5) (ht : t < 32) (hp : p < n) (hH : X.2.2 35 1 = some h) (hg : zq_ho (zq_shX j) h = true) (h6 : X.1 h 6 = zn same) (hsm : same < 100) (hs : ∀ i, i < 5 → X.1 a3 i = zn (s i)) (hsl : ∀ i, i < 5 → s i < 100) : f_X6_isNearAnother N j X (zn p) (zn t) a3 = some (if zk_near n same s (zs_bit t) p = true then 1 else 0) := by
  unfold f_X6_isNearAnother
  refine zL (α := Int32 → Option Int32) (fun (_ : Unit) k f => f (zn k)) (fun k _ => zk_near k same s (zs_bit t) p = false) (fun o => o = some (if zk_near n same s (zs_bit t) p = true then 1 else 0)) n ?_ ?_ N 0 () (by omega) (by omega) rfl
  · intro f k _ hk hW ih
    have ih := ih ()
    have l1 := hsl k (by omega)
    have l2 := hsl p (by omega)
    unfold b_X6_isNearAnother_3
    simp only [hH, zq_nn, hg, if_true, h6]
    simp (disch := omega) only [zl_0, zl_1, zl_2, zl_3, zl_4, zl_5, zl_6, zn_ck, zn_ix, zn_add, zn_sub, zn_mul, zn_le, zn_lt, zn_eq, zn_plc1, zn_shl, zn_or, zn_bitc, Option.bind_some, zq_p, zq_b, Nat.one_mul, Nat.zero_add, Nat.add_zero, h0, hs k (by omega), hs p (by omega), zn_lsub, zn_lnsub]
    rw [if_neg (by omega)]
    have next : ((!(k == p) && zs_bit t k && decide (s k ≤ s p + same) && decide (s p ≤ s k + same)) = false) → f (zn (k + 1)) = some (if zk_near n same s (zs_bit t) p = true then 1 else 0) := fun h => ih (zs_any_f hW h)
    by_cases c1 : k = p
    · rw [if_pos c1]; exact next (by simp [c1])
    rw [if_neg c1]
    by_cases c2 : zs_bit t k = true
    · rw [if_neg (fun h => h c2)]
      by_cases c3 : same + s p < s k
      · rw [if_pos c3]; exact next (by simp; omega)
      rw [if_neg c3]
      by_cases c4 : same + s k < s p
      · rw [if_pos c4]; exact next (by simp; omega)
      rw [if_neg c4]
      have : zk_near n same s (zs_bit t) p = true := zs_any_iff.mpr ⟨k, hk, by simp [c1, c2]; omega⟩
      rw [if_pos this]
    · rw [if_pos c2]; exact next (by simp [c2])
  · intro f _ hW
    unfold b_X6_isNearAnother_3
    simp (disch := omega) only [zl_0, zl_1, zl_2, zl_3, zl_4, zl_5, zl_6, zn_ck, zn_ix, zn_add, zn_sub, zn_mul, zn_le, zn_lt, zn_eq, zn_plc1, zn_shl, zn_or, zn_bitc, Option.bind_some, zq_p, zq_b, Nat.one_mul, Nat.zero_add, Nat.add_zero, h0]
    rw [if_pos (by omega), if_neg (by rw [hW]; decide)]
theorem zy_wn {N j t n b a3 h : Nat} {X : zq_M} {s : Nat → Nat} {same : Nat} (hN : 7 < N) (h0 : X.1 1 0 = zn n) (hn : n ≤ 5) (ht : t < 32) (hb : b < 2 ^ n) (hH : X.2.2 35 1 = some h) (hg : zq_ho (zq_shX j) h = true) (h6 : X.1 h 6 = zn same) (hsm : same < 100) (hs : ∀ i, i < 5 → X.1 a3 i = zn (s i)) (hsl : ∀ i, i < 5 → s i < 100) : f_X6_withoutNear N j X (zn b) (zn t) a3 = some (zn (zs_set (fun p => zs_bit b p && !(zk_near n same s (zs_bit t) p)) n)) := by
  have hb5 := zs_p2 hn
  unfold f_X6_withoutNear
  have e0 : zs_set (fun p => zs_bit b p && !(decide (p < 0) && zk_near n same s (zs_bit t) p)) n = b := by
    rw [← zs_self hb]
    refine zs_scg (fun p hp => ?_)
    rw [zs_self hb]
    simp
  rw [show zn b = zn (zs_set (fun p => zs_bit b p && !(decide (p < 0) && zk_near n same s (zs_bit t) p)) n) by rw [e0]]
  have eb : b_X6_withoutNear_6 N j X (zn (zs_set (fun p => zs_bit b p && !(decide (p < 0) && zk_near n same s (zs_bit t) p)) n)) (zn t) a3 = b_X6_withoutNear_6 N j X (zn b) (zn t) a3 := by rw [e0]
  rw [eb]
  refine zL (α := Int32 → Int32 → Option Int32) (fun (_ : Unit) k f => f (zn (zs_set (fun p => zs_bit b p && !(decide (p < k) && zk_near n same s (zs_bit t) p)) n)) (zn k)) (fun _ _ => True) (fun o => o = some (zn (zs_set (fun p => zs_bit b p && !(zk_near n same s (zs_bit t) p)) n))) n ?_ ?_ N 0 () (by omega) (by omega) trivial
  · intro f k _ hk _ ih
    have ih := ih () trivial
    have l1 := zs_l32 (fun p => zs_bit b p && !(decide (p < k) && zk_near n same s (zs_bit t) p)) hn
    unfold b_X6_withoutNear_6
    rw [zy_near hN h0 hn ht hk hH hg h6 hsm hs hsl]
    simp only [Option.bind_some, zq_b]
    rw [zn_andn _ l1 k (by omega)]
    simp (disch := omega) only [zl_0, zl_1, zl_2, zl_3, zl_4, zl_5, zl_6, zn_ck, zn_ix, zn_add, zn_sub, zn_mul, zn_le, zn_lt, zn_eq, zn_plc1, zn_shl, zn_or, zn_bitc, Option.bind_some, zq_p, zq_b, Nat.one_mul, Nat.zero_add, Nat.add_zero, h0]
    rw [if_neg (by omega)]
    by_cases c1 : zs_bit b k = true
    · rw [if_neg (fun h => h c1)]
      by_cases c2 : zk_near n same s (zs_bit t) k = true
      · rw [if_neg (by rw [if_pos c2]; decide)]
        have : zs_set (fun p => zs_bit (zs_set (fun p => zs_bit b p && !(decide (p < k) && zk_near n same s (zs_bit t) p)) n) p && !(p == k)) 5 = zs_set (fun p => zs_bit b p && !(decide (p < k + 1) && zk_near n same s (zs_bit t) p)) n := by
          apply zs_ext
          intro q
          by_cases hq : q < n
          · rw [zs_bset _ (by omega), zs_bset _ hq, zs_bset _ hq]
            by_cases e : q = k
            · subst e; simp [c2]
            · have e1 : decide (q < k + 1) = decide (q < k) := by
                by_cases h : q < k
                · rw [decide_eq_true h, decide_eq_true (by omega)]
                · rw [decide_eq_false h, decide_eq_false (by omega)]
              have e2 : (q == k) = false := by simpa using e
              rw [e1, e2]; simp
          · rw [zs_bset2 _ (by omega) (n := n)]
            by_cases h5 : q < 5
            · rw [zs_bset _ h5, zs_bset2 _ (by omega)]; rfl
            · rw [zs_bset2 _ (by omega)]
        rw [this]
        exact ih
      · rw [if_pos (by rw [if_neg c2])]
        rw [show zs_set (fun p => zs_bit b p && !(decide (p < k) && zk_near n same s (zs_bit t) p)) n = zs_set (fun p => zs_bit b p && !(decide (p < k + 1) && zk_near n same s (zs_bit t) p)) n from zs_scg (fun q hq => by
          by_cases e : q = k
          · subst e
            simp only [Bool.not_eq_true] at c2
            rw [c2]; simp
          · have e1 : decide (q < k + 1) = decide (q < k) := by
              by_cases h : q < k
              · rw [decide_eq_true h, decide_eq_true (by omega)]
              · rw [decide_eq_false h, decide_eq_false (by omega)]
            rw [e1])]
        exact ih
    · rw [if_pos c1]
      rw [show zs_set (fun p => zs_bit b p && !(decide (p < k) && zk_near n same s (zs_bit t) p)) n = zs_set (fun p => zs_bit b p && !(decide (p < k + 1) && zk_near n same s (zs_bit t) p)) n from zs_scg (fun q hq => by
        by_cases e : q = k
        · subst e
          simp only [Bool.not_eq_true] at c1
          rw [c1]; simp
        · have e1 : decide (q < k + 1) = decide (q < k) := by
            by_cases h : q < k
            · rw [decide_eq_true h, decide_eq_true (by omega)]
            · rw [decide_eq_false h, decide_eq_false (by omega)]
          rw [e1])]
      exact ih
  · intro f _ _
    unfold b_X6_withoutNear_6
    simp (disch := omega) only [zl_0, zl_1, zl_2, zl_3, zl_4, zl_5, zl_6, zn_ck, zn_ix, zn_add, zn_sub, zn_mul, zn_le, zn_lt, zn_eq, zn_plc1, zn_shl, zn_or, zn_bitc, Option.bind_some, zq_p, zq_b, Nat.one_mul, Nat.zero_add, Nat.add_zero, h0]
    rw [if_pos (by omega)]
    rw [show zs_set (fun p => zs_bit b p && !(decide (p < n) && zk_near n same s (zs_bit t) p)) n = zs_set (fun p => zs_bit b p && !(zk_near n same s (zs_bit t) p)) n from zs_scg (fun q hq => by rw [decide_eq_true hq]; simp)]
theorem zy_sp139 {N j t b a2 h : Nat} {S : Nat → Nat → Nat} {X : zq_M} {s : Nat → Nat} (hN : 7 < N) (hS : zyB S) (h0 : X.1 1 0 = zn (S 0 0)) (ht : t < 32) (hb : b < 2 ^ S 0 0) (hH : zyH j S X h) (hs : ∀ i, i < 5 → X.1 a2 i = zn (s i)) (hsl : ∀ i, i < 5 → s i < 100) : j_X6_speakers_139 N j (zn t) a2 X (zn b) = some (zn (zs_set (fun p => zs_bit b p && !(decide (0 < S 0 3) && zk_near (S 0 0) (S 0 3) s (zs_bit t) p)) (S 0 0)), X) := by
  obtain ⟨h1, h2, h3, -⟩ := hH
  have hn := hS.1
  have hsm := hS.2.2.1
  unfold j_X6_speakers_139
  simp only [h1, zq_nn, h2, if_true, h3]
  rw [zy_wn hN h0 hn ht hb h1 h2 h3 hsm hs hsl]
  simp (disch := omega) only [zl_0, zl_1, zl_2, zl_3, zl_4, zl_5, zl_6, zn_ck, zn_ix, zn_add, zn_sub, zn_mul, zn_le, zn_lt, zn_eq, zn_plc1, zn_shl, zn_or, zn_bitc, Option.bind_some, zq_p, zq_b, Nat.one_mul, Nat.zero_add, Nat.add_zero]
  by_cases c : S 0 3 ≤ 0
  · rw [if_pos c]
    have e : zs_set (fun p => zs_bit b p && !(decide (0 < S 0 3) && zk_near (S 0 0) (S 0 3) s (zs_bit t) p)) (S 0 0) = b := by
      have hself := zs_self hb
      refine Eq.trans (zs_scg (fun p hp => ?_)) hself
      have : ¬ 0 < S 0 3 := by omega
      simp [this]
    rw [e]
  · rw [if_neg c]
    have e : decide (0 < S 0 3) = true := decide_eq_true (by omega)
    rw [e]; simp
theorem zy_sp54 {N j t r g a2 h : Nat} {S : Nat → Nat → Nat} {X : zq_M} {s : Nat → Nat} (hN : 7 < N) (hS : zyB S) (hX : zyX S X) (ht : t < 2 ^ S 0 0) (ht0 : t ≠ 0) (hr : r < 3) (hg : g < 100000) (hH : zyH j S X h) (ha2 : a2 = 2 ∨ a2 = 3) (hs : ∀ i, i < 5 → X.1 a2 i = zn (s i)) (hsl : ∀ i, i < 5 → s i < 100) : ∃ X1, j_X6_speakers_54 N j X (zn r) (zn t) (zn g) a2 = some (zn (zs_set (fun p => zs_bit t p && !(decide (0 < S 0 3) && zk_near (S 0 0) (S 0 3) s (zs_bit t) p) && zk_mid (S 5 r) (S 6 r) (zs_cnt (zs_bit t) (S 0 0)) (zk_rk s (zs_bit t) (S 0 0) p) g) (S 0 0)), X1) ∧ zf1 37 X X1 := by
  have hn := hS.1
  obtain ⟨x0, x1, x2, x3, x4, x5, x6, x7⟩ := hX
  obtain ⟨b0, b1, b2, b3, b4, b5, b6, b7, b8, b9⟩ := hS
  have hk7 := b7 r hr
  have hv10 := b8 r hr
  have ht32 : t < 32 := by have := zs_p2 hn; omega
  obtain ⟨X1, e1, f1, rw1⟩ := zy_line (N := N) (j := j) (t := t) hN x0 hn (by omega) (by omega) hs hsl
  generalize hm : zs_cnt (zs_bit t) (S 0 0) = m at *
  have hm5 : m ≤ 5 := by have := zs_cle (zs_bit t) (S 0 0); omega
  have hm0 : 0 < m := by
    rw [← hm]
    apply Classical.byContradiction
    intro hc
    have hz : ∀ p, p < S 0 0 → zs_bit t p = false := by
      intro p hp
      cases hbp : zs_bit t p with
      | false => rfl
      | true => exact absurd (zs_cpos hp hbp) hc
    have := zs_self ht
    rw [zs_zero hz] at this
    exact ht0 this.symm
  obtain ⟨fi, p1, p2⟩ := zy_pil (N := N) (j := j) (X := X1) (v := S 6 r) (m := m) (g := g) hk7 hv10 hm0 hm5 hg
  have g0 : X1.1 1 0 = zn (S 0 0) := by rw [f1.2 1 (by omega)]; exact x0
  have g6 : X1.1 6 r = zn (S 5 r) := by rw [f1.2 6 (by omega)]; exact x6 r hr
  have g7 : X1.1 7 r = zn (S 6 r) := by rw [f1.2 7 (by omega)]; exact x7 r hr
  have gH : zyH j S X1 h := by
    obtain ⟨q1, q2, q3, q4⟩ := hH
    exact ⟨by rw [f1.1]; exact q1, q2, by rw [f1.2 h (by omega)]; exact q3, q4⟩
  have gs : ∀ i, i < 5 → X1.1 a2 i = zn (s i) := fun i hi => by rw [f1.2 a2 (by omega)]; exact hs i hi
  have fin : ∀ b, b < 2 ^ S 0 0 → (∀ p, p < S 0 0 → zs_bit b p = (zs_bit t p && zk_mid (S 5 r) (S 6 r) m (zk_rk s (zs_bit t) (S 0 0) p) g)) → j_X6_speakers_139 N j (zn t) a2 X1 (zn b) = some (zn (zs_set (fun p => zs_bit t p && !(decide (0 < S 0 3) && zk_near (S 0 0) (S 0 3) s (zs_bit t) p) && zk_mid (S 5 r) (S 6 r) m (zk_rk s (zs_bit t) (S 0 0) p) g) (S 0 0)), X1) := by
    intro b hb hbit
    rw [zy_sp139 hN ⟨b0, b1, b2, b3, b4, b5, b6, b7, b8, b9⟩ g0 ht32 hb gH gs hsl]
    rw [zs_scg (fun p hp => by rw [hbit p hp, Bool.and_assoc, Bool.and_comm (zk_mid _ _ _ _ _), ← Bool.and_assoc])]
  have fin2 : ∀ b, b < 2 ^ S 0 0 → b = zs_set (fun p => zs_bit t p && (zk_rk s (zs_bit t) (S 0 0) p == zk_fi (S 5 r) (S 6 r) m g)) (S 0 0) → j_X6_speakers_110 N j X (zn r) (zn t) a2 (zn m) X1 (zn b) = some (zn (zs_set (fun p => zs_bit t p && !(decide (0 < S 0 3) && zk_near (S 0 0) (S 0 3) s (zs_bit t) p) && zk_mid (S 5 r) (S 6 r) m (zk_rk s (zs_bit t) (S 0 0) p) g) (S 0 0)), X1) := by
    intro b hb hbs
    have hrk : ∀ p, p < S 0 0 → zs_bit t p = true → zk_rk s (zs_bit t) (S 0 0) p < m := fun p hp htp => by rw [← hm]; exact (zk_at2 rw1 hp htp).1
    unfold j_X6_speakers_110
    rw [zn_ix (by omega), x6 r hr]
    have q4 : (4 : Int32) = zn 4 := rfl
    have q2 : (2 : Int32) = zn 2 := rfl
    have e1 : (zn (S 5 r) = 4) = (S 5 r = 4) := zn_eq (b := 4) (by omega) (by omega)
    have e2 : (zq_irem (zn m) 2 = 0) = (m % 2 = 0) := by rw [q2, zn_irem (by omega) (by omega)]; exact zn_eq (b := 0) (by omega) (by omega)
    simp only [e1, e2]
    by_cases c4 : S 5 r = 4
    · rw [if_neg (fun h => h c4)]
      by_cases c2 : m % 2 = 0
      · rw [if_neg (fun h => h c2)]
        obtain ⟨x, hx1, hx2, hx3, hx4⟩ := zk_at (k := m / 2) rw1 (by rw [hm]; omega)
        rw [q2, zn_div (by omega) (by omega), zn_ck (by omega) (by omega), zn_ix (by omega)]
        simp only [zq_b, hx4]
        rw [zl_1, zn_shl (by omega), Nat.one_mul, zn_or]
        have e2x : (2 : Nat) ^ x = zs_set (fun p => zs_bit t p && (zk_rk s (zs_bit t) (S 0 0) p == m / 2)) (S 0 0) := by
          refine (zs_one hx1 (fun p hp => ?_)).symm
          constructor
          · intro h
            simp only [Bool.and_eq_true, beq_iff_eq] at h
            have := (zk_at2 rw1 hp h.1).2
            rw [h.2, hx4, zn_eq (by omega) (by omega)] at this
            exact this.symm
          · intro h; subst h; simp [hx2, hx3]
        rw [e2x, hbs, zs_orr]
        refine fin _ (zs_lt _ _) (fun p hp => ?_)
        rw [zs_bset _ hp]
        by_cases htp : zs_bit t p = true
        · rw [htp, zk_midfi hm0 (hrk p hp htp)]
          simp [c4, c2]
        · simp only [Bool.not_eq_true] at htp
          rw [htp]; rfl
      · rw [if_pos c2]
        refine fin b hb (fun p hp => ?_)
        rw [hbs, zs_bset _ hp]
        by_cases htp : zs_bit t p = true
        · rw [htp, zk_midfi hm0 (hrk p hp htp)]
          simp [c2]
        · simp only [Bool.not_eq_true] at htp
          rw [htp]; rfl
    · rw [if_pos c4]
      refine fin b hb (fun p hp => ?_)
      rw [hbs, zs_bset _ hp]
      by_cases htp : zs_bit t p = true
      · rw [htp, zk_midfi hm0 (hrk p hp htp)]
        simp [c4]
      · simp only [Bool.not_eq_true] at htp
        rw [htp]; rfl
  refine ⟨X1, ?_, f1⟩
  unfold j_X6_speakers_54
  rw [e1]
  simp only [Option.bind_some, zq_p]
  rw [zn_ix (by omega), x6 r hr, g7, p1]
  simp only [Option.bind_some]
  rw [zn_ck (by omega) (by omega)]
  rcases p2 with ⟨p2, p3⟩ | ⟨p2, p3⟩
  · rw [if_pos p2]
    refine fin2 0 (Nat.pow_pos (by omega)) ?_
    refine (zs_zero (fun p hp => ?_)).symm
    rw [p3]
    cases htp : zs_bit t p with
    | false => rfl
    | true =>
      have := (zk_at2 rw1 hp htp).1
      rw [hm] at this
      have e : (zk_rk s (zs_bit t) (S 0 0) p == m) = false := by simp; omega
      rw [e]; rfl
  · have n1 : (fi < 0) = (zk_fi (S 5 r) (S 6 r) m g < 0) := by rw [p2]; exact zn_lt (b := 0) (by omega) (by omega)
    have n2 : (zn m ≤ fi) = (m ≤ zk_fi (S 5 r) (S 6 r) m g) := by rw [p2]; exact zn_le (by omega) (by omega)
    simp only [n1, n2]
    rw [if_neg (by omega), if_neg (by omega), p2, zn_ck (by omega) (by omega), zn_ix (by omega)]
    obtain ⟨x, hx1, hx2, hx3, hx4⟩ := zk_at (k := zk_fi (S 5 r) (S 6 r) m g) rw1 (by rw [hm]; omega)
    rw [hx4, zl_1, zn_shl (by omega), Nat.one_mul]
    have e2x : (2 : Nat) ^ x = zs_set (fun p => zs_bit t p && (zk_rk s (zs_bit t) (S 0 0) p == zk_fi (S 5 r) (S 6 r) m g)) (S 0 0) := by
      refine (zs_one hx1 (fun p hp => ?_)).symm
      constructor
      · intro h
        simp only [Bool.and_eq_true, beq_iff_eq] at h
        have := (zk_at2 rw1 hp h.1).2
        rw [h.2, hx4, zn_eq (by omega) (by omega)] at this
        exact this.symm
      · intro h; subst h; simp [hx2, hx3]
    exact fin2 _ (by rw [e2x]; exact zs_lt _ _) e2x
theorem zy_spX {N j t r g h : Nat} {S : Nat → Nat → Nat} {X : zq_M} (hN : 7 < N) (hS : zyB S) (hX : zyX S X) (ht : t < 2 ^ S 0 0) (hr : r < 4) (hg : g < 100000) (hH : zyH j S X h) : ∃ X1, f_X6_speakers N j X (zn r) (zn t) (zn g) = some (zn (zs_set (fun p => decide (r < 3) && zk_sp S r (zs_bit t) g p) (S 0 0)), X1) ∧ zf1 37 X X1 := by
  have hn := hS.1
  have ht32 : t < 32 := by have := zs_p2 hn; omega
  unfold f_X6_speakers
  rw [zw_xr]
  simp only [Option.bind_some]
  by_cases c3 : r = 3
  · subst c3
    rw [if_pos (by decide)]
    refine ⟨X, ?_, zf1_r _ _⟩
    rw [zs_zero (fun p hp => by simp)]
    rfl
  have r1 : (zn r < 0) = (r < 0) := zn_lt (b := 0) (by omega) (by omega)
  have r2 : (2 < zn r) = (2 < r) := zn_lt (a := 2) (by omega) (by omega)
  have t0 : (zn t = 0) = (t = 0) := zn_eq (b := 0) (by omega) (by omega)
  simp only [r1, r2, t0]
  rw [if_neg (by rw [if_neg (by omega)]; decide)]
  by_cases c0 : t = 0
  · rw [if_neg (fun h => h c0)]
    refine ⟨X, ?_, zf1_r _ _⟩
    rw [zs_zero (fun p hp => by
      subst c0
      have : zs_bit 0 p = false := by rw [zs_bt]; simp
      unfold zk_sp
      rw [this]; simp)]
    rfl
  rw [if_pos c0, zn_ck (by omega) (by omega), zn_ix (by omega)]
  have x6 := hX.2.2.2.2.2.2.1 r (by omega)
  have b7 := hS.2.2.2.2.2.2.2.1 r (by omega)
  rw [x6]
  have k3 : (zn (S 5 r) = 3) = (S 5 r = 3) := zn_eq (b := 3) (by omega) (by omega)
  have k6 : (zn (S 5 r) = 6) = (S 5 r = 6) := zn_eq (b := 6) (by omega) (by omega)
  simp only [k3, k6]
  have es : ∀ p, (decide (r < 3) && zk_sp S r (zs_bit t) g p) = (zs_bit t p && !(decide (0 < S 0 3) && zk_near (S 0 0) (S 0 3) (zk_s S r) (zs_bit t) p) && zk_mid (S 5 r) (S 6 r) (zs_cnt (zs_bit t) (S 0 0)) (zk_rk (zk_s S r) (zs_bit t) (S 0 0) p) g) := fun p => by
    rw [decide_eq_true (by omega)]; rfl
  rw [show (fun p => decide (r < 3) && zk_sp S r (zs_bit t) g p) = _ from funext es]
  by_cases c : S 5 r = 3 ∨ S 5 r = 6
  · have hs : ∀ i, i < 5 → X.1 3 i = zn (zk_s S r i) := fun i hi => by unfold zk_s; rw [if_pos c]; exact hX.2.2.2.1 i hi
    have hsl : ∀ i, i < 5 → zk_s S r i < 100 := fun i hi => by unfold zk_s; rw [if_pos c]; exact hS.2.2.2.2.1 i hi
    have := zy_sp54 (N := N) (j := j) (g := g) (a2 := 3) hN hS hX ht c0 (show r < 3 by omega) hg hH (by omega) hs hsl
    rcases c with c | c
    · rw [if_pos c]; exact this
    · rw [if_neg (by omega), if_neg (fun h => h c)]; exact this
  · have hs : ∀ i, i < 5 → X.1 2 i = zn (zk_s S r i) := fun i hi => by unfold zk_s; rw [if_neg c]; exact hX.2.2.1 i hi
    have hsl : ∀ i, i < 5 → zk_s S r i < 100 := fun i hi => by unfold zk_s; rw [if_neg c]; exact hS.2.2.2.1 i hi
    have := zy_sp54 (N := N) (j := j) (g := g) (a2 := 2) hN hS hX ht c0 (show r < 3 by omega) hg hH (by omega) hs hsl
    rw [if_neg (by omega), if_pos (by omega)]; exact this
