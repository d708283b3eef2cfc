theorem zw_fl (N : Nat) (sh : zq_H) (X : zq_M) (a na : Nat) (v : Int64) (hN : na < N) (hn : na < 2147483648) : ∃ X1, f_J7_fill_d0a16 N sh X a na v = some X1 ∧ X1.1 = X.1 ∧ X1.2.2 = X.2.2 ∧ ∀ c k, X1.2.1 c k = if c = a ∧ k < na then v else X.2.1 c k := by
  have h := zr_loopN (P := fun n r => ∀ i, i ≤ na → na < n + i → ∀ X : zq_M, ∃ X1, r (zn i) X = some X1 ∧ X1.1 = X.1 ∧ X1.2.2 = X.2.2 ∧ ∀ c k, X1.2.1 c k = if c = a ∧ i ≤ k ∧ k < na then v else X.2.1 c k) (fun _ _ => none) (b_J7_fill_d0a16_6 a na v) (by intro i h1 h2; omega) ?_ N
  · obtain ⟨X1, e1, e2, e3, e4⟩ := h 0 (by omega) (by omega) X
    refine ⟨X1, e1, e2, e3, ?_⟩
    intro c k
    rw [e4]
    simp
  · intro n r ih i h1 h2 X
    unfold b_J7_fill_d0a16_6
    by_cases h3 : i = na
    · subst h3
      rw [if_pos (by rw [zn_le hn hn]; omega)]
      refine ⟨X, rfl, rfl, rfl, ?_⟩
      intro c k
      rw [if_neg (by omega)]
    · rw [if_neg (by rw [zn_le hn (by omega)]; omega), zn_ck (by omega) hn, zn_ix (by omega)]
      simp only [zq_b]
      rw [show zn i + 1 = zn (i + 1) from zn_add i 1]
      obtain ⟨X1, e1, e2, e3, e4⟩ := ih (i + 1) (by omega) (by omega) (zq_u2 X a i v)
      refine ⟨X1, e1, e2, e3, ?_⟩
      intro c k
      rw [e4, zq_g2]
      by_cases h4 : c = a ∧ k = i
      · rw [if_pos (c := c = a ∧ k = i) h4, if_pos (c := c = a ∧ i ≤ k ∧ k < na) (by omega)]; simp
      · rw [if_neg (c := c = a ∧ k = i) h4]
        by_cases h5 : c = a ∧ i + 1 ≤ k ∧ k < na
        · rw [if_pos h5, if_pos (by omega)]
        · rw [if_neg h5, if_neg (by omega)]
theorem zw_tz (N : Nat) (X : zq_M) (t : Nat) (hN : 60 < N) (ht : t < 6) : ∃ X1, zq_loop (fun _ _ => none) (b_X11_tape_69 (zn t)) N (0 : Int32) X = some (1, X1) ∧ X1.1 = X.1 ∧ X1.2.2 = X.2.2 ∧ ∀ c k, X1.2.1 c k = if c = 109 ∧ 60 * t ≤ k ∧ k < 60 * t + 60 then 0 else X.2.1 c k := by
  have h := zr_loopN (P := fun n r => ∀ i, i ≤ 60 → 60 < n + i → ∀ X : zq_M, ∃ X1, r (zn i) X = some ((1 : Int32), X1) ∧ X1.1 = X.1 ∧ X1.2.2 = X.2.2 ∧ ∀ c k, X1.2.1 c k = if c = 109 ∧ 60 * t + i ≤ k ∧ k < 60 * t + 60 then 0 else X.2.1 c k) (fun _ _ => none) (b_X11_tape_69 (zn t)) (by intro i h1 h2; omega) ?_ N
  · exact h 0 (by omega) (by omega) X
  · intro n r ih i h1 h2 X
    unfold b_X11_tape_69
    rw [show (60 : Int32) = zn 60 from rfl, zn_mul, zn_add]
    by_cases h3 : i = 60
    · subst h3
      rw [if_pos (by rw [zn_le (by omega) (by omega)]; omega)]
      refine ⟨X, rfl, rfl, rfl, ?_⟩
      intro c k
      rw [if_neg (by omega)]
    · rw [if_neg (by rw [zn_le (by omega) (by omega)]; omega), zn_ck (by omega) (by omega), zn_ix (by omega)]
      simp only [zq_b]
      rw [show zn i + 1 = zn (i + 1) from zn_add i 1]
      obtain ⟨X1, e1, e2, e3, e4⟩ := ih (i + 1) (by omega) (by omega) (zq_u2 X 109 (60 * t + i) 0)
      refine ⟨X1, e1, e2, e3, ?_⟩
      intro c k
      rw [e4, zq_g2]
      by_cases h4 : c = 109 ∧ k = 60 * t + i
      · rw [if_pos (c := c = 109 ∧ k = 60 * t + i) h4, if_pos (c := c = 109 ∧ 60 * t + i ≤ k ∧ k < 60 * t + 60) (by omega)]; simp
      · rw [if_neg (c := c = 109 ∧ k = 60 * t + i) h4]
        by_cases h5 : c = 109 ∧ 60 * t + (i + 1) ≤ k ∧ k < 60 * t + 60
        · rw [if_pos h5, if_pos (by omega)]
        · rw [if_neg h5, if_neg (by omega)]
theorem zw_nlt {n : Nat} (h : n < 2147483648) : ¬ (zn n < 0) := by
  rw [show (0 : Int32) = zn 0 from rfl, zn_lt h (by omega)]; omega
theorem zw_ge {n : Nat} (h : n < 2147483648) : (0 : Int32) ≤ zn n := by
  rw [show (0 : Int32) = zn 0 from rfl, zn_le (by omega) h]; omega
theorem zv_tap_c {X M X1 M1 : zq_M} {t : Nat} (hs : (X1.1 (57 + 2 * t) 0 = -1 ∧ X1.1 (57 + 2 * t) 1 = 0) ∨ zv_bd X1 (57 + 2 * t) 0 5) (hl : zv_bd X1 (57 + 2 * t) 1 61) (h107 : M1.1 107 t = X1.1 (57 + 2 * t) 0) (h108 : M1.1 108 t = X1.1 (57 + 2 * t) 1) (hx : ∀ c k, c ≠ 57 + 2 * t → X1.1 c k = X.1 c k) (hm : ∀ c k, k ≠ t → M1.1 c k = M.1 c k) (h22 : X1.2.2 = X.2.2) (hi : 0 ≤ X1.1 (57 + 2 * t) 0 → ∀ i, i < 60 → M1.2.1 109 (60 * t + i) = X1.2.1 (58 + 2 * t) i) (ho : ∀ u, u ≠ t → ∀ i, i < 60 → X1.2.1 (58 + 2 * u) i = X.2.1 (58 + 2 * u) i ∧ M1.2.1 109 (60 * u + i) = M.2.1 109 (60 * u + i)) (h : zv_tap X M) : zv_tap X1 M1 := by
  intro u hu
  obtain ⟨g1, g2, g3, g4, g5, g6⟩ := h u hu
  by_cases hut : u = t
  · subst hut
    exact ⟨by rw [h22]; exact g1, h107, h108, hs, hl, hi⟩
  · refine ⟨by rw [h22]; exact g1, ?_, ?_, ?_, ?_, ?_⟩
    · rw [hm _ _ hut, hx _ _ (by omega)]; exact g2
    · rw [hm _ _ hut, hx _ _ (by omega)]; exact g3
    · unfold zv_bd at g4 ⊢
      rw [hx _ _ (by omega), hx _ _ (by omega)]; exact g4
    · unfold zv_bd at g5 ⊢
      rw [hx _ _ (by omega)]; exact g5
    · intro h0 i hi
      rw [hx _ _ (by omega)] at h0
      rw [(ho u hut i hi).1, (ho u hut i hi).2]
      exact g6 h0 i hi
theorem zI_tape (N : Nat) (hN : 60 < N) : zq_op_tape N zI := by
  intro q j X M a b c hq hI
  have hI1 := zI_idle q j X M hI
  unfold f_X10_tape f_X11_tape f_X7_holdZeros f_X7_holdNothing
  simp only [zw_x, zw_m, zw_xa, zw_ma, Option.bind_some]
  have d4 : ¬ ((1 : Int32) = 0) := by decide
  by_cases c0 : a < 0 ∨ 5 < a
  · simp only [c0, if_true, not_true, if_false]
    exact ⟨_, _, _, rfl, rfl, hI1⟩
  simp only [c0, d4, if_false, not_false_iff, if_true]
  obtain ⟨t, ht, rfl⟩ := zw_in (n := 5) (fun h => c0 (Or.inl h)) (fun h => c0 (Or.inr h)) (by omega)
  obtain ⟨g1, g2, g3, g4, ⟨n, hn, g5⟩, g6⟩ := hI.2.2.2.2.1 t (by omega)
  have nn := fun (f : Nat → Option (Int32 × zq_M)) => zw_nn (f := f) g1 (zw_ta j t (by omega))
  have ck := fun (o : Option (Int32 × zq_M)) => zn_ck (o := o) (a := t) (n := 6) (by omega) (by omega)
  have ix : zq_ix (zn t) = t := zn_ix (by omega)
  by_cases c1 : b = -1
  · subst c1
    unfold j_X11_tape_33 j_X11_tape_44 j_X11_tape_65
    rw [if_neg (show ¬ (¬ (-1 : Int32) = -1) by decide), if_neg (show ¬ ((if (-1 : Int32) < -1 ∨ (4 : Int32) < -1 then (0 : Int32) else 1) = 0) by decide), if_pos (show (-1 : Int32) < 0 by decide), if_pos (show (-1 : Int32) < 0 by decide)]
    simp only [ck, ix, nn, zq_b, Option.bind_some]
    rw [if_neg (show ¬ ((0 : Int32) ≤ -1) by decide)]
    obtain ⟨M1, m1, m2, m3, m4⟩ := zw_tz N (zq_u1 (zq_u1 M 107 t (-1)) 108 t 0) t hN (by omega)
    rw [m1]
    refine ⟨_, _, _, rfl, rfl, ?_⟩
    refine zI_tap hI ?_ rfl ?_ (zv_tap_c (X := X) (M := M) (t := t) ?_ ?_ ?_ ?_ ?_ ?_ rfl ?_ ?_ hI.2.2.2.2.1)
    · intro c hc; rw [zq_un (by omega), zq_un (by omega)]
    · intro c hc; rw [m2, zq_un (by omega), zq_un (by omega)]
    · left
      rw [zq_us1 (c := 57 + 2 * t) (by omega), zq_g1, if_pos ⟨rfl, rfl⟩, zq_g1, if_pos ⟨rfl, rfl⟩]
      exact ⟨rfl, rfl⟩
    · exact ⟨0, by omega, by rw [zq_g1, if_pos ⟨rfl, rfl⟩]; rfl⟩
    · rw [m2, zq_us1 (c := 108) (by omega), zq_g1, if_pos ⟨rfl, rfl⟩, zq_us1 (k := 1) (by omega), zq_g1, if_pos ⟨rfl, rfl⟩]
    · rw [m2, zq_g1, if_pos ⟨rfl, rfl⟩, zq_g1, if_pos ⟨rfl, rfl⟩]
    · intro c k hc; rw [zq_us1 (by omega), zq_us1 (by omega)]
    · intro c k hk; rw [m2, zq_us1 (by omega), zq_us1 (by omega)]
    · intro h0
      rw [zq_us1 (k := 1) (by omega), zq_g1, if_pos ⟨rfl, rfl⟩] at h0
      exact absurd h0 (by decide)
    · intro u hu i hi
      refine ⟨rfl, ?_⟩
      rw [m4, if_neg (by omega)]; rfl
  simp only [c1, not_false_iff, if_true]
  by_cases c2 : b < 0
  · have c3 : b < -1 := by
      rw [Int32.lt_iff_toInt_lt] at c2 ⊢
      have h0 : (0 : Int32).toInt = 0 := rfl
      have h1 : (-1 : Int32).toInt = -1 := rfl
      rw [h0] at c2
      rw [h1]
      have : b.toInt ≠ -1 := by
        intro h
        apply c1
        apply Int32.toInt_inj.mp
        rw [h, h1]
      omega
    simp only [c2, c3, true_or, if_true]
    exact ⟨_, _, _, rfl, rfl, hI1⟩
  obtain ⟨s, hs, rfl⟩ := zn_nt b (by simpa using c2)
  have c3 : ¬ (zn s < -1) := by
    rw [Int32.lt_iff_toInt_lt, zn_ti hs]
    have h1 : (-1 : Int32).toInt = -1 := rfl
    rw [h1]; omega
  by_cases c4 : (4 : Int32) < zn s
  · simp only [c2, c3, c4, or_true, if_true]
    exact ⟨_, _, _, rfl, rfl, hI1⟩
  simp only [c2, c3, c4, or_self, if_false, d4]
  rw [show (4 : Int32) = zn 4 from rfl, zn_lt (by omega) hs] at c4
  unfold j_X11_tape_33 j_X11_tape_44 j_X11_tape_65
  by_cases c5 : c ≤ 60
  · simp only [c5, if_true, c2, if_false]
    by_cases c6 : 0 ≤ c
    · obtain ⟨l, hl, rfl⟩ := zn_nt c c6
      rw [show (60 : Int32) = zn 60 from rfl, zn_le hl (by omega)] at c5
      obtain ⟨M1, m1, m2, m3, m4⟩ := zw_tz N (zq_u1 (zq_u1 M 107 t (zn s)) 108 t (zn l)) t hN (by omega)
      obtain ⟨X1, x1, x2, x3, x4⟩ := zw_fl N (zq_shX j) (zq_u1 (zq_u1 X (57 + 2 * t) 0 (zn s)) (57 + 2 * t) 1 (zn l)) (57 + 2 * t + 1) 60 0 hN (by omega)
      simp only [c6, if_true, ck, ix, nn, zq_b, Option.bind_some, zw_ge hs, m1, x1]
      refine ⟨_, _, _, rfl, rfl, ?_⟩
      refine zI_tap hI ?_ x3 ?_ (zv_tap_c (X := X) (M := M) (t := t) ?_ ?_ ?_ ?_ ?_ ?_ x3 ?_ ?_ hI.2.2.2.2.1)
      · intro c hc; rw [x2, zq_un (by omega), zq_un (by omega)]
      · intro c hc; rw [m2, zq_un (by omega), zq_un (by omega)]
      · right
        exact ⟨s, by omega, by rw [x2, zq_us1 (k := 1) (by omega), zq_g1, if_pos ⟨rfl, rfl⟩]⟩
      · exact ⟨l, by omega, by rw [x2, zq_g1, if_pos ⟨rfl, rfl⟩]⟩
      · rw [m2, x2, zq_us1 (c := 108) (by omega), zq_g1, if_pos ⟨rfl, rfl⟩, zq_us1 (k := 1) (by omega), zq_g1, if_pos ⟨rfl, rfl⟩]
      · rw [m2, x2, zq_g1, if_pos ⟨rfl, rfl⟩, zq_g1, if_pos ⟨rfl, rfl⟩]
      · intro c k hc; rw [x2, zq_us1 (by omega), zq_us1 (by omega)]
      · intro c k hk; rw [m2, zq_us1 (by omega), zq_us1 (by omega)]
      · intro h0 i hi
        rw [m4, x4, if_pos (by omega), if_pos (by omega)]
      · intro u hu i hi
        rw [m4, x4, if_neg (by omega), if_neg (by omega)]
        exact ⟨rfl, rfl⟩
    · simp only [c6, if_false]
      exact ⟨_, _, _, rfl, rfl, hI1⟩
  · simp only [c5, if_false, c2]
    exact ⟨_, _, _, rfl, rfl, hI1⟩
