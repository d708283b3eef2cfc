theorem zw_sb {a b : Nat} (ha : a < 2147483648) (hb : b < 2147483648) : (zn a - zn b).toInt = (a : Int) - b := by
  rw [Int32.toInt_sub, zn_ti ha, zn_ti hb]
  apply Int.bmod_eq_of_le <;> omega
theorem zw_s1 (N t b l : Nat) (X : zq_M) (a3 a4 : Int32) (hN : l < N) (ht : t < 6) (hb : b + l ≤ 60) : ∃ X1, zq_loop (fun _ _ => none) (b_X11_shift_104 N (zn t) (zn b) a3 a4 (zn l)) N (0 : Int32) X = k_X11_shift_138_3 N a3 a4 (zn l) X1 ∧ (∀ i, i < l → X1.2.1 110 i = X.2.1 109 (60 * t + b + i)) ∧ X1.1 = X.1 ∧ X1.2.2 = X.2.2 ∧ X1.2.1 109 = X.2.1 109 := by
  have h := zr_loopN (P := fun n r => ∀ i, i ≤ l → l < n + i → ∀ Y : zq_M, Y.1 = X.1 → Y.2.2 = X.2.2 → (∀ c, c ≠ 110 → Y.2.1 c = X.2.1 c) → (∀ m, m < i → Y.2.1 110 m = X.2.1 109 (60 * t + b + m)) → ∃ X1, r (zn i) Y = k_X11_shift_138_3 N a3 a4 (zn l) X1 ∧ (∀ i, i < l → X1.2.1 110 i = X.2.1 109 (60 * t + b + i)) ∧ X1.1 = X.1 ∧ X1.2.2 = X.2.2 ∧ X1.2.1 109 = X.2.1 109) (fun _ _ => none) (b_X11_shift_104 N (zn t) (zn b) a3 a4 (zn l)) (by intro i h1 h2; omega) ?_ N
  · exact h 0 (by omega) (by omega) X rfl rfl (fun _ _ => rfl) (fun m hm => by omega)
  · intro n r ih i h1 h2 Y y1 y2 y3 y4
    unfold b_X11_shift_104
    rw [show (60 : Int32) = zn 60 from rfl, zn_mul, zn_add, zn_add]
    by_cases h3 : i = l
    · subst h3
      rw [if_pos (by rw [zn_le (by omega) (by omega)]; omega)]
      exact ⟨Y, rfl, y4, y1, y2, y3 109 (by omega)⟩
    · rw [if_neg (by rw [zn_le (by omega) (by omega)]; omega), zn_ck (by omega) (by omega), zn_ck (by omega) (by omega), zn_ix (by omega), zn_ix (by omega)]
      simp only [zq_b]
      rw [show zn i + 1 = zn (i + 1) from zn_add i 1]
      refine ih (i + 1) (by omega) (by omega) _ y1 y2 ?_ ?_
      · intro c hc
        funext m
        rw [zq_g2, if_neg (by omega), y3 c hc]
      · intro m hm
        rw [zq_g2]
        by_cases h4 : m = i
        · rw [if_pos ⟨rfl, h4⟩, y3 109 (by omega), h4]
        · rw [if_neg (by omega)]
          exact y4 m (by omega)
theorem zw_s2 (N t b l : Nat) (X : zq_M) (hN : l < N) (ht : t < 6) (hb : b + l ≤ 60) : ∃ X1, k_X11_shift_138_3 N (zn t) (zn b) (zn l) X = some (zn l, X1) ∧ X1.1 = X.1 ∧ X1.2.2 = X.2.2 ∧ ∀ k, X1.2.1 109 k = if 60 * t + b ≤ k ∧ k < 60 * t + b + l then X.2.1 110 (k - (60 * t + b)) else X.2.1 109 k := by
  have h := zr_loopN (P := fun n r => ∀ i, i ≤ l → l < n + i → ∀ Y : zq_M, Y.1 = X.1 → Y.2.2 = X.2.2 → Y.2.1 110 = X.2.1 110 → (∀ k, Y.2.1 109 k = if 60 * t + b ≤ k ∧ k < 60 * t + b + i then X.2.1 110 (k - (60 * t + b)) else X.2.1 109 k) → ∃ X1, r (zn i) Y = some (zn l, X1) ∧ X1.1 = X.1 ∧ X1.2.2 = X.2.2 ∧ ∀ k, X1.2.1 109 k = if 60 * t + b ≤ k ∧ k < 60 * t + b + l then X.2.1 110 (k - (60 * t + b)) else X.2.1 109 k) (fun _ _ => none) (b_X11_shift_141 (zn t) (zn b) (zn l)) (by intro i h1 h2; omega) ?_ N
  · unfold k_X11_shift_138_3
    exact h 0 (by omega) (by omega) X rfl rfl rfl (fun k => by rw [if_neg (by omega)])
  · intro n r ih i h1 h2 Y y1 y2 y3 y4
    unfold b_X11_shift_141
    rw [show (60 : Int32) = zn 60 from rfl, zn_mul, zn_add, zn_add]
    by_cases h3 : i = l
    · subst h3
      rw [if_pos (by rw [zn_le (by omega) (by omega)]; omega)]
      exact ⟨Y, rfl, y1, y2, y4⟩
    · rw [if_neg (by rw [zn_le (by omega) (by omega)]; omega), zn_ck (by omega) (by omega), zn_ck (by omega) (by omega), zn_ix (by omega), zn_ix (by omega)]
      simp only [zq_b]
      rw [show zn i + 1 = zn (i + 1) from zn_add i 1]
      refine ih (i + 1) (by omega) (by omega) _ y1 y2 ?_ ?_
      · funext m
        rw [zq_g2, if_neg (by omega), y3]
      · intro m
        rw [zq_g2]
        by_cases h4 : m = 60 * t + b + i
        · rw [if_pos (c := 109 = 109 ∧ m = 60 * t + b + i) ⟨rfl, h4⟩, if_pos (by omega), y3, h4, show 60 * t + b + i - (60 * t + b) = i from by omega]
        · rw [if_neg (c := 109 = 109 ∧ m = 60 * t + b + i) (by omega), y4]
          by_cases h5 : 60 * t + b ≤ m ∧ m < 60 * t + b + i
          · rw [if_pos h5, if_pos (by omega)]
          · rw [if_neg h5, if_neg (by omega)]
theorem zI_shift (N : Nat) (hN : 60 < N) : zq_op_shift N zI := by
  intro q j X M a b c d e hq hI
  have hI1 := zI_idle q j X M hI
  unfold f_X10_shift f_X11_shift f_X7_holdsRow f_X7_hasPart
  simp only [zw_x, zw_m, zw_xa, zw_ma, Option.bind_some]
  have d4 : ¬ ((1 : Int32) = 0) := by decide
  by_cases c0 : a < 0 ∨ 5 < a
  · simp only [c0, if_true, not_true, if_false]
    exact ⟨_, _, _, rfl, rfl, hI1⟩
  simp only [c0, d4, if_false, not_false_iff, if_true]
  by_cases c1 : c < 0 ∨ 5 < c
  · simp only [c1, if_true, not_true, if_false]
    exact ⟨_, _, _, rfl, rfl, hI1⟩
  simp only [c1, d4, if_false, not_false_iff, if_true]
  obtain ⟨t, ht, rfl⟩ := zw_in (n := 5) (fun h => c0 (Or.inl h)) (fun h => c0 (Or.inr h)) (by omega)
  obtain ⟨u, hu, rfl⟩ := zw_in (n := 5) (fun h => c1 (Or.inl h)) (fun h => c1 (Or.inr h)) (by omega)
  obtain ⟨g1, g2, g3, g4, ⟨n, hn, g5⟩, g6⟩ := hI.2.2.2.2.1 t (by omega)
  obtain ⟨k1, k2, k3, k4, ⟨m, hm, k5⟩, k6⟩ := hI.2.2.2.2.1 u (by omega)
  have nn := fun (f : Nat → Option (Int32 × zq_M)) => zw_nn (f := f) g1 (zw_ta j t (by omega))
  have nm := fun (f : Nat → Option (Int32 × zq_M)) => zw_nn (f := f) k1 (zw_ta j u (by omega))
  have ck := fun (o : Option (Int32 × zq_M)) => zn_ck (o := o) (a := t) (n := 6) (by omega) (by omega)
  have cm := fun (o : Option (Int32 × zq_M)) => zn_ck (o := o) (a := u) (n := 6) (by omega) (by omega)
  have ix : zq_ix (zn t) = t := zn_ix (by omega)
  have iy : zq_ix (zn u) = u := zn_ix (by omega)
  simp only [ck, cm, ix, iy, nn, nm, g2, g3, k2, k3, g5, k5]
  rcases g4 with ⟨g4, g7⟩ | ⟨s, hs, g4⟩
  · simp only [g4, show (-1 : Int32) < 0 from by decide, if_true, Option.bind_some]
    exact ⟨_, _, _, rfl, rfl, hI1⟩
  simp only [g4, zw_nlt (show s < 2147483648 from by omega), if_false, Option.bind_some, d4]
  rcases k4 with ⟨k4, k7⟩ | ⟨r, hr, k4⟩
  · simp only [k4, show (-1 : Int32) < 0 from by decide, show ¬ ((0 : Int32) ≤ -1) from by decide, if_true, if_false, Option.bind_some, not_true]
    exact ⟨_, _, _, rfl, rfl, hI1⟩
  simp only [k4, zw_nlt (show r < 2147483648 from by omega), zw_ge (show r < 2147483648 from by omega), if_true, if_false, Option.bind_some, d4, not_false_iff]
  by_cases c2 : ¬ (zn s = zn r)
  · simp only [c2, if_false]
    exact ⟨_, _, _, rfl, rfl, hI1⟩
  have c2 := Classical.not_not.mp c2
  simp only [c2, if_true]
  by_cases c3 : e < 0
  · simp only [c3, if_true, ite_self, Option.bind_some]
    exact ⟨_, _, _, rfl, rfl, hI1⟩
  simp only [c3, if_false]
  by_cases c4 : b < 0
  · simp only [c4, if_true, Option.bind_some]
    exact ⟨_, _, _, rfl, rfl, hI1⟩
  simp only [c4, if_false]
  by_cases c5 : d < 0
  · simp only [c5, if_true, Option.bind_some, not_true, if_false]
    repeat' split
    all_goals first
      | exact ⟨_, _, _, rfl, rfl, hI1⟩
      | simp_all
  simp only [c5, if_false]
  obtain ⟨l, hl, rfl⟩ := zn_nt e (by simpa using c3)
  obtain ⟨v, hv, rfl⟩ := zn_nt b (by simpa using c4)
  obtain ⟨w, hw, rfl⟩ := zn_nt d (by simpa using c5)
  by_cases c6 : ¬ (v + l ≤ n)
  · have e1 : (zn n - zn l) < zn v := by rw [Int32.lt_iff_toInt_lt, zw_sb (by omega) hl, zn_ti hv]; omega
    have e2 : ¬ (zn n < zn v) → (zn n - zn v) < zn l := by
      intro _
      rw [Int32.lt_iff_toInt_lt, zw_sb (by omega) hv, zn_ti hl]; omega
    simp only [e1, if_true]
    by_cases e3 : zn n < zn v
    · simp only [e3, if_true, Option.bind_some]
      exact ⟨_, _, _, rfl, rfl, hI1⟩
    · simp only [e3, e2 e3, if_true, if_false, Option.bind_some]
      exact ⟨_, _, _, rfl, rfl, hI1⟩
  have e1 : ¬ ((zn n - zn l) < zn v) := by rw [Int32.lt_iff_toInt_lt, zw_sb (by omega) hl, zn_ti hv]; omega
  have e2 : ¬ ((zn n - zn v) < zn l) := by rw [Int32.lt_iff_toInt_lt, zw_sb (by omega) hv, zn_ti hl]; omega
  have e3 : ¬ (zn n < zn v) := by rw [zn_lt (by omega) hv]; omega
  simp only [e1, e2, e3, if_false, Option.bind_some, d4]
  by_cases c7 : ¬ (w + l ≤ m)
  · have e4 : ¬ (zn w ≤ zn m - zn l) := by rw [Int32.le_iff_toInt_le, zw_sb (by omega) hl, zn_ti hw]; omega
    have e5 : ¬ (zn m < zn w) → (zn m - zn w) < zn l := by
      intro _
      rw [Int32.lt_iff_toInt_lt, zw_sb (by omega) hw, zn_ti hl]; omega
    simp only [e4, if_false]
    by_cases e6 : zn m < zn w
    · simp only [e6, if_true, Option.bind_some, not_true, if_false]
      exact ⟨_, _, _, rfl, rfl, hI1⟩
    · simp only [e6, e5 e6, if_true, if_false, Option.bind_some, not_true]
      exact ⟨_, _, _, rfl, rfl, hI1⟩
  have e4 : zn w ≤ zn m - zn l := by rw [Int32.le_iff_toInt_le, zw_sb (by omega) hl, zn_ti hw]; omega
  have e5 : ¬ ((zn m - zn w) < zn l) := by rw [Int32.lt_iff_toInt_lt, zw_sb (by omega) hw, zn_ti hl]; omega
  have e6 : ¬ (zn m < zn w) := by rw [zn_lt (by omega) hw]; omega
  simp only [e4, e5, e6, if_true, if_false, Option.bind_some, d4, not_false_iff]
  have i1 : (zn v).toNatClampNeg = v := zn_ix hv
  have i2 : (zn w).toNatClampNeg = w := zn_ix hw
  have i3 : (zn l).toNatClampNeg = l := zn_ix hl
  unfold zq_ac
  rw [i1, i2, i3, if_neg (by intro h; rcases h with h | h | h | h | h; exact c4 h; exact c5 h; exact c3 h; omega; omega)]
  simp only [zq_b]
  obtain ⟨M1, m1, m2, m3, m4, m5⟩ := zw_s1 N t v l M (zn u) (zn w) (by omega) (by omega) (by omega)
  obtain ⟨M2, o1, o2, o3, o4⟩ := zw_s2 N u w l M1 (by omega) (by omega) (by omega)
  rw [m1, o1]
  refine ⟨_, _, _, rfl, rfl, ?_⟩
  refine zI_tap hI (fun c hc => rfl) rfl (fun c hc => by rw [o2, m3]) ?_
  intro y hy
  obtain ⟨p1, p2, p3, p4, p5, p6⟩ := hI.2.2.2.2.1 y hy
  refine ⟨p1, by rw [o2, m3]; exact p2, by rw [o2, m3]; exact p3, p4, p5, ?_⟩
  intro h0 i hi
  have hx : (zq_cp2 X (57 + 2 * t + 1) (zn v) (57 + 2 * u + 1) (zn w) (zn l)).2.1 (58 + 2 * y) i = if 58 + 2 * y = 57 + 2 * u + 1 then va_cpy (X.2.1 (57 + 2 * t + 1)) (X.2.1 (57 + 2 * u + 1)) v w l i else X.2.1 (58 + 2 * y) i := by
    unfold zq_cp2
    rw [i1, i2, i3]
  rw [hx, o4, m5]
  by_cases hyu : y = u
  · subst hyu
    rw [if_pos (c := 58 + 2 * y = 57 + 2 * y + 1) (by omega)]
    by_cases hw2 : w ≤ i ∧ i < w + l
    · rw [pk_cpy_in hw2.1 hw2.2, if_pos (by omega), m2 _ (by omega)]
      have := g6 (by rw [g4]; exact zw_ge (by omega)) (v + (i - w)) (by omega)
      rw [show 60 * t + v + (60 * y + i - (60 * y + w)) = 60 * t + (v + (i - w)) from by omega, this, show 57 + 2 * t + 1 = 58 + 2 * t from by omega]
    · rw [pk_cpy_out (show i < w ∨ w + l ≤ i by omega), if_neg (by omega), show 57 + 2 * y + 1 = 58 + 2 * y from by omega]
      exact p6 h0 i hi
  · rw [if_neg (c := 58 + 2 * y = 57 + 2 * u + 1) (by omega), if_neg (by omega)]
    exact p6 h0 i hi
