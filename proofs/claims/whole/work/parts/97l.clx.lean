def zC_A (h n w u b : Nat) (X X1 : zq_M) : Prop := X1.2 = X.2 ∧ (∀ c, c ≠ h ∧ c ≠ h + 1 ∧ c ≠ h + 2 ∧ c ≠ h + 3 → X1.1 c = X.1 c) ∧ X1.1 (h + 1) n = zn w ∧ X1.1 (h + 2) n = zn u ∧ X1.1 (h + 3) n = zn b ∧ (∀ k, k ≠ n → X1.1 (h + 1) k = X.1 (h + 1) k ∧ X1.1 (h + 2) k = X.1 (h + 2) k ∧ X1.1 (h + 3) k = X.1 (h + 3) k) ∧ X1.1 h 0 = zn (n + 1) ∧ X1.1 h 5 = X.1 h 5 ∧ X1.1 h 6 = (if w = 3 then zn u else X.1 h 6)
theorem zC_add {N j h n w u b : Nat} {X : zq_M} (hn : n < 10) (hw : w < 4) (h0 : X.1 h 0 = zn n) (h5 : X.1 h 5 = zn b) : ∃ X1, f_X2_addClause N j X h (zn w) (zn u) = some X1 ∧ zC_A h n w u b X X1 := by
  unfold f_X2_addClause
  rw [h0, if_neg (by rw [show (10 : Int32) = zn 10 from rfl, zn_le (by omega) (by omega)]; omega), zn_ck (by omega) (by omega), zn_ix (by omega)]
  simp only [zq_b]
  rw [zq_us1 (by omega), h0, zn_ck (by omega) (by omega), zn_ix (by omega), zq_us1 (by omega), zq_us1 (by omega), h0, zn_ck (by omega) (by omega), zn_ix (by omega), zq_us1 (by omega), zq_us1 (by omega), h5, zq_us1 (by omega), zq_us1 (by omega), zq_us1 (by omega), h0, zl_1, zn_add]
  generalize hY : zq_u1 (zq_u1 (zq_u1 (zq_u1 X (h + 1) n (zn w)) (h + 2) n (zn u)) (h + 3) n (zn b)) h 0 (zn (n + 1)) = Y
  have hA : Y.2 = X.2 ∧ (∀ c, c ≠ h ∧ c ≠ h + 1 ∧ c ≠ h + 2 ∧ c ≠ h + 3 → Y.1 c = X.1 c) ∧ Y.1 (h + 1) n = zn w ∧ Y.1 (h + 2) n = zn u ∧ Y.1 (h + 3) n = zn b ∧ (∀ k, k ≠ n → Y.1 (h + 1) k = X.1 (h + 1) k ∧ Y.1 (h + 2) k = X.1 (h + 2) k ∧ Y.1 (h + 3) k = X.1 (h + 3) k) ∧ Y.1 h 0 = zn (n + 1) ∧ Y.1 h 5 = X.1 h 5 ∧ Y.1 h 6 = X.1 h 6 := by
    subst hY
    refine ⟨rfl, fun c hc => ?_, ?_, ?_, ?_, fun k hk => ⟨?_, ?_, ?_⟩, ?_, ?_, ?_⟩
    · rw [zq_un (by omega), zq_un (by omega), zq_un (by omega), zq_un (by omega)]
    · rw [zq_us1 (by omega), zq_us1 (by omega), zq_us1 (by omega), zq_g1, if_pos ⟨rfl, rfl⟩]
    · rw [zq_us1 (by omega), zq_us1 (by omega), zq_g1, if_pos ⟨rfl, rfl⟩]
    · rw [zq_us1 (by omega), zq_g1, if_pos ⟨rfl, rfl⟩]
    · rw [zq_us1 (by omega), zq_us1 (by omega), zq_us1 (by omega), zq_us1 (by omega)]
    · rw [zq_us1 (by omega), zq_us1 (by omega), zq_us1 (by omega), zq_us1 (by omega)]
    · rw [zq_us1 (by omega), zq_us1 (by omega), zq_us1 (by omega), zq_us1 (by omega)]
    · rw [zq_g1, if_pos ⟨rfl, rfl⟩]
    · rw [zq_us1 (by omega), zq_us1 (by omega), zq_us1 (by omega), zq_us1 (by omega)]
    · rw [zq_us1 (by omega), zq_us1 (by omega), zq_us1 (by omega), zq_us1 (by omega)]
  obtain ⟨a1, a2, a3, a4, a5, a6, a7, a8, a9⟩ := hA
  unfold j_X2_addClause_52
  have e3 : (zn w = (3 : Int32)) = (w = 3) := zn_eq (b := 3) (by omega) (by omega)
  by_cases c : w = 3
  · rw [if_neg (show ¬ ¬ zn w = (3 : Int32) from fun h => h (e3.mpr c))]
    refine ⟨_, rfl, a1, fun c hc => ?_, ?_, ?_, ?_, fun k hk => ?_, ?_, ?_, ?_⟩
    · rw [zq_un (by omega)]; exact a2 c hc
    · rw [zq_us1 (by omega)]; exact a3
    · rw [zq_us1 (by omega)]; exact a4
    · rw [zq_us1 (by omega)]; exact a5
    · rw [zq_us1 (by omega), zq_us1 (by omega), zq_us1 (by omega)]; exact a6 k hk
    · rw [zq_us1 (by omega)]; exact a7
    · rw [zq_us1 (by omega)]; exact a8
    · rw [zq_g1, if_pos ⟨rfl, rfl⟩, if_pos c]
  · rw [if_pos (show ¬ zn w = (3 : Int32) from fun h => c (e3.mp h))]
    exact ⟨_, rfl, a1, a2, a3, a4, a5, a6, a7, a8, by rw [if_neg c]; exact a9⟩
def zXg (h B n : Nat) (X0 X : zq_M) : Prop := X.2 = X0.2 ∧ (∀ c, c ≠ 28 ∧ c ≠ h ∧ c ≠ h + 1 ∧ c ≠ h + 2 ∧ c ≠ h + 3 ∧ c ≠ h + 4 → X.1 c = X0.1 c) ∧ (∀ k, k ≠ 2 → X.1 28 k = X0.1 28 k) ∧ (∀ k, k < B → X.1 (h + 4) k = X0.1 (h + 4) k) ∧ ∀ k, k ≠ n → X.1 (h + 1) k = X0.1 (h + 1) k ∧ X.1 (h + 2) k = X0.1 (h + 2) k ∧ X.1 (h + 3) k = X0.1 (h + 3) k
theorem zXf_g {h B n : Nat} {X0 X : zq_M} (f : zXf h B X0 X) (hh : 111 ≤ h) : zXg h B n X0 X := by
  obtain ⟨f1, f2, f3, f4, f5⟩ := f
  refine ⟨f1, fun c hc => f2 c (by omega), f3, f5, fun k _ => ?_⟩
  rw [f2 (h + 1) (by omega), f2 (h + 2) (by omega), f2 (h + 3) (by omega)]
  exact ⟨rfl, rfl, rfl⟩
theorem zXf_r (h B : Nat) (X : zq_M) : zXf h B X X := ⟨rfl, fun _ _ => rfl, fun _ _ => rfl, fun _ _ => rfl, fun _ _ => rfl⟩
def zC_G (j h : Nat) (t : Nat → Nat) (L B n : Nat) (X0 : zq_M) (q w u : Nat) (T : List Nat) (X : zq_M) : Prop := zXM j h t L q X ∧ zXg h B n X0 X ∧ X.1 h 0 = zn (n + 1) ∧ X.1 h 5 = zn (B + T.length) ∧ X.1 h 6 = (if w = 3 then zn u else X0.1 h 6) ∧ X.1 (h + 1) n = zn w ∧ X.1 (h + 2) n = zn u ∧ X.1 (h + 3) n = zn (B + T.length) ∧ ∀ i k, T[i]? = some k → X.1 (h + 4) (B + i) = zt_cx k
theorem zC_66 {N j h L B n q w u : Nat} {t : Nat → Nat} {T : List Nat} {X0 X : zq_M} (hn : n < 10) (hw : w < 4) (h0 : X0.1 h 0 = zn n) (hs : zXS j h t L B X0 T q X) : ∃ X1, j_X3_readClause_66 N j (zn w) (zn u) X = some (1, X1) ∧ zC_G j h t L B n X0 q w u T X1 := by
  obtain ⟨H, s2, s3, f1, f2, f3, f4, f5⟩ := hs
  have h111 : 111 ≤ h := H.2.2.2.2.2.2.2.1
  unfold j_X3_readClause_66
  rw [H.2.2.2.2.2.1, zX_nh H.2.2.2.2.2.2.1]
  obtain ⟨X1, e, a1, a2, a3, a4, a5, a6, a7, a8, a9⟩ := zC_add (N := N) (j := j) (u := u) hn hw ((f4 0 (by omega)).trans h0) s2
  rw [e]
  obtain ⟨r1, r2, r3, r4, r5, r6, r7, r8, r9⟩ := H
  have e28 := a2 28 (by omega)
  have e4 := a2 (h + 4) (by omega)
  refine ⟨X1, rfl, ⟨r1, r2, ?_, ?_, ?_, ?_, r7, r8, ?_⟩, ⟨a1.trans f1, fun c hc => (a2 c (by omega)).trans (f2 c (by omega)), ?_, ?_, fun k hk => ?_⟩, a7, a8.trans s2, ?_, a3, a4, a5, ?_⟩
  · rw [e28]; exact r3
  · rw [e28]; exact r4
  · rw [a1]; exact r5
  · rw [a1]; exact r6
  · rw [a2 21 (by omega)]; exact r9
  · rw [e28]; exact f3
  · rw [e4]; exact f5
  · obtain ⟨b1, b2, b3⟩ := a6 k hk
    rw [b1, b2, b3, f2 (h + 1) (by omega), f2 (h + 2) (by omega), f2 (h + 3) (by omega)]
    exact ⟨rfl, rfl, rfl⟩
  · rw [a9, f4 6 (by omega)]
  · rw [e4]; exact s3
theorem zC_x {N j h L B n p : Nat} {t : Nat → Nat} {X : zq_M} (hN : 100 < N) (hn : n < 10) (H : zXM j h t L p X) (h0 : X.1 h 0 = zn n) (h5 : X.1 h 5 = zn B) (hB : B ≤ p) : ((zC_c t L p).1 = false → ∃ X1, f_X3_readClause N j X = some (0, X1) ∧ zXM j h t L (zC_c t L p).2.1 X1 ∧ zXg h B n X X1) ∧ ((zC_c t L p).1 = true → ∃ X1, f_X3_readClause N j X = some (1, X1) ∧ zC_G j h t L B n X (zC_c t L p).2.1 (zC_c t L p).2.2.1 (zC_c t L p).2.2.2.1 (zC_c t L p).2.2.2.2 X1) := by
  have h111 : 111 ≤ h := H.2.2.2.2.2.2.2.1
  have hs0 : zXS j h t L B X [] p X := ⟨H, h5, fun n k hk => (by cases hk), zXf_r h B X⟩
  obtain ⟨X1, e1, H1, F1⟩ := zC_word (N := N) (by omega) H
  have hs1 := zX_28 hs0 F1 H1
  have hw := zC_wd4 (zX_nx t L p)
  unfold f_X3_readClause
  rw [e1, Option.bind_some, zq_pe]
  have ea := zC_app (zX_nx t L) (zC_ls (zC_wd (zX_nx t L p))) p
  unfold zC_c zC_cl
  unfold zC_e
  generalize zC_wd (zX_nx t L p) = w at *
  by_cases c1 : (zC_eat (zX_nx t L) (zC_ls w) p).1 = true
  · have l1 := zC_len (zX_nx t L) _ _ c1
    rw [if_pos c1] at ea
    rw [if_pos c1, if_pos (zn_p0 (by omega))]
    have ew1 : (zn w = (1 : Int32)) = (w = 1) := zn_eq (b := 1) (by omega) (by omega)
    have ew3 : (zn w = (3 : Int32)) = (w = 3) := zn_eq (b := 3) (by omega) (by omega)
    generalize (zC_eat (zX_nx t L) (zC_ls w) p).2 = q at *
    obtain ⟨X2, e2, hs2⟩ := zX_eats (N := N) (c := 32) hs1 (by omega)
    have e2 : f_X3_eat N j X1 32 = _ := e2
    by_cases c3 : zX_nx t L q = 32
    · rw [if_pos c3] at ea e2 hs2
      rw [ea]
      simp only [if_true]
      by_cases c2 : w = 1
      · subst c2
        rw [if_pos (show zn 1 = (1 : Int32) from rfl), if_pos rfl]
        unfold j_X3_readClause_36
        rw [if_pos (by decide), if_neg (by decide), e2, Option.bind_some, zq_pe]
        rw [if_neg (show ¬ (1 : Int32) = 0 by decide)]
        obtain ⟨o1, o2⟩ := zX_read (N := N) hN (q + 1) [] X2 hs2 (by show B + 0 < _; omega)
        by_cases c4 : (zP_r t L (q + 1)).1 = true
        · obtain ⟨X3, e3, hs3⟩ := o2 c4
          simp only at e3
          rw [e3, Option.bind_some, zq_pe]
          rw [if_pos (show ¬ (1 : Int32) = 0 by decide)]
          exact ⟨fun h => absurd (c4.symm.trans h) (by decide), fun _ => zC_66 (w := 1) (u := 0) hn (by omega) h0 hs3⟩
        · obtain ⟨X3, e3, H3, F3⟩ := o1 (Bool.eq_false_iff.mpr c4)
          simp only at e3
          rw [e3, Option.bind_some, zq_pe]
          rw [if_neg (show ¬ ¬ (0 : Int32) = 0 by decide)]
          exact ⟨fun _ => ⟨X3, rfl, H3, zXf_g F3 h111⟩, fun h => absurd h c4⟩
      · rw [if_neg (show ¬ zn w = (1 : Int32) from fun h => c2 (ew1.mp h)), if_neg c2, e2, Option.bind_some, zq_pe]
        rw [if_neg (show ¬ (1 : Int32) = 0 by decide)]
        obtain ⟨X3, e3, H3, F3⟩ := zX_rnum (N := N) (by omega) hs2.1
        have hs3 := zX_28 hs2 F3 H3
        rw [e3, Option.bind_some, zq_pe]
        unfold j_X3_readClause_36
        by_cases c4 : (zX_nu (zX_nx t L) (q + 1)).1 = true
        · have n1 := zC_nu c4
          simp only [if_pos c4]
          rw [if_pos (zn_p0 (by omega))]
          by_cases c5 : w = 3
          · subst c5
            rw [if_pos (show zn 3 = (3 : Int32) from rfl), if_pos rfl]
            exact ⟨fun h => (by cases h), fun _ => zC_66 (w := 3) hn (by omega) h0 hs3⟩
          · rw [if_neg (show ¬ zn w = (3 : Int32) from fun h => c5 (ew3.mp h)), if_neg c5]
            generalize (zX_nu (zX_nx t L) (q + 1)).2.1 = r at *
            obtain ⟨X4, e4, hs4⟩ := zX_eats (N := N) (c := 32) hs3 (by omega)
            have e4 : f_X3_eat N j X3 32 = _ := e4
            rw [e4, Option.bind_some, zq_pe]
            by_cases c6 : zX_nx t L r = 32
            · simp only [if_pos c6] at hs4 ⊢
              rw [if_neg (show ¬ (1 : Int32) = 0 by decide)]
              obtain ⟨o1, o2⟩ := zX_read (N := N) hN (r + 1) [] X4 hs4 (by show B + 0 < _; omega)
              by_cases c7 : (zP_r t L (r + 1)).1 = true
              · obtain ⟨X5, e5, hs5⟩ := o2 c7
                simp only at e5
                rw [e5, Option.bind_some, zq_pe]
                rw [if_pos (show ¬ (1 : Int32) = 0 by decide)]
                exact ⟨fun h => absurd (c7.symm.trans h) (by decide), fun _ => zC_66 hn hw h0 hs5⟩
              · obtain ⟨X5, e5, H5, F5⟩ := o1 (Bool.eq_false_iff.mpr c7)
                simp only at e5
                rw [e5, Option.bind_some, zq_pe]
                rw [if_neg (show ¬ ¬ (0 : Int32) = 0 by decide)]
                exact ⟨fun _ => ⟨X5, rfl, H5, zXf_g F5 h111⟩, fun h => absurd h c7⟩
            · simp only [if_neg c6, if_true] at hs4 ⊢
              exact ⟨fun _ => ⟨X4, rfl, hs4.1, zXf_g (zX_sf hs4) h111⟩, fun h => (by cases h)⟩
        · simp only [if_neg c4]
          rw [if_neg (show ¬ (0 : Int32) ≤ -1 by decide)]
          exact ⟨fun _ => ⟨X3, rfl, H3, zXf_g (zX_sf hs3) h111⟩, fun h => (by cases h)⟩
    · rw [if_neg c3] at ea e2 hs2
      rw [ea, if_neg (show ¬ (false, q).1 = true by simp)]
      refine ⟨fun _ => ⟨X2, ?_, hs2.1, zXf_g (zX_sf hs2) h111⟩, fun h => (by cases h)⟩
      by_cases c2 : w = 1
      · subst c2
        rw [if_pos (show zn 1 = (1 : Int32) from rfl)]
        unfold j_X3_readClause_36
        rw [if_pos (by decide), if_neg (by decide), e2, Option.bind_some]
        rfl
      · rw [if_neg (show ¬ zn w = (1 : Int32) from fun h => c2 (ew1.mp h)), e2, Option.bind_some, zq_pe]
        unfold j_X3_readClause_36
        rw [if_pos rfl, if_neg (show ¬ (0 : Int32) ≤ -1 by decide)]
  · rw [if_neg c1] at ea
    rw [if_neg c1, if_neg (show ¬ (0 : Int32) ≤ -1 by decide), ea, if_neg (show ¬ (false, (zC_eat (zX_nx t L) (zC_ls w) p).2).1 = true by simp)]
    exact ⟨fun _ => ⟨X1, rfl, H1, zXf_g (zX_sf hs1) h111⟩, fun h => (by cases h)⟩
