def zC_eat (nx : Nat → Nat) : List Nat → Nat → Bool × Nat
  | [], p => (true, p)
  | c :: l, p => if nx p = c then zC_eat nx l (p + 1) else (false, p)
def zC_wd (c : Nat) : Nat := if c = 112 then 0 else if c = 98 then 1 else if c = 119 then 2 else 3
def zC_ls (w : Nat) : List Nat := if w = 0 then [112, 114, 105, 99, 101] else if w = 1 then [98, 97, 114] else if w = 2 then [119, 111, 114, 116, 104] else [115, 97, 109, 101]
def zC_e (nx : Nat → Nat) (p : Nat) : Bool × Nat := zC_eat nx (zC_ls (zC_wd (nx p)) ++ [32]) p
def zC_cl (nx : Nat → Nat) (rd : Nat → Bool × Nat × List Nat) (p : Nat) : Bool × Nat × Nat × Nat × List Nat :=
  if (zC_e nx p).1 = true then
    (if zC_wd (nx p) = 1 then ((rd (zC_e nx p).2).1, (rd (zC_e nx p).2).2.1, 1, 0, (rd (zC_e nx p).2).2.2)
    else if (zX_nu nx (zC_e nx p).2).1 = true then
      (if zC_wd (nx p) = 3 then (true, (zX_nu nx (zC_e nx p).2).2.1, 3, (zX_nu nx (zC_e nx p).2).2.2, [])
      else if nx (zX_nu nx (zC_e nx p).2).2.1 = 32 then ((rd ((zX_nu nx (zC_e nx p).2).2.1 + 1)).1, (rd ((zX_nu nx (zC_e nx p).2).2.1 + 1)).2.1, zC_wd (nx p), (zX_nu nx (zC_e nx p).2).2.2, (rd ((zX_nu nx (zC_e nx p).2).2.1 + 1)).2.2)
      else (false, (zX_nu nx (zC_e nx p).2).2.1, 0, 0, []))
    else (false, (zX_nu nx (zC_e nx p).2).2.1, 0, 0, []))
  else (false, (zC_e nx p).2, 0, 0, [])
def zC_c (t : Nat → Nat) (L p : Nat) : Bool × Nat × Nat × Nat × List Nat := zC_cl (zX_nx t L) (zP_r t L) p
theorem zC_wd4 (c : Nat) : zC_wd c < 4 := by
  unfold zC_wd
  by_cases h1 : c = 112
  · rw [if_pos h1]; omega
  · rw [if_neg h1]
    by_cases h2 : c = 98
    · rw [if_pos h2]; omega
    · rw [if_neg h2]
      by_cases h3 : c = 119
      · rw [if_pos h3]; omega
      · rw [if_neg h3]; omega
theorem zC_app (nx : Nat → Nat) : ∀ (l : List Nat) (p : Nat), zC_eat nx (l ++ [32]) p = if (zC_eat nx l p).1 = true then (if nx (zC_eat nx l p).2 = 32 then (true, (zC_eat nx l p).2 + 1) else (false, (zC_eat nx l p).2)) else (false, (zC_eat nx l p).2)
  | [], p => by
    show (if nx p = 32 then (true, p + 1) else (false, p)) = if true = true then (if nx p = 32 then (true, p + 1) else (false, p)) else (false, p)
    rw [if_pos (c := true = true) rfl]
  | c :: l, p => by
    show (if nx p = c then zC_eat nx (l ++ [32]) (p + 1) else (false, p)) = if (if nx p = c then zC_eat nx l (p + 1) else (false, p)).1 = true then (if nx (if nx p = c then zC_eat nx l (p + 1) else (false, p)).2 = 32 then (true, (if nx p = c then zC_eat nx l (p + 1) else (false, p)).2 + 1) else (false, (if nx p = c then zC_eat nx l (p + 1) else (false, p)).2)) else (false, (if nx p = c then zC_eat nx l (p + 1) else (false, p)).2)
    by_cases h : nx p = c
    · simp only [if_pos h]
      exact zC_app nx l (p + 1)
    · simp only [if_neg h]
      rfl
theorem zC_len (nx : Nat → Nat) : ∀ (l : List Nat) (p : Nat), (zC_eat nx l p).1 = true → (zC_eat nx l p).2 = p + l.length
  | [], p, _ => rfl
  | c :: l, p, h => by
    unfold zC_eat at h ⊢
    by_cases h1 : nx p = c
    · rw [if_pos h1] at h ⊢
      rw [zC_len nx l (p + 1) h, List.length_cons]
      omega
    · rw [if_neg h1] at h
      cases h
theorem zC_elen {nx : Nat → Nat} {p : Nat} (h : (zC_e nx p).1 = true) : p < (zC_e nx p).2 := by
  have := zC_len nx _ p h
  unfold zC_e
  rw [this, List.length_append]
  show p < p + (_ + 1)
  omega
theorem zC_nu {nx : Nat → Nat} {p : Nat} (h : (zX_nu nx p).1 = true) : p < (zX_nu nx p).2.1 ∧ (zX_nu nx p).2.2 < 100 := by
  unfold zX_nu at h ⊢
  by_cases c1 : zX_dg (nx p) = true
  · have g := zX_dgp c1
    rw [if_pos c1]
    by_cases c2 : zX_dg (nx (p + 1)) = true
    · have g2 := zX_dgp c2
      rw [if_pos c2]
      show p < p + 2 ∧ 10 * (nx p - 48) + (nx (p + 1) - 48) < 100
      omega
    · rw [if_neg c2]
      show p < p + 1 ∧ nx p - 48 < 100
      omega
  · rw [if_neg c1] at h
    cases h
theorem zP_lr {t : Nat → Nat} {L : Nat} : zP_ln (zP_r t L) := zP_lan (zP_lon zP_lte 4)
theorem zC_fact {t : Nat → Nat} {L p : Nat} (h : (zC_c t L p).1 = true) : (zC_c t L p).2.2.1 < 4 ∧ (zC_c t L p).2.2.2.1 < 100 ∧ ((zC_c t L p).2.2.1 ≠ 3 → zt_run (zC_c t L p).2.2.2.2 0 = some 1) ∧ ((zC_c t L p).2.2.1 = 3 → (zC_c t L p).2.2.2.2 = []) ∧ p + (zC_c t L p).2.2.2.2.length < (zC_c t L p).2.1 := by
  unfold zC_c zC_cl at h ⊢
  by_cases c1 : (zC_e (zX_nx t L) p).1 = true
  · have e1 := zC_elen c1
    rw [if_pos c1] at h ⊢
    by_cases c2 : zC_wd (zX_nx t L p) = 1
    · rw [if_pos c2] at h ⊢
      have ll := zP_lr _ h
      refine ⟨by show 1 < 4; omega, by show 0 < 100; omega, fun _ => zR_fin zX_ter h, fun h => (by cases h), ?_⟩
      show p + (zP_r t L (zC_e (zX_nx t L) p).2).2.2.length < (zP_r t L (zC_e (zX_nx t L) p).2).2.1
      omega
    · rw [if_neg c2] at h ⊢
      by_cases c3 : (zX_nu (zX_nx t L) (zC_e (zX_nx t L) p).2).1 = true
      · have n1 := zC_nu c3
        rw [if_pos c3] at h ⊢
        by_cases c4 : zC_wd (zX_nx t L p) = 3
        · rw [if_pos c4]
          refine ⟨by show 3 < 4; omega, n1.2, fun h => absurd rfl h, fun _ => rfl, ?_⟩
          show p + 0 < (zX_nu (zX_nx t L) (zC_e (zX_nx t L) p).2).2.1
          omega
        · rw [if_neg c4] at h ⊢
          by_cases c5 : zX_nx t L (zX_nu (zX_nx t L) (zC_e (zX_nx t L) p).2).2.1 = 32
          · rw [if_pos c5] at h ⊢
            have ll := zP_lr _ h
            refine ⟨zC_wd4 _, n1.2, fun _ => zR_fin zX_ter h, fun h => absurd h c4, ?_⟩
            show p + (zP_r t L ((zX_nu (zX_nx t L) (zC_e (zX_nx t L) p).2).2.1 + 1)).2.2.length < (zP_r t L ((zX_nu (zX_nx t L) (zC_e (zX_nx t L) p).2).2.1 + 1)).2.1
            omega
          · rw [if_neg c5] at h; cases h
      · rw [if_neg c3] at h; cases h
  · rw [if_neg c1] at h; cases h
theorem zC_dr : ∀ (l : List Nat) (v : Nat), v < l.length → l.drop v = l.getD v 0 :: l.drop (v + 1)
  | [], v, h => absurd h (by show ¬ v < 0; omega)
  | a :: l, 0, _ => rfl
  | a :: l, v + 1, h => zC_dr l v (by rw [List.length_cons] at h; omega)
theorem zC_l128 : ∀ w, w < 4 → (zC_ls w).length < 6 ∧ ∀ v, v < 5 → (zC_ls w).getD v 0 < 128 := by decide
theorem zC_sl (M : Nat) (sh : zq_H) (X : zq_M) : zX_cj (fun w => f_J0_length_8abf5 (M + 12) sh X w = some (zn (zC_ls w).length)) 4 := by
  iterate 4 (refine ⟨?_, rfl⟩)
  exact trivial
theorem zC_s0 (M : Nat) (sh : zq_H) (X : zq_M) : zX_cj (fun v => f_J0_charAt_5068e (M + 12) sh X 0 (zn v) = some (zn ((zC_ls 0).getD v 0))) 5 := by
  iterate 5 (refine ⟨?_, rfl⟩)
  exact trivial
theorem zC_s1 (M : Nat) (sh : zq_H) (X : zq_M) : zX_cj (fun v => f_J0_charAt_5068e (M + 12) sh X 1 (zn v) = some (zn ((zC_ls 1).getD v 0))) 3 := by
  iterate 3 (refine ⟨?_, rfl⟩)
  exact trivial
theorem zC_s2 (M : Nat) (sh : zq_H) (X : zq_M) : zX_cj (fun v => f_J0_charAt_5068e (M + 12) sh X 2 (zn v) = some (zn ((zC_ls 2).getD v 0))) 5 := by
  iterate 5 (refine ⟨?_, rfl⟩)
  exact trivial
theorem zC_s3 (M : Nat) (sh : zq_H) (X : zq_M) : zX_cj (fun v => f_J0_charAt_5068e (M + 12) sh X 3 (zn v) = some (zn ((zC_ls 3).getD v 0))) 4 := by
  iterate 4 (refine ⟨?_, rfl⟩)
  exact trivial
theorem zC_str {N w : Nat} {sh : zq_H} {X : zq_M} (hN : 20 < N) (hw : w < 4) : f_J0_length_8abf5 N sh X w = some (zn (zC_ls w).length) ∧ ∀ v, v < (zC_ls w).length → f_J0_charAt_5068e N sh X w (zn v) = some (zn ((zC_ls w).getD v 0)) := by
  obtain ⟨M, rfl⟩ : ∃ M, N = M + 12 := ⟨N - 12, by omega⟩
  refine ⟨zX_cje (zC_sl M sh X) hw, fun v hv => ?_⟩
  rcases (show w = 0 ∨ w = 1 ∨ w = 2 ∨ w = 3 by omega) with rfl | rfl | rfl | rfl
  · exact zX_cje (zC_s0 M sh X) hv
  · exact zX_cje (zC_s1 M sh X) hv
  · exact zX_cje (zC_s2 M sh X) hv
  · exact zX_cje (zC_s3 M sh X) hv
theorem zC_all {N j h L w : Nat} {t : Nat → Nat} (hN : 20 < N) (hw : w < 4) : ∀ n v F p X, v + n = (zC_ls w).length → n < F → zXM j h t L p X → ∃ X1, zq_loop (fun _ _ => none) (b_X3_eatAll_2 N j w) F (zn v) X = some (if (zC_eat (zX_nx t L) ((zC_ls w).drop v) p).1 = true then 1 else 0, X1) ∧ zXM j h t L (zC_eat (zX_nx t L) ((zC_ls w).drop v) p).2 X1 ∧ zf28 X X1 := by
  obtain ⟨l6, l128⟩ := zC_l128 w hw
  intro n
  induction n with
  | zero =>
    intro v F p X hv hF H
    obtain ⟨F, rfl⟩ : ∃ G, F = G + 1 := ⟨F - 1, by omega⟩
    rw [List.drop_eq_nil_of_le (by omega)]
    refine ⟨X, ?_, H, zf28_r X⟩
    show b_X3_eatAll_2 N j w _ (zn v) X = _
    unfold b_X3_eatAll_2
    rw [(zC_str hN hw).1, Option.bind_some, if_pos (by rw [zn_le (by omega) (by omega)]; omega)]
    rfl
  | succ n ih =>
    intro v F p X hv hF H
    obtain ⟨F, rfl⟩ : ∃ G, F = G + 1 := ⟨F - 1, by omega⟩
    have ih := ih (v + 1) F
    show ∃ X1, b_X3_eatAll_2 N j w (zq_loop (fun _ _ => none) (b_X3_eatAll_2 N j w) F) (zn v) X = _ ∧ _
    generalize zq_loop (fun _ _ => none) (b_X3_eatAll_2 N j w) F = rc at ih ⊢
    unfold b_X3_eatAll_2
    rw [(zC_str hN hw).1, Option.bind_some, if_neg (by rw [zn_le (by omega) (by omega)]; omega), (zC_str hN hw).2 v (by omega), Option.bind_some, zX_eat H (l128 v (by omega)), Option.bind_some, zC_dr _ v (by omega)]
    unfold zC_eat
    by_cases c1 : zX_nx t L p = (zC_ls w).getD v 0
    · have p1 := zX_pp (t := t) (L := L) (p := p) (by have := l128 v (by omega); omega)
      rw [if_pos c1, if_pos c1]
      rw [zq_pe, if_pos (show ¬ (1 : Int32) = 0 by decide), zn_s]
      obtain ⟨X1, q1, q2, q3⟩ := ih (p + 1) (zq_u1 X 28 2 (zn (p + 1))) (by omega) (by omega) (zX_at H (by omega))
      refine ⟨X1, q1, q2, ?_⟩
      have f1 := zf28_u (v := zn (p + 1)) (zf28_r X)
      exact ⟨q3.1.trans f1.1, fun c hc => (q3.2.1 c hc).trans (f1.2.1 c hc), fun k hk => (q3.2.2 k hk).trans (f1.2.2 k hk)⟩
    · rw [if_neg c1, if_neg c1]
      rw [zq_pe, if_neg (show ¬ ¬ (0 : Int32) = 0 by decide)]
      exact ⟨X, rfl, H, zf28_r X⟩
theorem zC_word {N j h L p : Nat} {t : Nat → Nat} {X : zq_M} (hN : 20 < N) (H : zXM j h t L p X) : ∃ X1, f_X3_readWord N j X = some (if (zC_eat (zX_nx t L) (zC_ls (zC_wd (zX_nx t L p))) p).1 = true then zn (zC_wd (zX_nx t L p)) else -1, X1) ∧ zXM j h t L (zC_eat (zX_nx t L) (zC_ls (zC_wd (zX_nx t L p))) p).2 X1 ∧ zf28 X X1 := by
  have key : f_X3_readWord N j X = j_X3_readWord_24 N j X (if p < L then zn (t p) else -1) := by
    obtain ⟨h1, h2, h3, h4, h5, h6, h7, h8, h9⟩ := H
    unfold f_X3_readWord
    rw [h3, h4]
    by_cases c1 : p < L
    · have b := h9 p (by omega)
      rw [if_neg (show ¬ zn L ≤ zn p by rw [zn_le (by omega) (by omega)]; omega), if_pos c1, h5, zX_nn, zn_ck (by omega) (by omega), zn_ix (by omega), b.2]
    · rw [if_pos (show zn L ≤ zn p by rw [zn_le (by omega) (by omega)]; omega), if_neg c1]
  have gv : ∀ c : Nat, c < 128 → (((if p < L then zn (t p) else -1) : Int32) = zn c) = (zX_nx t L p = c) := by
    intro c hc
    unfold zX_nx
    by_cases c1 : p < L
    · rw [if_pos c1, if_pos c1]
      have b := H.2.2.2.2.2.2.2.2 p (by have := H.1; omega)
      exact zn_eq (by omega) (by omega)
    · rw [if_neg c1, if_neg c1]
      exact propext ⟨fun h => absurd h (zR_n1 c hc), fun h => absurd h (by omega)⟩
  rw [key]
  unfold j_X3_readWord_24
  have g1 := gv 98 (by omega)
  have g2 := gv 112 (by omega)
  have g3 := gv 115 (by omega)
  have g4 := gv 119 (by omega)
  have al := fun (w : Nat) (hw : w < 4) => zC_all (N := N) (t := t) hN hw (zC_ls w).length 0 N p X (by omega) (by have := (zC_l128 w hw).1; omega) H
  by_cases c1 : zX_nx t L p = 98
  · rw [if_pos (show ((if p < L then zn (t p) else -1) : Int32) = 98 from g1.mpr c1), show zC_wd (zX_nx t L p) = 1 by rw [c1]; rfl]
    obtain ⟨X1, q1, q2, q3⟩ := al 1 (by omega)
    refine ⟨X1, ?_, q2, q3⟩
    unfold f_X3_eatAll
    rw [show (0 : Int32) = zn 0 from rfl, q1, Option.bind_some]
    simp only [zq_p, List.drop_zero]
    by_cases c : (zC_eat (zX_nx t L) (zC_ls 1) p).1 = true
    · rw [if_pos c, if_pos c, if_neg (by decide)]; rfl
    · rw [if_neg c, if_neg c, if_pos (by decide)]
  · rw [if_neg (show ¬ ((if p < L then zn (t p) else -1) : Int32) = 98 from fun h => c1 (g1.mp h))]
    by_cases c2 : zX_nx t L p = 112
    · rw [if_pos (show ((if p < L then zn (t p) else -1) : Int32) = 112 from g2.mpr c2), show zC_wd (zX_nx t L p) = 0 by rw [c2]; rfl]
      obtain ⟨X1, q1, q2, q3⟩ := al 0 (by omega)
      refine ⟨X1, ?_, q2, q3⟩
      unfold f_X3_eatAll
      rw [show (0 : Int32) = zn 0 from rfl, q1, Option.bind_some]
      simp only [zq_p, List.drop_zero]
      by_cases c : (zC_eat (zX_nx t L) (zC_ls 0) p).1 = true
      · rw [if_pos c, if_pos c, if_neg (by decide)]
      · rw [if_neg c, if_neg c, if_pos (by decide)]
    · rw [if_neg (show ¬ ((if p < L then zn (t p) else -1) : Int32) = 112 from fun h => c2 (g2.mp h))]
      by_cases c3 : zX_nx t L p = 115
      · rw [if_pos (show ((if p < L then zn (t p) else -1) : Int32) = 115 from g3.mpr c3), show zC_wd (zX_nx t L p) = 3 by rw [c3]; rfl]
        obtain ⟨X1, q1, q2, q3⟩ := al 3 (by omega)
        refine ⟨X1, ?_, q2, q3⟩
        unfold f_X3_eatAll
        rw [show (0 : Int32) = zn 0 from rfl, q1, Option.bind_some]
        simp only [zq_p, List.drop_zero]
        by_cases c : (zC_eat (zX_nx t L) (zC_ls 3) p).1 = true
        · rw [if_pos c, if_pos c, if_neg (by decide)]; rfl
        · rw [if_neg c, if_neg c, if_pos (by decide)]
      · rw [if_neg (show ¬ ((if p < L then zn (t p) else -1) : Int32) = 115 from fun h => c3 (g3.mp h))]
        by_cases c4 : zX_nx t L p = 119
        · rw [if_pos (show ((if p < L then zn (t p) else -1) : Int32) = 119 from g4.mpr c4), show zC_wd (zX_nx t L p) = 2 by rw [c4]; rfl]
          obtain ⟨X1, q1, q2, q3⟩ := al 2 (by omega)
          refine ⟨X1, ?_, q2, q3⟩
          unfold f_X3_eatAll
          rw [show (0 : Int32) = zn 0 from rfl, q1, Option.bind_some]
          simp only [zq_p, List.drop_zero]
          by_cases c : (zC_eat (zX_nx t L) (zC_ls 2) p).1 = true
          · rw [if_pos c, if_pos c, if_neg (by decide)]; rfl
          · rw [if_neg c, if_neg c, if_pos (by decide)]
        · rw [if_neg (show ¬ ((if p < L then zn (t p) else -1) : Int32) = 119 from fun h => c4 (g4.mp h))]
          have e : zC_eat (zX_nx t L) (zC_ls (zC_wd (zX_nx t L p))) p = (false, p) := by
            rw [show zC_wd (zX_nx t L p) = 3 by unfold zC_wd; rw [if_neg c2, if_neg c1, if_neg c4]]
            show (if zX_nx t L p = 115 then _ else (false, p)) = _
            rw [if_neg c3]
          rw [e]
          exact ⟨X, rfl, H, zf28_r X⟩
