def zC_lt (M : zq_M) : Prop := ∀ i, i < 17 → M.1 83 i = zn (zv_let i)
def zC_of (w : Nat) : Nat := if w = 0 then 0 else if w = 1 then 5 else if w = 2 then 8 else 13
theorem zC_let : ∀ w, w < 4 → zC_of w + (zC_ls w).length ≤ 17 ∧ ∀ v, v < (zC_ls w).length → zv_let (zC_of w + v) = (zC_ls w).getD v 0 := by decide
theorem zf69_t {X Y Z : zq_M} (h : zf69 X Y) (g : zf69 Y Z) : zf69 X Z := ⟨g.1.trans h.1, fun c hc => (g.2.1 c hc).trans (h.2.1 c hc), fun k hk => (g.2.2 k hk).trans (h.2.2 k hk)⟩
theorem zC_tw {N L w : Nat} {t : Nat → Nat} (hw : w < 4) : ∀ n v F p X, v + n = (zC_ls w).length → n < F → zRM t L p X → zC_lt X → ∃ X1, zq_loop (fun _ _ => none) (b_X11_takesWord_2 N (zn (zC_of w)) (zn (zC_ls w).length)) F (zn v) X = some (if (zC_eat (zX_nx t L) ((zC_ls w).drop v ++ [32]) p).1 = true then 1 else 0, X1) ∧ zRM t L (zC_eat (zX_nx t L) ((zC_ls w).drop v ++ [32]) p).2 X1 ∧ zf69 X X1 := by
  obtain ⟨l6, l128⟩ := zC_l128 w hw
  obtain ⟨l17, llt⟩ := zC_let w hw
  intro n
  induction n with
  | zero =>
    intro v F p X hv hF H hl
    obtain ⟨F, rfl⟩ : ∃ G, F = G + 1 := ⟨F - 1, by omega⟩
    rw [List.drop_eq_nil_of_le (by omega)]
    show ∃ X1, b_X11_takesWord_2 N (zn (zC_of w)) (zn (zC_ls w).length) _ (zn v) X = _ ∧ _
    unfold b_X11_takesWord_2
    rw [if_pos (by rw [zn_le (by omega) (by omega)]; omega)]
    unfold k_X11_takesWord_30_2
    rw [show (32 : Int32) = zn 32 from rfl, zR_takes H (by omega), Option.bind_some]
    show ∃ X1, _ = some (if (if zX_nx t L p = 32 then (true, p + 1) else (false, p)).1 = true then 1 else 0, X1) ∧ zRM t L (if zX_nx t L p = 32 then (true, p + 1) else (false, p)).2 X1 ∧ _
    by_cases c : zX_nx t L p = 32
    · have p1 := zX_pp (t := t) (L := L) (p := p) (by omega)
      simp only [if_pos c]
      exact ⟨_, rfl, zR_at H (by omega), zf69_u (by omega) (zf69_r X)⟩
    · simp only [if_neg c]
      exact ⟨X, rfl, H, zf69_r X⟩
  | succ n ih =>
    intro v F p X hv hF H hl
    obtain ⟨F, rfl⟩ : ∃ G, F = G + 1 := ⟨F - 1, by omega⟩
    have ih := ih (v + 1) F
    show ∃ X1, b_X11_takesWord_2 N (zn (zC_of w)) (zn (zC_ls w).length) (zq_loop (fun _ _ => none) (b_X11_takesWord_2 N (zn (zC_of w)) (zn (zC_ls w).length)) F) (zn v) X = _ ∧ _
    generalize zq_loop (fun _ _ => none) (b_X11_takesWord_2 N (zn (zC_of w)) (zn (zC_ls w).length)) F = rc at ih ⊢
    unfold b_X11_takesWord_2
    have v128 := l128 v (by omega)
    rw [if_neg (by rw [zn_le (by omega) (by omega)]; omega), zn_add, zn_ck (by omega) (by omega), zn_ix (by omega), hl _ (by omega), llt v (by omega), zR_takes H v128, Option.bind_some, zC_dr _ v (by omega), List.cons_append]
    unfold zC_eat
    by_cases c1 : zX_nx t L p = (zC_ls w).getD v 0
    · have p1 := zX_pp (t := t) (L := L) (p := p) (by omega)
      rw [if_pos c1, if_pos c1]
      rw [zq_pe, if_pos (show ¬ (1 : Int32) = 0 by decide), zn_s]
      obtain ⟨X1, q1, q2, q3⟩ := ih (p + 1) (zq_u1 X 69 13 (zn (p + 1))) (by omega) (by omega) (zR_at H (by omega)) (fun i hi => by rw [zq_un (by omega)]; exact hl i hi)
      exact ⟨X1, q1, q2, zf69_t (zf69_u (by omega) (zf69_r X)) q3⟩
    · rw [if_neg c1, if_neg c1]
      rw [zq_pe, if_neg (show ¬ ¬ (0 : Int32) = 0 by decide)]
      exact ⟨X, rfl, H, zf69_r X⟩
theorem zC_77 {L p a c : Nat} {t : Nat → Nat} {M : zq_M} {v : Int32} (hc : c ≠ 69 ∧ c ≠ 75) (h : zRM t L p M) : zRM t L p (zq_u1 M c a v) := by
  obtain ⟨h1, h2, h3, h4, h5⟩ := h
  refine ⟨h1, h2, ?_, ?_, fun i hi => ?_⟩
  · rw [zq_un (by omega)]; exact h3
  · rw [zq_un (by omega)]; exact h4
  · rw [zq_un (by omega)]; exact h5 i hi
theorem zC_hd {N L p a w : Nat} {t : Nat → Nat} {M : zq_M} {A B : Int32} (hN : 20 < N) (hw : w < 4) (ha : a < 60) (h : zRM t L p M) (hl : zC_lt M) (hA : A = zn (zC_of w)) (hB : B = zn (zC_ls w).length) : ∃ M1, (zq_ck (zn a) 60 (zq_b (zq_u1 M 77 (zq_ix (zn a)) (zn w)) (fun X11 => (f_X11_takesWord N X11 A B).bind (zq_p (fun v12 X13 => zq_gz v12 (some (v12, X13))))))) = some (if (zC_eat (zX_nx t L) (zC_ls w ++ [32]) p).1 = true then 1 else 0, M1) ∧ zRM t L (zC_eat (zX_nx t L) (zC_ls w ++ [32]) p).2 M1 ∧ zf69 (zq_u1 M 77 a (zn w)) M1 := by
  subst hA hB
  rw [zn_ck ha (by omega), zn_ix (by omega)]
  simp only [zq_b]
  obtain ⟨M1, q1, q2, q3⟩ := zC_tw (N := N) (t := t) hw (zC_ls w).length 0 N p (zq_u1 M 77 a (zn w)) (by omega) (by have := (zC_l128 w hw).1; omega) (zC_77 (by omega) h) (fun i hi => by rw [zq_un (by omega)]; exact hl i hi)
  rw [List.drop_zero] at q1 q2
  refine ⟨M1, ?_, q2, q3⟩
  unfold f_X11_takesWord
  have q1 : zq_loop (fun _ _ => none) (b_X11_takesWord_2 N (zn (zC_of w)) (zn (zC_ls w).length)) N (0 : Int32) (zq_u1 M 77 a (zn w)) = _ := q1
  rw [q1, Option.bind_some, zq_pe]
  by_cases c : (zC_eat (zX_nx t L) (zC_ls w ++ [32]) p).1 = true
  · rw [if_pos c]; rfl
  · rw [if_neg c]; rfl
theorem zC_head {N L p a : Nat} {t : Nat → Nat} {M : zq_M} (hN : 20 < N) (ha : a < 60) (h : zRM t L p M) (hl : zC_lt M) : ∃ M1, f_X11_takesHead N M (zn a) = some (if (zC_e (zX_nx t L) p).1 = true then 1 else 0, M1) ∧ zRM t L (zC_e (zX_nx t L) p).2 M1 ∧ zf69 (zq_u1 M 77 a (zn (zC_wd (zX_nx t L p)))) M1 := by
  unfold f_X11_takesHead zC_e
  rw [zR_next h, Option.bind_some]
  have g1 : (zRv t L p = 98) = (zX_nx t L p = 98) := zR_v (c := 98) h (by omega)
  have g2 : (zRv t L p = 112) = (zX_nx t L p = 112) := zR_v (c := 112) h (by omega)
  have g3 : (zRv t L p = 119) = (zX_nx t L p = 119) := zR_v (c := 119) h (by omega)
  simp only [g1, g2, g3]
  by_cases c1 : zX_nx t L p = 98
  · rw [if_pos c1, show zC_wd (zX_nx t L p) = 1 by rw [c1]; rfl]
    exact zC_hd (w := 1) hN (by omega) ha h hl rfl rfl
  · rw [if_neg c1]
    by_cases c2 : zX_nx t L p = 112
    · rw [if_pos c2, show zC_wd (zX_nx t L p) = 0 by rw [c2]; rfl]
      exact zC_hd (w := 0) hN (by omega) ha h hl rfl rfl
    · rw [if_neg c2]
      by_cases c3 : zX_nx t L p = 119
      · rw [if_pos c3, show zC_wd (zX_nx t L p) = 2 by rw [c3]; rfl]
        exact zC_hd (w := 2) hN (by omega) ha h hl rfl rfl
      · rw [if_neg c3, show zC_wd (zX_nx t L p) = 3 by unfold zC_wd; rw [if_neg c2, if_neg c1, if_neg c3]]
        exact zC_hd (w := 3) hN (by omega) ha h hl rfl rfl
def zCf (B a : Nat) (M0 M : zq_M) : Prop := M.2 = M0.2 ∧ (∀ c, c ≠ 69 ∧ c ≠ 77 ∧ c ≠ 78 ∧ c ≠ 79 ∧ c ≠ 80 ∧ c ≠ 81 ∧ c ≠ 82 → M.1 c = M0.1 c) ∧ (∀ k, k ≠ 13 ∧ k ≠ 14 ∧ k ≠ 23 ∧ k ≠ 24 ∧ k ≠ 25 → M.1 69 k = M0.1 69 k) ∧ (∀ k, k < B → M.1 81 k = M0.1 81 k) ∧ ∀ c k, 77 ≤ c → c ≤ 80 → k ≠ a → M.1 c k = M0.1 c k
theorem zCf_r (B a : Nat) (M : zq_M) : zCf B a M M := ⟨rfl, fun _ _ => rfl, fun _ _ => rfl, fun _ _ => rfl, fun _ _ _ _ _ => rfl⟩
theorem zCf_69 {B a : Nat} {M0 M M1 : zq_M} (h : zCf B a M0 M) (g : zf69 M M1) : zCf B a M0 M1 := by
  obtain ⟨h1, h2, h3, h4, h5⟩ := h
  obtain ⟨g1, g2, g3⟩ := g
  exact ⟨g1.trans h1, fun c hc => (g2 c (by omega)).trans (h2 c hc), fun k hk => (g3 k (by omega)).trans (h3 k hk), fun k hk => by rw [g2 81 (by omega)]; exact h4 k hk, fun c k h7 h8 hk => by rw [g2 c (by omega)]; exact h5 c k h7 h8 hk⟩
theorem zCf_u {B a c : Nat} {M0 M : zq_M} {v : Int32} (hc : 77 ≤ c ∧ c ≤ 80) (h : zCf B a M0 M) : zCf B a M0 (zq_u1 M c a v) := by
  obtain ⟨h1, h2, h3, h4, h5⟩ := h
  refine ⟨h1, fun c1 hc1 => ?_, fun k hk => ?_, fun k hk => ?_, fun c1 k h7 h8 hk => ?_⟩
  · rw [zq_un (by omega)]; exact h2 c1 hc1
  · rw [zq_un (by omega)]; exact h3 k hk
  · rw [zq_un (by omega)]; exact h4 k hk
  · rw [zq_us1 (by omega)]; exact h5 c1 k h7 h8 hk
theorem zCf_R {B a : Nat} {M0 M M1 : zq_M} (h : zCf B a M0 M) (g : zRf B a M M1) : zCf B a M0 M1 := by
  obtain ⟨h1, h2, h3, h4, h5⟩ := h
  obtain ⟨g1, g2, g3, g4, g5⟩ := g
  refine ⟨g1.trans h1, fun c hc => (g2 c (by omega)).trans (h2 c hc), fun k hk => (g3 k (by omega)).trans (h3 k hk), fun k hk => (g4 k hk).trans (h4 k hk), fun c k h7 h8 hk => ?_⟩
  by_cases e : c = 80
  · subst e; exact (g5 k hk).trans (h5 80 k h7 h8 hk)
  · rw [g2 c (by omega)]; exact h5 c k h7 h8 hk
def zC_H (t : Nat → Nat) (L B a : Nat) (M0 : zq_M) (q w u : Nat) (T : List Nat) (M : zq_M) : Prop := zRM t L q M ∧ zCf B a M0 M ∧ M.1 69 23 = zn (B + T.length) ∧ M.1 77 a = zn w ∧ (w ≠ 1 → M.1 78 a = zn u) ∧ (w ≠ 3 → M.1 79 a = zn B ∧ M.1 80 a = zn (B + T.length) ∧ ∀ i k, T[i]? = some k → M.1 81 (B + i) = zt_cm k)
theorem zC_m {N L B a p : Nat} {t : Nat → Nat} {M : zq_M} (hN : 200 < N) (ha : a < 60) (h : zRM t L p M) (hl : zC_lt M) (hB : M.1 69 23 = zn B) (hb : B ≤ 500 + p) : ((zC_c t L p).1 = false → ∃ M1, f_X11_takesClause N M (zn a) = some (0, M1) ∧ zRM t L (zC_c t L p).2.1 M1 ∧ zCf B a M M1) ∧ ((zC_c t L p).1 = true → ∃ M1, f_X11_takesClause N M (zn a) = some (1, M1) ∧ zC_H t L B a M (zC_c t L p).2.1 (zC_c t L p).2.2.1 (zC_c t L p).2.2.2.1 (zC_c t L p).2.2.2.2 M1) := by
  obtain ⟨M1, e1, H1, F1⟩ := zC_head (N := N) (by omega) ha h hl
  have C1 : zCf B a M M1 := zCf_69 (zCf_u (by omega) (zCf_r B a M)) F1
  have hw := zC_wd4 (zX_nx t L p)
  have w77 : M1.1 77 a = zn (zC_wd (zX_nx t L p)) := by rw [F1.2.1 77 (by omega), zq_g1, if_pos ⟨rfl, rfl⟩]
  have B1 : M1.1 69 23 = zn B := by rw [F1.2.2 23 (by omega), zq_un (by omega)]; exact hB
  unfold f_X11_takesClause
  rw [e1, Option.bind_some, zq_pe]
  unfold zC_c zC_cl
  by_cases c1 : (zC_e (zX_nx t L) p).1 = true
  · have l1 := zC_elen c1
    simp only [if_pos c1]
    generalize zC_wd (zX_nx t L p) = w at *
    generalize (zC_e (zX_nx t L) p).2 = q at *
    have ew1 : (zn w = (1 : Int32)) = (w = 1) := zn_eq (b := 1) (by omega) (by omega)
    have ew3 : (zn w = (3 : Int32)) = (w = 3) := zn_eq (b := 3) (by omega) (by omega)
    rw [if_pos (show ¬ (1 : Int32) = 0 by decide), zn_ck ha (by omega), zn_ix (by omega), w77]
    by_cases c2 : w = 1
    · subst c2
      rw [if_neg (show ¬ ¬ zn 1 = (1 : Int32) by decide), if_pos rfl]
      obtain ⟨M2, e2, H2, F2, V2⟩ := zR_takesE (N := N) hN ha H1 B1 (by omega)
      have C2 := zCf_R (zCf_u (a := a) (c := 79) (v := zn B) (by omega) C1) F2
      have d77 : M2.1 77 a = zn 1 := by rw [F2.2.1 77 (by omega), zq_un (by omega)]; exact w77
      have d79 : M2.1 79 a = zn B := by rw [F2.2.1 79 (by omega), zq_g1, if_pos ⟨rfl, rfl⟩]
      rw [e2, Option.bind_some]
      by_cases c3 : (zP_r t L q).1 = true
      · rw [if_pos c3]
        obtain ⟨v1, v2, v3⟩ := V2 c3
        exact ⟨fun h => absurd (c3.symm.trans h) (by decide), fun _ => ⟨M2, rfl, H2, C2, v2, d77, fun h => absurd rfl h, fun _ => ⟨d79, v1, v3⟩⟩⟩
      · rw [if_neg c3]
        exact ⟨fun _ => ⟨M2, rfl, H2, C2⟩, fun h => absurd h c3⟩
    · rw [if_pos (show ¬ zn w = (1 : Int32) from fun h => c2 (ew1.mp h)), if_neg c2]
      obtain ⟨M2, e2, F2, H2, V2⟩ := zR_num (N := N) (by omega) H1
      have C2 := zCf_69 C1 F2
      have B2 : M2.1 69 23 = zn B := (F2.2.2 23 (by omega)).trans B1
      have d2 : M2.1 77 a = zn w := by rw [F2.2.1 77 (by omega)]; exact w77
      rw [e2, Option.bind_some]
      by_cases c3 : (zX_nu (zX_nx t L) q).1 = true
      · have n1 := zC_nu c3
        have v14 := V2 c3
        simp only [if_pos c3]
        rw [zq_pe, if_pos (show ¬ (1 : Int32) = 0 by decide), zn_ck ha (by omega), v14]
        simp only [zq_b]
        rw [zn_ck ha (by omega), zq_us1 (by omega), d2]
        have H3 := zC_77 (c := 78) (a := a) (v := zn (zX_nu (zX_nx t L) q).2.2) (by omega) H2
        have C3 := zCf_u (c := 78) (v := zn (zX_nu (zX_nx t L) q).2.2) (by omega) C2
        have d3 : (zq_u1 M2 78 a (zn (zX_nu (zX_nx t L) q).2.2)).1 77 a = zn w := by rw [zq_us1 (by omega)]; exact d2
        have g3 : (zq_u1 M2 78 a (zn (zX_nu (zX_nx t L) q).2.2)).1 78 a = zn (zX_nu (zX_nx t L) q).2.2 := by rw [zq_g1, if_pos ⟨rfl, rfl⟩]
        have B3 : (zq_u1 M2 78 a (zn (zX_nu (zX_nx t L) q).2.2)).1 69 23 = zn B := by rw [zq_un (by omega)]; exact B2
        generalize zq_u1 M2 78 a (zn (zX_nu (zX_nx t L) q).2.2) = M3 at *
        by_cases c4 : w = 3
        · subst c4
          rw [if_pos (show zn 3 = (3 : Int32) from rfl), if_pos rfl]
          exact ⟨fun h => (by cases h), fun _ => ⟨M3, rfl, H3, C3, B3, d3, fun _ => g3, fun h => absurd rfl h⟩⟩
        · rw [if_neg (show ¬ zn w = (3 : Int32) from fun h => c4 (ew3.mp h)), if_neg c4]
          generalize (zX_nu (zX_nx t L) q).2.1 = r at *
          generalize (zX_nu (zX_nx t L) q).2.2 = u at *
          rw [show (32 : Int32) = zn 32 from rfl, zR_takes H3 (by omega), Option.bind_some]
          by_cases c5 : zX_nx t L r = 32
          · have p1 := zX_pp (t := t) (L := L) (p := r) (by omega)
            simp only [if_pos c5]
            rw [zq_pe, if_neg (show ¬ (1 : Int32) = 0 by decide)]
            have H4 := zR_at H3 (q := r + 1) (by omega)
            have C4 := zCf_69 C3 (zf69_u (v := zn (r + 1)) (k := 13) (by omega) (zf69_r M3))
            have d4 : (zq_u1 M3 69 13 (zn (r + 1))).1 77 a = zn w := by rw [zq_un (by omega)]; exact d3
            have g4 : (zq_u1 M3 69 13 (zn (r + 1))).1 78 a = zn u := by rw [zq_un (by omega)]; exact g3
            have B4 : (zq_u1 M3 69 13 (zn (r + 1))).1 69 23 = zn B := by rw [zq_us1 (by omega)]; exact B3
            generalize zq_u1 M3 69 13 (zn (r + 1)) = M4 at *
            obtain ⟨M5, e5, H5, F5, V5⟩ := zR_takesE (N := N) hN ha H4 B4 (by omega)
            have C5 := zCf_R (zCf_u (a := a) (c := 79) (v := zn B) (by omega) C4) F5
            have d77 : M5.1 77 a = zn w := by rw [F5.2.1 77 (by omega), zq_un (by omega)]; exact d4
            have d78 : M5.1 78 a = zn u := by rw [F5.2.1 78 (by omega), zq_un (by omega)]; exact g4
            have d79 : M5.1 79 a = zn B := by rw [F5.2.1 79 (by omega), zq_g1, if_pos ⟨rfl, rfl⟩]
            rw [e5, Option.bind_some]
            by_cases c6 : (zP_r t L (r + 1)).1 = true
            · simp only [if_pos c6]
              obtain ⟨v1, v2, v3⟩ := V5 c6
              exact ⟨fun h => absurd (c6.symm.trans h) (by decide), fun _ => ⟨M5, rfl, H5, C5, v2, d77, fun _ => d78, fun _ => ⟨d79, v1, v3⟩⟩⟩
            · simp only [if_neg c6]
              exact ⟨fun _ => ⟨M5, rfl, H5, C5⟩, fun h => absurd h c6⟩
          · simp only [if_neg c5]
            exact ⟨fun _ => ⟨M3, rfl, H3, C3⟩, fun h => (by cases h)⟩
      · simp only [if_neg c3]
        exact ⟨fun _ => ⟨M2, rfl, H2, C2⟩, fun h => (by cases h)⟩
  · simp only [if_neg c1]
    exact ⟨fun _ => ⟨M1, rfl, H1, C1⟩, fun h => (by cases h)⟩
