theorem zP_lte {nx : Nat → Nat} : zP_ln (zX_te nx) := by
  intro p h
  unfold zX_te at h ⊢
  by_cases c1 : zX_pl (nx p) < 6
  · rw [if_pos c1] at h ⊢
    by_cases c2 : 60 ≤ nx (p + 1) ∧ nx (p + 1) ≤ 62
    · rw [if_pos c2] at h ⊢
      by_cases c3 : (zX_nu nx (p + 2)).1 = true
      · rw [if_pos c3]
        show 1 + p ≤ (zX_nu nx (p + 2)).2.1
        unfold zX_nu at c3 ⊢
        by_cases c4 : zX_dg (nx (p + 2)) = true
        · rw [if_pos c4]
          by_cases c5 : zX_dg (nx (p + 2 + 1)) = true
          · rw [if_pos c5]; show 1 + p ≤ p + 2 + 2; omega
          · rw [if_neg c5]; show 1 + p ≤ p + 2 + 1; omega
        · rw [if_neg c4] at c3; cases c3
      · rw [if_neg c3] at h; cases h
    · rw [if_neg c2] at h; cases h
  · rw [if_neg c1] at h; cases h
theorem zP_lon {nx : Nat → Nat} {te : Nat → Bool × Nat × List Nat} (ht : zP_ln te) : ∀ r, zP_ln (zP_one nx te r)
  | 0 => by
    intro p h
    unfold zP_one at h ⊢
    by_cases c : nx p = 33 ∨ nx p = 40
    · rw [if_pos c] at h; cases h
    · rw [if_neg c] at h ⊢
      exact ht p h
  | r + 1 => by
    intro p h
    unfold zP_one at h ⊢
    by_cases c1 : nx p = 33
    · rw [if_pos c1] at h ⊢
      by_cases c2 : (zP_one nx te r (p + 1)).1 = true
      · rw [if_pos c2]
        have := zP_lon ht r (p + 1) c2
        show ((zP_one nx te r (p + 1)).2.2 ++ [0]).length + p ≤ (zP_one nx te r (p + 1)).2.1
        rw [List.length_append]
        show _ + 1 + p ≤ _
        omega
      · rw [if_neg c2] at h; cases h
    · rw [if_neg c1] at h ⊢
      by_cases c2 : nx p = 40
      · rw [if_pos c2] at h ⊢
        by_cases c3 : (zP_an nx (zP_one nx te r) (p + 1)).1 = true
        · rw [if_pos c3] at h ⊢
          by_cases c4 : nx (zP_an nx (zP_one nx te r) (p + 1)).2.1 = 41
          · rw [if_pos c4]
            have := zP_lan (nx := nx) (zP_lon ht r) (p + 1) c3
            show (zP_an nx (zP_one nx te r) (p + 1)).2.2.length + p ≤ (zP_an nx (zP_one nx te r) (p + 1)).2.1 + 1
            omega
          · rw [if_neg c4] at h; cases h
        · rw [if_neg c3] at h; cases h
      · rw [if_neg c2] at h ⊢
        exact ht p h
theorem zq_pe {α β γ : Type} {g : α → β → γ} {a : α} {b : β} : zq_p g (a, b) = g a b := rfl
theorem zn_s (a : Nat) : zn a + 1 = zn (a + 1) := zn_add a 1
def zX_ok (j h : Nat) (t : Nat → Nat) (L B : Nat) (X0 : zq_M) (f : zq_M → Option (Int32 × zq_M)) (g : Nat → Bool × Nat × List Nat) : Prop := ∀ p T X, zXS j h t L B X0 T p X → B + T.length < p → ((g p).1 = false → ∃ X1, f X = some (0, X1) ∧ zXM j h t L (g p).2.1 X1 ∧ zXf h B X0 X1) ∧ ((g p).1 = true → ∃ X1, f X = some (1, X1) ∧ zXS j h t L B X0 (T ++ (g p).2.2) (g p).2.1 X1)
theorem zX_sf {j h L B p : Nat} {t : Nat → Nat} {T : List Nat} {X0 X : zq_M} (hs : zXS j h t L B X0 T p X) : zXf h B X0 X := hs.2.2.2
theorem zX_eats {N j h L B p c : Nat} {t : Nat → Nat} {T : List Nat} {X0 X : zq_M} (hs : zXS j h t L B X0 T p X) (hc : c < 128) : ∃ X1, f_X3_eat N j X (zn c) = some (if zX_nx t L p = c then 1 else 0, X1) ∧ zXS j h t L B X0 T (if zX_nx t L p = c then p + 1 else p) X1 := by
  rw [zX_eat hs.1 hc]
  by_cases c1 : zX_nx t L p = c
  · have p1 := zX_pp (t := t) (L := L) (p := p) (by omega)
    rw [if_pos c1, if_pos c1, if_pos c1]
    exact ⟨_, rfl, zX_28 hs (zf28_u (zf28_r X)) (zX_at hs.1 (by omega))⟩
  · rw [if_neg c1, if_neg c1, if_neg c1]
    exact ⟨X, rfl, hs⟩
def zX_bd (N j c k : Nat) (f : zq_M → Option (Int32 × zq_M)) (rc : Int32 → zq_M → Option (Int32 × zq_M)) (v3 : Int32) (X4 : zq_M) : Option (Int32 × zq_M) :=
  if (100 : Int32) ≤ v3 then (some ((1 : Int32), X4)) else ((f_X3_eat N j X4 (zn c)).bind (zq_p (fun v5 X6 => if v5 = 0 then (some ((1 : Int32), X6)) else ((f X6).bind (zq_p (fun v7 X8 => if ¬ v7 = 0 then (zq_nn (X8.2.2 28 3) (zq_ho (zq_shX j)) (fun h9 => (f_X2_addStep N j X8 h9 (zt_cx k)).bind (fun X10 => rc (v3 + (1 : Int32)) X10))) else (some ((0 : Int32), X8))))))))
theorem zX_ls {N j h L B c k : Nat} {t : Nat → Nat} {X0 : zq_M} {T : List Nat} {f : zq_M → Option (Int32 × zq_M)} {one : Nat → Bool × Nat × List Nat} (hc : c < 128) (ho : zX_ok j h t L B X0 f one) (hl : zP_ln one) : ∀ g v F p U X, g + v = 100 → g < F → zXS j h t L B X0 (T ++ U) p X → B + (T ++ U).length < p → ((zP_ls (zX_nx t L) one c k g p U).1 = false → ∃ X1, zq_loop (fun _ _ => none) (zX_bd N j c k f) F (zn v) X = some (0, X1) ∧ zXM j h t L (zP_ls (zX_nx t L) one c k g p U).2.1 X1 ∧ zXf h B X0 X1) ∧ ((zP_ls (zX_nx t L) one c k g p U).1 = true → ∃ X1, zq_loop (fun _ _ => none) (zX_bd N j c k f) F (zn v) X = some (1, X1) ∧ zXS j h t L B X0 (T ++ (zP_ls (zX_nx t L) one c k g p U).2.2) (zP_ls (zX_nx t L) one c k g p U).2.1 X1) := by
  intro g
  induction g with
  | zero =>
    intro v F p U X hv hF hs hb
    obtain ⟨F, rfl⟩ : ∃ G, F = G + 1 := ⟨F - 1, by omega⟩
    have hv : v = 100 := by omega
    subst hv
    refine ⟨fun h => (by cases h), fun _ => ⟨X, ?_, hs⟩⟩
    show zX_bd N j c k f _ (zn 100) X = _
    unfold zX_bd
    rw [if_pos (by decide)]
  | succ g ih =>
    intro v F p U X hv hF hs hb
    obtain ⟨F, rfl⟩ : ∃ G, F = G + 1 := ⟨F - 1, by omega⟩
    show (_ → ∃ X1, zX_bd N j c k f (zq_loop (fun _ _ => none) (zX_bd N j c k f) F) (zn v) X = _ ∧ _) ∧ (_ → ∃ X1, zX_bd N j c k f (zq_loop (fun _ _ => none) (zX_bd N j c k f) F) (zn v) X = _ ∧ _)
    have ih := ih (v + 1) F
    generalize zq_loop (fun _ _ => none) (zX_bd N j c k f) F = rc at ih ⊢
    unfold zX_bd zP_ls
    rw [if_neg (show ¬ (100 : Int32) ≤ zn v by rw [show (100 : Int32) = zn 100 from rfl, zn_le (by omega) (by omega)]; omega)]
    obtain ⟨X1, e1, e2⟩ := zX_eats (N := N) hs hc
    rw [e1, Option.bind_some, zq_pe]
    by_cases c1 : zX_nx t L p = c
    · simp only [if_pos c1] at e2 ⊢
      rw [if_neg (show ¬ (1 : Int32) = 0 by decide)]
      obtain ⟨o1, o2⟩ := ho (p + 1) (T ++ U) X1 e2 (by omega)
      by_cases c2 : (one (p + 1)).1 = true
      · obtain ⟨X2, q1, q2⟩ := o2 c2
        have ll := hl (p + 1) c2
        have hL : L ≤ 100 := hs.1.1
        have hp2 : (one (p + 1)).2.1 ≤ L := q2.1.2.1
        rw [if_pos c2, q1, Option.bind_some, zq_pe]
        rw [if_pos (show ¬ (1 : Int32) = 0 by decide), q2.1.2.2.2.2.2.1, zX_nh q2.1.2.2.2.2.2.2.1]
        obtain ⟨X3, y1, y2⟩ := zX_add (N := N) (k := k) q2 (by rw [List.length_append]; omega)
        rw [y1, Option.bind_some, zl_1, zn_add]
        rw [List.append_assoc, List.append_assoc, ← List.append_assoc U] at y2
        refine ih (one (p + 1)).2.1 (U ++ (one (p + 1)).2.2 ++ [k]) X3 (by omega) (by omega) y2 ?_
        rw [List.length_append] at hb
        rw [List.length_append, List.length_append, List.length_append]
        show B + (T.length + (U.length + _ + 1)) < _
        omega
      · obtain ⟨X2, q1, q2⟩ := o1 (Bool.eq_false_iff.mpr c2)
        rw [if_neg c2, q1, Option.bind_some, zq_pe]
        rw [if_neg (show ¬ ¬ (0 : Int32) = 0 by decide)]
        exact ⟨fun _ => ⟨X2, rfl, q2⟩, fun h => (by cases h)⟩
    · simp only [if_neg c1, if_true] at e2 ⊢
      exact ⟨fun h => (by cases h), fun _ => ⟨X1, rfl, e2⟩⟩
theorem zX_tst {N j h L B p : Nat} {t : Nat → Nat} {T : List Nat} {X0 X : zq_M} (hN : 20 < N) (hs : zXS j h t L B X0 T p X) (hb : B + T.length < 100) : ((zX_te (zX_nx t L) p).1 = false → ∃ X1, (f_X3_readTest N j X).bind (zq_p (fun v12 X13 => zq_gz v12 (some (v12, X13)))) = some (0, X1) ∧ zXM j h t L (zX_te (zX_nx t L) p).2.1 X1 ∧ zXf h B X0 X1) ∧ ((zX_te (zX_nx t L) p).1 = true → ∃ X1, (f_X3_readTest N j X).bind (zq_p (fun v12 X13 => zq_gz v12 (some (v12, X13)))) = some (1, X1) ∧ zXS j h t L B X0 (T ++ (zX_te (zX_nx t L) p).2.2) (zX_te (zX_nx t L) p).2.1 X1) := by
  obtain ⟨o1, o2⟩ := zX_test (N := N) hN hs hb
  refine ⟨fun h => ?_, fun h => ?_⟩
  · obtain ⟨X1, q1, q2⟩ := o1 h
    refine ⟨X1, ?_, q2.1, zX_sf q2⟩
    rw [q1, Option.bind_some]
    rfl
  · obtain ⟨X1, q1, q2⟩ := o2 h
    refine ⟨X1, ?_, q2⟩
    rw [q1, Option.bind_some]
    rfl
theorem zX_two {N j h L B c k : Nat} {t : Nat → Nat} {X0 : zq_M} {f : zq_M → Option (Int32 × zq_M)} {one : Nat → Bool × Nat × List Nat} (hN : 100 < N) (hc : c < 128) (ho : zX_ok j h t L B X0 f one) (hl : zP_ln one) : zX_ok j h t L B X0 (fun X => (f X).bind (zq_p (fun v1 X2 => if ¬ v1 = 0 then (zq_loop (fun _ _ => none) (zX_bd N j c k f) N (0 : Int32) X2) else (some ((0 : Int32), X2))))) (fun p => if (one p).1 = true then zP_ls (zX_nx t L) one c k 100 (one p).2.1 (one p).2.2 else (false, (one p).2.1, [])) := by
  intro p T X hs hb
  obtain ⟨o1, o2⟩ := ho p T X hs hb
  show ((if (one p).1 = true then zP_ls (zX_nx t L) one c k 100 (one p).2.1 (one p).2.2 else (false, (one p).2.1, [])).1 = false → _) ∧ _
  by_cases c2 : (one p).1 = true
  · obtain ⟨X2, q1, q2⟩ := o2 c2
    have ll := hl p c2
    simp only [if_pos c2]
    rw [q1, Option.bind_some, zq_pe]
    rw [if_pos (show ¬ (1 : Int32) = 0 by decide)]
    exact zX_ls (k := k) hc ho hl 100 0 N (one p).2.1 (one p).2.2 X2 rfl hN q2 (by rw [List.length_append]; omega)
  · obtain ⟨X2, q1, q2⟩ := o1 (Bool.eq_false_iff.mpr c2)
    simp only [if_neg c2]
    rw [q1, Option.bind_some, zq_pe]
    rw [if_neg (show ¬ ¬ (0 : Int32) = 0 by decide)]
    exact ⟨fun _ => ⟨X2, rfl, q2⟩, fun h => (by cases h)⟩
theorem zX_all {N j h L B : Nat} {t : Nat → Nat} {X0 : zq_M} {rO : Int32 → zq_M → Option (Int32 × zq_M)} {a1 : Int32} {one : Nat → Bool × Nat × List Nat} (hN : 100 < N) (ho : zX_ok j h t L B X0 (rO a1) one) (hl : zP_ln one) : zX_ok j h t L B X0 (fun X => f_X3_readAll N j rO X a1) (zP_al (zX_nx t L) one) := zX_two (N := N) (c := 38) (k := 1) hN (by omega) ho hl
theorem zX_any {N j h L B : Nat} {t : Nat → Nat} {X0 : zq_M} {rO : Int32 → zq_M → Option (Int32 × zq_M)} {a1 : Int32} {one : Nat → Bool × Nat × List Nat} (hN : 100 < N) (ho : zX_ok j h t L B X0 (rO a1) one) (hl : zP_ln one) : zX_ok j h t L B X0 (fun X => f_X3_readAny N j rO X a1) (zP_an (zX_nx t L) one) := zX_two (N := N) (c := 124) (k := 2) hN (by omega) (zX_all hN ho hl) (zP_lal hl)
theorem zX_b1 {N j h L p : Nat} {t : Nat → Nat} {X : zq_M} {rc : Int32 → zq_M → Option (Int32 × zq_M)} {a1 : Int32} (H : zXM j h t L p X) : B_X3_readOne N j rc a1 X = j_X3_readOne_61 N j X a1 rc (if zX_nx t L p = 33 then 1 else 0) (if zX_nx t L p = 40 then 1 else 0) := by
  obtain ⟨h1, h2, h3, h4, h5, h6, h7, h8, h9⟩ := H
  unfold B_X3_readOne j_X3_readOne_30 zX_nx
  rw [h3, h4]
  by_cases c1 : p < L
  · have b := h9 p (by omega)
    have e1 : (zn (t p) = (33 : Int32)) = (t p = 33) := zn_eq (b := 33) (by omega) (by omega)
    have e2 : (zn (t p) = (40 : Int32)) = (t p = 40) := zn_eq (b := 40) (by omega) (by omega)
    rw [if_neg (show ¬ zn L ≤ zn p by rw [zn_le (by omega) (by omega)]; omega), if_neg (show ¬ zn L ≤ zn p by rw [zn_le (by omega) (by omega)]; omega), if_neg (show ¬ zn L ≤ zn p by rw [zn_le (by omega) (by omega)]; omega), if_pos c1, h5, zX_nn]
    simp only [zX_nn]
    rw [zn_ck (by omega) (by omega), zn_ix (by omega), b.2]
    simp only [zn_ck (ρ := Int32 × zq_M) (a := p) (n := 100) (show p < 100 by omega) (show 100 < 2147483648 by omega), zn_ix (show p < 2147483648 by omega), b.2, e1, e2]
    by_cases c2 : t p = 33
    · have c3 : ¬ t p = 40 := by omega
      simp only [c2, not_true, if_false, if_true, show ((33 : Nat) = 40) = False by decide, not_false_eq_true]
    · by_cases c3 : t p = 40
      · simp only [c3, not_true, not_false_eq_true, if_false, if_true, show ((40 : Nat) = 33) = False by decide]
      · simp only [if_neg c3, if_neg c2, c2, c3, not_true, not_false_eq_true, if_false, if_true]
  · have e : zn L ≤ zn p := by rw [zn_le (by omega) (by omega)]; omega
    simp only [if_pos e, if_neg c1]
    rw [if_neg (by omega), if_neg (by omega)]
theorem zX_on {N j h L B : Nat} {t : Nat → Nat} {X0 : zq_M} (hN : 100 < N) : ∀ r d F, d + r = 4 → r < F → zX_ok j h t L B X0 (zq_loop (fun _ _ => none) (B_X3_readOne N j) F (zn d)) (zP_one (zX_nx t L) (zX_te (zX_nx t L)) r) := by
  intro r
  induction r with
  | zero =>
    intro d F hd hF p T X hs hb
    obtain ⟨F, rfl⟩ : ∃ G, F = G + 1 := ⟨F - 1, by omega⟩
    have hd : d = 4 := by omega
    subst hd
    have hL : L ≤ 100 := hs.1.1
    have hpL : p ≤ L := hs.1.2.1
    show (_ → ∃ X1, B_X3_readOne N j (zq_loop (fun _ _ => none) (B_X3_readOne N j) F) (zn 4) X = _ ∧ _) ∧ (_ → ∃ X1, B_X3_readOne N j (zq_loop (fun _ _ => none) (B_X3_readOne N j) F) (zn 4) X = _ ∧ _)
    generalize zq_loop (fun _ _ => none) (B_X3_readOne N j) F = rc
    rw [zX_b1 hs.1]
    unfold j_X3_readOne_61 j_X3_readOne_75 zP_one
    rw [if_neg (show ¬ zn 4 < (4 : Int32) by decide)]
    by_cases c1 : zX_nx t L p = 33
    · rw [if_pos c1, if_pos (Or.inl c1), if_pos (show ¬ (1 : Int32) = 0 by decide)]
      exact ⟨fun _ => ⟨X, rfl, hs.1, zX_sf hs⟩, fun h => (by cases h)⟩
    · by_cases c2 : zX_nx t L p = 40
      · rw [if_neg c1, if_pos c2, if_pos (Or.inr c2), if_neg (show ¬ ¬ (0 : Int32) = 0 by decide), if_pos (show ¬ (1 : Int32) = 0 by decide)]
        exact ⟨fun _ => ⟨X, rfl, hs.1, zX_sf hs⟩, fun h => (by cases h)⟩
      · rw [if_neg c1, if_neg c2, if_neg (by omega), if_neg (show ¬ ¬ (0 : Int32) = 0 by decide), if_neg (show ¬ ¬ (0 : Int32) = 0 by decide)]
        exact zX_tst (by omega) hs (by omega)
  | succ r ih =>
    intro d F hd hF p T X hs hb
    obtain ⟨F, rfl⟩ : ∃ G, F = G + 1 := ⟨F - 1, by omega⟩
    have hL : L ≤ 100 := hs.1.1
    have hpL : p ≤ L := hs.1.2.1
    have ih := ih (d + 1) F (by omega) (by omega)
    show (_ → ∃ X1, B_X3_readOne N j (zq_loop (fun _ _ => none) (B_X3_readOne N j) F) (zn d) X = _ ∧ _) ∧ (_ → ∃ X1, B_X3_readOne N j (zq_loop (fun _ _ => none) (B_X3_readOne N j) F) (zn d) X = _ ∧ _)
    generalize zq_loop (fun _ _ => none) (B_X3_readOne N j) F = rc at ih ⊢
    rw [zX_b1 hs.1]
    unfold j_X3_readOne_61 j_X3_readOne_75 zP_one
    rw [if_pos (show zn d < (4 : Int32) by rw [show (4 : Int32) = zn 4 from rfl, zn_lt (by omega) (by omega)]; omega), zn_s]
    simp only [zq_b]
    rw [hs.1.2.2.2.1, zn_s]
    by_cases c1 : zX_nx t L p = 33
    · have p1 := zX_pp (t := t) (L := L) (p := p) (by omega)
      have hs1 : zXS j h t L B X0 T (p + 1) (zq_u1 X 28 2 (zn (p + 1))) := zX_28 hs (zf28_u (zf28_r X)) (zX_at hs.1 (by omega))
      rw [if_pos c1, if_pos c1, if_pos (show ¬ (1 : Int32) = 0 by decide), if_neg (show ¬ zX_nx t L p = 40 by omega), if_pos (show (0 : Int32) = 0 from rfl)]
      obtain ⟨o1, o2⟩ := ih (p + 1) T _ hs1 (by omega)
      by_cases c2 : (zP_one (zX_nx t L) (zX_te (zX_nx t L)) r (p + 1)).1 = true
      · obtain ⟨X2, q1, q2⟩ := o2 c2
        have ll := zP_lon (nx := zX_nx t L) zP_lte r (p + 1) c2
        have hp2 : (zP_one (zX_nx t L) (zX_te (zX_nx t L)) r (p + 1)).2.1 ≤ L := q2.1.2.1
        rw [if_pos c2, q1, Option.bind_some, zq_pe]
        rw [if_pos (show ¬ (1 : Int32) = 0 by decide), q2.1.2.2.2.2.2.1, zX_nh q2.1.2.2.2.2.2.2.1]
        obtain ⟨X3, y1, y2⟩ := zX_add (N := N) (k := 0) q2 (by rw [List.length_append]; omega)
        rw [show (-1 : Int32) = zt_cx 0 from rfl, y1, Option.bind_some]
        rw [List.append_assoc] at y2
        exact ⟨fun h => (by cases h), fun _ => ⟨X3, rfl, y2⟩⟩
      · obtain ⟨X2, q1, q2⟩ := o1 (Bool.eq_false_iff.mpr c2)
        rw [if_neg c2, q1, Option.bind_some, zq_pe]
        rw [if_neg (show ¬ ¬ (0 : Int32) = 0 by decide)]
        exact ⟨fun _ => ⟨X2, rfl, q2⟩, fun h => (by cases h)⟩
    · by_cases c2 : zX_nx t L p = 40
      · have p1 := zX_pp (t := t) (L := L) (p := p) (by omega)
        have hs1 : zXS j h t L B X0 T (p + 1) (zq_u1 X 28 2 (zn (p + 1))) := zX_28 hs (zf28_u (zf28_r X)) (zX_at hs.1 (by omega))
        rw [if_neg c1, if_neg c1, if_pos c2, if_pos c2, if_neg (show ¬ ¬ (0 : Int32) = 0 by decide), if_pos (show ¬ (1 : Int32) = 0 by decide), if_neg (show ¬ (1 : Int32) = 0 by decide)]
        obtain ⟨o1, o2⟩ := zX_any (N := N) hN ih (zP_lon (nx := zX_nx t L) zP_lte r) (p + 1) T _ hs1 (by omega)
        by_cases c3 : (zP_an (zX_nx t L) (zP_one (zX_nx t L) (zX_te (zX_nx t L)) r) (p + 1)).1 = true
        · obtain ⟨X2, q1, q2⟩ := o2 c3
          simp only at q1
          rw [if_pos c3, q1, Option.bind_some, zq_pe]
          rw [if_neg (show ¬ (1 : Int32) = 0 by decide)]
          obtain ⟨X3, e1, e2⟩ := zX_eats (N := N) (c := 41) q2 (by omega)
          rw [show (41 : Int32) = zn 41 from rfl, e1, Option.bind_some]
          by_cases c4 : zX_nx t L (zP_an (zX_nx t L) (zP_one (zX_nx t L) (zX_te (zX_nx t L)) r) (p + 1)).2.1 = 41
          · simp only [if_pos c4] at e2 ⊢
            rw [zq_pe, if_neg (show ¬ (1 : Int32) = 0 by decide)]
            exact ⟨fun h => (by cases h), fun _ => ⟨X3, rfl, e2⟩⟩
          · simp only [if_neg c4, if_true] at e2 ⊢
            exact ⟨fun _ => ⟨X3, rfl, e2.1, zX_sf e2⟩, fun h => (by cases h)⟩
        · obtain ⟨X2, q1, q2⟩ := o1 (Bool.eq_false_iff.mpr c3)
          simp only at q1
          rw [if_neg c3, q1, Option.bind_some, zq_pe]
          rw [if_pos (show (0 : Int32) = 0 from rfl)]
          exact ⟨fun _ => ⟨X2, rfl, q2⟩, fun h => (by cases h)⟩
      · rw [if_neg c1, if_neg c2, if_neg c1, if_neg c2, if_neg (show ¬ ¬ (0 : Int32) = 0 by decide), if_neg (show ¬ ¬ (0 : Int32) = 0 by decide)]
        exact zX_tst (by omega) hs (by omega)
theorem zX_read {N j h L B : Nat} {t : Nat → Nat} {X0 : zq_M} (hN : 100 < N) : zX_ok j h t L B X0 (fun X => f_X3_readAny N j (fr_X3_readOne N j) X 0) (zP_r t L) := by
  have := zX_any (N := N) (B := B) (X0 := X0) hN (zX_on (N := N) (h := h) (B := B) (X0 := X0) (t := t) (L := L) (j := j) hN 4 0 64 rfl (by omega)) (zP_lon zP_lte 4)
  exact this
