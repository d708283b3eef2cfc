def zP_st (a : Nat) : List Nat → List Nat → List Nat × List Nat
  | [], T => ([], T)
  | k :: W, T => if k = 38 then zP_st a W (T ++ [1]) else if k = 124 then (if a = 38 then (k :: W, T) else zP_st a W (T ++ [2])) else (k :: W, T)
def zP_wh : List Nat → Nat → List Nat → List Nat × Nat × List Nat
  | [], o, T => ([], o, T)
  | k :: W, o, T => if k = 33 then zP_wh W (o - 1) (T ++ [0]) else (k :: W, o, T)
def zP_m (nx : Nat → Nat) (te : Nat → Bool × Nat × List Nat) : Nat → Bool → List Nat → Nat → List Nat → Nat → Bool × Nat × List Nat
  | 0, _, _, _, _, _ => (false, 0, [])
  | F + 1, true, W, o, T, p => if nx p = 33 ∨ nx p = 40 then (if o = 4 then (false, p, []) else zP_m nx te F true (nx p :: W) (o + 1) T (p + 1)) else if (te p).1 = true then zP_m nx te F false (zP_wh W o (T ++ (te p).2.2)).1 (zP_wh W o (T ++ (te p).2.2)).2.1 (zP_wh W o (T ++ (te p).2.2)).2.2 (te p).2.1 else (false, (te p).2.1, [])
  | F + 1, false, W, o, T, p => if nx p = 38 ∨ nx p = 124 then zP_m nx te F true (nx p :: (zP_st (nx p) W T).1) o (zP_st (nx p) W T).2 (p + 1) else
    match zP_st 124 W T with
    | ([], T2) => (true, p, T2)
    | (_ :: W2, T2) => if nx p = 41 then zP_m nx te F false (zP_wh W2 (o - 1) T2).1 (zP_wh W2 (o - 1) T2).2.1 (zP_wh W2 (o - 1) T2).2.2 (p + 1) else (false, p, [])
def zP_ls (nx : Nat → Nat) (one : Nat → Bool × Nat × List Nat) (c k : Nat) : Nat → Nat → List Nat → Bool × Nat × List Nat
  | 0, p, T => (true, p, T)
  | g + 1, p, T => if nx p = c then (if (one (p + 1)).1 = true then zP_ls nx one c k g (one (p + 1)).2.1 (T ++ (one (p + 1)).2.2 ++ [k]) else (false, (one (p + 1)).2.1, [])) else (true, p, T)
def zP_al (nx : Nat → Nat) (one : Nat → Bool × Nat × List Nat) (p : Nat) : Bool × Nat × List Nat := if (one p).1 = true then zP_ls nx one 38 1 100 (one p).2.1 (one p).2.2 else (false, (one p).2.1, [])
def zP_an (nx : Nat → Nat) (one : Nat → Bool × Nat × List Nat) (p : Nat) : Bool × Nat × List Nat := if (zP_al nx one p).1 = true then zP_ls nx (zP_al nx one) 124 2 100 (zP_al nx one p).2.1 (zP_al nx one p).2.2 else (false, (zP_al nx one p).2.1, [])
def zP_one (nx : Nat → Nat) (te : Nat → Bool × Nat × List Nat) : Nat → Nat → Bool × Nat × List Nat
  | 0, p => if nx p = 33 ∨ nx p = 40 then (false, p, []) else te p
  | r + 1, p => if nx p = 33 then (if (zP_one nx te r (p + 1)).1 = true then (true, (zP_one nx te r (p + 1)).2.1, (zP_one nx te r (p + 1)).2.2 ++ [0]) else (false, (zP_one nx te r (p + 1)).2.1, [])) else if nx p = 40 then (if (zP_an nx (zP_one nx te r) (p + 1)).1 = true then (if nx (zP_an nx (zP_one nx te r) (p + 1)).2.1 = 41 then (true, (zP_an nx (zP_one nx te r) (p + 1)).2.1 + 1, (zP_an nx (zP_one nx te r) (p + 1)).2.2) else (false, (zP_an nx (zP_one nx te r) (p + 1)).2.1, [])) else (false, (zP_an nx (zP_one nx te r) (p + 1)).2.1, [])) else te p
def zP_bd (L : Nat) (f : Nat → Bool × Nat × List Nat) : Prop := ∀ p, p ≤ L → (f p).2.1 ≤ L ∧ p ≤ (f p).2.1 ∧ ((f p).1 = true → p < (f p).2.1)
def zP_tp (W : List Nat) (k : Nat) : Prop := ∀ a W1, W = a :: W1 → a ≠ k
def zP_On (nx : Nat → Nat) (te : Nat → Bool × Nat × List Nat) (L o : Nat) (one : Nat → Bool × Nat × List Nat) : Prop := ∀ p, p ≤ L → ∀ F W T, L + 1 < F + p → ((one p).1 = false → zP_m nx te F true W o T p = (false, (one p).2.1, [])) ∧ ((one p).1 = true → ∃ F1, F + p ≤ F1 + (one p).2.1 ∧ zP_m nx te F true W o T p = zP_m nx te F1 false (zP_wh W o (T ++ (one p).2.2)).1 (zP_wh W o (T ++ (one p).2.2)).2.1 (zP_wh W o (T ++ (one p).2.2)).2.2 (one p).2.1)
def zP_Al (nx : Nat → Nat) (te : Nat → Bool × Nat × List Nat) (L o : Nat) (all : Nat → Bool × Nat × List Nat) : Prop := ∀ p, p ≤ L → ∀ F W T, zP_tp W 33 → zP_tp W 38 → L + 1 < F + p → ((all p).1 = false → zP_m nx te F true W o T p = (false, (all p).2.1, [])) ∧ ((all p).1 = true → ∃ F1 W2 T2, F + p ≤ F1 + (all p).2.1 ∧ zP_m nx te F true W o T p = zP_m nx te F1 false W2 o T2 (all p).2.1 ∧ nx (all p).2.1 ≠ 38 ∧ zP_st 124 W2 T2 = zP_st 124 W (T ++ (all p).2.2))
def zP_An (nx : Nat → Nat) (te : Nat → Bool × Nat × List Nat) (L o : Nat) (any : Nat → Bool × Nat × List Nat) : Prop := ∀ p, p ≤ L → ∀ F W T, zP_tp W 33 → zP_tp W 38 → zP_tp W 124 → L + 1 < F + p → ((any p).1 = false → zP_m nx te F true W o T p = (false, (any p).2.1, [])) ∧ ((any p).1 = true → ∃ F1 W2 T2, F + p ≤ F1 + (any p).2.1 ∧ zP_m nx te F true W o T p = zP_m nx te F1 false W2 o T2 (any p).2.1 ∧ nx (any p).2.1 ≠ 38 ∧ nx (any p).2.1 ≠ 124 ∧ zP_st 124 W2 T2 = (W, T ++ (any p).2.2))
theorem zP_st38 {W T : List Nat} (h : zP_tp W 38) : zP_st 38 W T = (W, T) := by
  cases W with
  | nil => rfl
  | cons k W =>
    show (if k = 38 then _ else if k = 124 then (if (38 : Nat) = 38 then (k :: W, T) else _) else (k :: W, T)) = _
    rw [if_neg (h k W rfl)]
    by_cases h1 : k = 124
    · rw [if_pos h1, if_pos rfl]
    · rw [if_neg h1]
theorem zP_st124 {W T : List Nat} (h : zP_tp W 38) (h2 : zP_tp W 124) : zP_st 124 W T = (W, T) := by
  cases W with
  | nil => rfl
  | cons k W =>
    show (if k = 38 then _ else if k = 124 then _ else (k :: W, T)) = _
    rw [if_neg (h k W rfl), if_neg (h2 k W rfl)]
theorem zP_wh33 {W T : List Nat} {o : Nat} (h : zP_tp W 33) : zP_wh W o T = (W, o, T) := by
  cases W with
  | nil => rfl
  | cons k W =>
    show (if k = 33 then _ else (k :: W, o, T)) = _
    rw [if_neg (h k W rfl)]
theorem zP_tpc {a k : Nat} (W : List Nat) (h : a ≠ k) : zP_tp (a :: W) k := by
  intro b W1 e
  injection e with e1 e2
  rw [← e1]; exact h
theorem zP_lsb {nx : Nat → Nat} {one : Nat → Bool × Nat × List Nat} {L c k : Nat} (hnx : ∀ p, L ≤ p → nx p = 200) (hc : c ≠ 200) (ho : zP_bd L one) : ∀ g p T, p ≤ L → (zP_ls nx one c k g p T).2.1 ≤ L ∧ p ≤ (zP_ls nx one c k g p T).2.1
  | 0, p, T, hp => ⟨hp, Nat.le_refl p⟩
  | g + 1, p, T, hp => by
    unfold zP_ls
    by_cases h1 : nx p = c
    · rw [if_pos h1]
      have hpl : p < L := by
        by_cases h : p < L
        · exact h
        · exact absurd (h1.symm.trans (hnx p (by omega))) hc
      obtain ⟨b1, b2, b3⟩ := ho (p + 1) (by omega)
      by_cases h2 : (one (p + 1)).1 = true
      · rw [if_pos h2]
        have := zP_lsb (k := k) hnx hc ho g (one (p + 1)).2.1 (T ++ (one (p + 1)).2.2 ++ [k]) b1
        omega
      · rw [if_neg h2]
        show (one (p + 1)).2.1 ≤ L ∧ p ≤ (one (p + 1)).2.1
        omega
    · rw [if_neg h1]
      exact ⟨hp, Nat.le_refl p⟩
theorem zP_lsA {nx : Nat → Nat} {te one : Nat → Bool × Nat × List Nat} {L o : Nat} {W T : List Nat} (hnx : ∀ p, L ≤ p → nx p = 200) (ho : zP_bd L one) (hO : zP_On nx te L o one) (h38 : zP_tp W 38) : ∀ g p T0 W2 T2 F, p ≤ L → L < g + p → L + 1 < F + p → zP_st 38 W2 T2 = (W, T ++ T0) → zP_st 124 W2 T2 = zP_st 124 W (T ++ T0) →
    ((zP_ls nx one 38 1 g p T0).1 = false → zP_m nx te F false W2 o T2 p = (false, (zP_ls nx one 38 1 g p T0).2.1, [])) ∧ ((zP_ls nx one 38 1 g p T0).1 = true → ∃ F1 W3 T3, F + p ≤ F1 + (zP_ls nx one 38 1 g p T0).2.1 ∧ zP_m nx te F false W2 o T2 p = zP_m nx te F1 false W3 o T3 (zP_ls nx one 38 1 g p T0).2.1 ∧ nx (zP_ls nx one 38 1 g p T0).2.1 ≠ 38 ∧ zP_st 124 W3 T3 = zP_st 124 W (T ++ (zP_ls nx one 38 1 g p T0).2.2)) := by
  intro g
  induction g with
  | zero => intro p T0 W2 T2 F hp hg; omega
  | succ g ih =>
    intro p T0 W2 T2 F hp hg hF s1 s2
    by_cases h1 : nx p = 38
    · have hpl : p < L := by
        by_cases h : p < L
        · exact h
        · exact absurd (h1.symm.trans (hnx p (by omega))) (by decide)
      obtain ⟨F, rfl⟩ : ∃ G, F = G + 1 := ⟨F - 1, by omega⟩
      have em : zP_m nx te (F + 1) false W2 o T2 p = zP_m nx te F true (38 :: W) o (T ++ T0) (p + 1) := by
        show (if nx p = 38 ∨ nx p = 124 then _ else _) = _
        rw [if_pos (Or.inl h1), h1, s1]
      obtain ⟨b1, b2, b3⟩ := ho (p + 1) (by omega)
      obtain ⟨c1, c2⟩ := hO (p + 1) (by omega) F (38 :: W) (T ++ T0) (by omega)
      have el : zP_ls nx one 38 1 (g + 1) p T0 = (if (one (p + 1)).1 = true then zP_ls nx one 38 1 g (one (p + 1)).2.1 (T0 ++ (one (p + 1)).2.2 ++ [1]) else (false, (one (p + 1)).2.1, [])) := by
        show (if nx p = 38 then _ else _) = _
        rw [if_pos h1]
      rw [em, el]
      by_cases h2 : (one (p + 1)).1 = true
      · rw [if_pos h2]
        obtain ⟨F1, f1, f2⟩ := c2 h2
        rw [zP_wh33 (zP_tpc W (by decide))] at f2
        have b3 := b3 h2
        obtain ⟨d1, d2⟩ := ih (one (p + 1)).2.1 (T0 ++ (one (p + 1)).2.2 ++ [1]) (38 :: W) (T ++ T0 ++ (one (p + 1)).2.2) F1 b1 (by omega) (by omega) (by
          show zP_st 38 W (T ++ T0 ++ (one (p + 1)).2.2 ++ [1]) = _
          rw [zP_st38 h38, List.append_assoc, List.append_assoc, List.append_assoc]) (by
          show zP_st 124 W (T ++ T0 ++ (one (p + 1)).2.2 ++ [1]) = _
          rw [List.append_assoc, List.append_assoc, List.append_assoc])
        rw [f2]
        refine ⟨d1, fun h => ?_⟩
        obtain ⟨F2, W3, T3, x1, x2, x3, x4⟩ := d2 h
        exact ⟨F2, W3, T3, by omega, x2, x3, x4⟩
      · rw [if_neg h2]
        exact ⟨fun _ => c1 (by simpa using h2), fun h => by cases h⟩
    · have el : zP_ls nx one 38 1 (g + 1) p T0 = (true, p, T0) := by
        show (if nx p = 38 then _ else _) = _
        rw [if_neg h1]
      rw [el]
      exact ⟨fun h => (by cases h), fun _ => ⟨F, W2, T2, Nat.le_refl _, rfl, h1, s2⟩⟩
theorem zP_alb {nx : Nat → Nat} {one : Nat → Bool × Nat × List Nat} {L : Nat} (hnx : ∀ p, L ≤ p → nx p = 200) (ho : zP_bd L one) : zP_bd L (zP_al nx one) := by
  intro p hp
  obtain ⟨b1, b2, b3⟩ := ho p hp
  unfold zP_al
  by_cases h : (one p).1 = true
  · rw [if_pos h]
    have := zP_lsb (c := 38) (k := 1) hnx (by decide) ho 100 (one p).2.1 (one p).2.2 b1
    have := b3 h
    refine ⟨by omega, by omega, fun _ => by omega⟩
  · rw [if_neg h]
    exact ⟨b1, b2, fun h => by cases h⟩
theorem zP_anb {nx : Nat → Nat} {one : Nat → Bool × Nat × List Nat} {L : Nat} (hnx : ∀ p, L ≤ p → nx p = 200) (ho : zP_bd L one) : zP_bd L (zP_an nx one) := by
  intro p hp
  obtain ⟨b1, b2, b3⟩ := zP_alb hnx ho p hp
  unfold zP_an
  by_cases h : (zP_al nx one p).1 = true
  · rw [if_pos h]
    have := zP_lsb (c := 124) (k := 2) hnx (by decide) (zP_alb hnx ho) 100 (zP_al nx one p).2.1 (zP_al nx one p).2.2 b1
    have := b3 h
    refine ⟨by omega, by omega, fun _ => by omega⟩
  · rw [if_neg h]
    exact ⟨b1, b2, fun h => by cases h⟩
theorem zP_all {nx : Nat → Nat} {te one : Nat → Bool × Nat × List Nat} {L o : Nat} (hL : L ≤ 100) (hnx : ∀ p, L ≤ p → nx p = 200) (ho : zP_bd L one) (hO : zP_On nx te L o one) : zP_Al nx te L o (zP_al nx one) := by
  intro p hp F W T t33 t38 hF
  obtain ⟨b1, b2, b3⟩ := ho p hp
  obtain ⟨c1, c2⟩ := hO p hp F W T hF
  unfold zP_al
  by_cases h : (one p).1 = true
  · rw [if_pos h]
    have b3 := b3 h
    obtain ⟨F1, f1, f2⟩ := c2 h
    rw [zP_wh33 t33] at f2
    obtain ⟨d1, d2⟩ := zP_lsA (W := W) (T := T) hnx ho hO t38 100 (one p).2.1 (one p).2.2 W (T ++ (one p).2.2) F1 b1 (by omega) (by omega) (zP_st38 t38) rfl
    rw [f2]
    refine ⟨d1, fun h => ?_⟩
    obtain ⟨F2, W3, T3, x1, x2, x3, x4⟩ := d2 h
    exact ⟨F2, W3, T3, by omega, x2, x3, x4⟩
  · rw [if_neg h]
    exact ⟨fun _ => c1 (by simpa using h), fun h => by cases h⟩
theorem zP_lsO {nx : Nat → Nat} {te all : Nat → Bool × Nat × List Nat} {L o : Nat} {W T : List Nat} (hnx : ∀ p, L ≤ p → nx p = 200) (ho : zP_bd L all) (hO : zP_Al nx te L o all) (t38 : zP_tp W 38) (t124 : zP_tp W 124) : ∀ g p T0 W2 T2 F, p ≤ L → L < g + p → L + 1 < F + p → nx p ≠ 38 → zP_st 124 W2 T2 = (W, T ++ T0) →
    ((zP_ls nx all 124 2 g p T0).1 = false → zP_m nx te F false W2 o T2 p = (false, (zP_ls nx all 124 2 g p T0).2.1, [])) ∧ ((zP_ls nx all 124 2 g p T0).1 = true → ∃ F1 W3 T3, F + p ≤ F1 + (zP_ls nx all 124 2 g p T0).2.1 ∧ zP_m nx te F false W2 o T2 p = zP_m nx te F1 false W3 o T3 (zP_ls nx all 124 2 g p T0).2.1 ∧ nx (zP_ls nx all 124 2 g p T0).2.1 ≠ 38 ∧ nx (zP_ls nx all 124 2 g p T0).2.1 ≠ 124 ∧ zP_st 124 W3 T3 = (W, T ++ (zP_ls nx all 124 2 g p T0).2.2)) := by
  intro g
  induction g with
  | zero => intro p T0 W2 T2 F hp hg; omega
  | succ g ih =>
    intro p T0 W2 T2 F hp hg hF h38 s2
    by_cases h1 : nx p = 124
    · have hpl : p < L := by
        by_cases h : p < L
        · exact h
        · exact absurd (h1.symm.trans (hnx p (by omega))) (by decide)
      obtain ⟨F, rfl⟩ : ∃ G, F = G + 1 := ⟨F - 1, by omega⟩
      have em : zP_m nx te (F + 1) false W2 o T2 p = zP_m nx te F true (124 :: W) o (T ++ T0) (p + 1) := by
        show (if nx p = 38 ∨ nx p = 124 then _ else _) = _
        rw [if_pos (Or.inr h1), h1, s2]
      obtain ⟨b1, b2, b3⟩ := ho (p + 1) (by omega)
      obtain ⟨c1, c2⟩ := hO (p + 1) (by omega) F (124 :: W) (T ++ T0) (zP_tpc W (by decide)) (zP_tpc W (by decide)) (by omega)
      have el : zP_ls nx all 124 2 (g + 1) p T0 = (if (all (p + 1)).1 = true then zP_ls nx all 124 2 g (all (p + 1)).2.1 (T0 ++ (all (p + 1)).2.2 ++ [2]) else (false, (all (p + 1)).2.1, [])) := by
        show (if nx p = 124 then _ else _) = _
        rw [if_pos h1]
      rw [em, el]
      by_cases h2 : (all (p + 1)).1 = true
      · rw [if_pos h2]
        obtain ⟨F1, W3, T3, f1, f2, f3, f4⟩ := c2 h2
        have b3 := b3 h2
        obtain ⟨d1, d2⟩ := ih (all (p + 1)).2.1 (T0 ++ (all (p + 1)).2.2 ++ [2]) W3 T3 F1 b1 (by omega) (by omega) f3 (by
          rw [f4]
          show zP_st 124 W (T ++ T0 ++ (all (p + 1)).2.2 ++ [2]) = _
          rw [zP_st124 t38 t124, List.append_assoc, List.append_assoc, List.append_assoc])
        rw [f2]
        refine ⟨d1, fun h => ?_⟩
        obtain ⟨F2, W4, T4, x1, x2, x3, x4⟩ := d2 h
        exact ⟨F2, W4, T4, by omega, x2, x3, x4⟩
      · rw [if_neg h2]
        exact ⟨fun _ => c1 (by simpa using h2), fun h => by cases h⟩
    · have el : zP_ls nx all 124 2 (g + 1) p T0 = (true, p, T0) := by
        show (if nx p = 124 then _ else _) = _
        rw [if_neg h1]
      rw [el]
      exact ⟨fun h => (by cases h), fun _ => ⟨F, W2, T2, Nat.le_refl _, rfl, h38, h1, s2⟩⟩
theorem zP_any {nx : Nat → Nat} {te one : Nat → Bool × Nat × List Nat} {L o : Nat} (hL : L ≤ 100) (hnx : ∀ p, L ≤ p → nx p = 200) (ho : zP_bd L one) (hO : zP_On nx te L o one) : zP_An nx te L o (zP_an nx one) := by
  intro p hp F W T t33 t38 t124 hF
  obtain ⟨b1, b2, b3⟩ := zP_alb hnx ho p hp
  obtain ⟨c1, c2⟩ := zP_all hL hnx ho hO p hp F W T t33 t38 hF
  unfold zP_an
  by_cases h : (zP_al nx one p).1 = true
  · rw [if_pos h]
    have b3 := b3 h
    obtain ⟨F1, W2, T2, f1, f2, f3, f4⟩ := c2 h
    obtain ⟨d1, d2⟩ := zP_lsO (W := W) (T := T) hnx (zP_alb hnx ho) (zP_all hL hnx ho hO) t38 t124 100 (zP_al nx one p).2.1 (zP_al nx one p).2.2 W2 T2 F1 b1 (by omega) (by omega) f3 (by rw [f4, zP_st124 t38 t124])
    rw [f2]
    refine ⟨d1, fun h => ?_⟩
    obtain ⟨F2, W3, T3, x1, x2, x3, x4⟩ := d2 h
    exact ⟨F2, W3, T3, by omega, x2, x3, x4⟩
  · rw [if_neg h]
    exact ⟨fun _ => c1 (by simpa using h), fun h => by cases h⟩
theorem zP_onb {nx : Nat → Nat} {te : Nat → Bool × Nat × List Nat} {L : Nat} (hnx : ∀ p, L ≤ p → nx p = 200) (ht : zP_bd L te) : ∀ r, zP_bd L (zP_one nx te r)
  | 0, p, hp => by
    unfold zP_one
    by_cases h : nx p = 33 ∨ nx p = 40
    · rw [if_pos h]; exact ⟨hp, Nat.le_refl p, fun h => (by cases h)⟩
    · rw [if_neg h]; exact ht p hp
  | r + 1, p, hp => by
    have hl : nx p = 33 ∨ nx p = 40 → p < L := by
      intro h
      by_cases h2 : p < L
      · exact h2
      · have := hnx p (by omega)
        omega
    unfold zP_one
    by_cases h : nx p = 33
    · have hpl := hl (Or.inl h)
      obtain ⟨b1, b2, b3⟩ := zP_onb hnx ht r (p + 1) (by omega)
      rw [if_pos h]
      by_cases h2 : (zP_one nx te r (p + 1)).1 = true
      · rw [if_pos h2]
        have b3 := b3 h2
        exact ⟨b1, show p ≤ (zP_one nx te r (p + 1)).2.1 by omega, fun _ => show p < (zP_one nx te r (p + 1)).2.1 by omega⟩
      · rw [if_neg h2]
        exact ⟨b1, show p ≤ (zP_one nx te r (p + 1)).2.1 by omega, fun h => (by cases h)⟩
    · rw [if_neg h]
      by_cases h2 : nx p = 40
      · have hpl := hl (Or.inr h2)
        obtain ⟨b1, b2, b3⟩ := zP_anb hnx (zP_onb hnx ht r) (p + 1) (by omega)
        rw [if_pos h2]
        by_cases h3 : (zP_an nx (zP_one nx te r) (p + 1)).1 = true
        · rw [if_pos h3]
          have b3 := b3 h3
          by_cases h4 : nx (zP_an nx (zP_one nx te r) (p + 1)).2.1 = 41
          · rw [if_pos h4]
            have hp2 : (zP_an nx (zP_one nx te r) (p + 1)).2.1 < L := by
              by_cases h5 : (zP_an nx (zP_one nx te r) (p + 1)).2.1 < L
              · exact h5
              · have := hnx _ (show L ≤ (zP_an nx (zP_one nx te r) (p + 1)).2.1 by omega)
                omega
            exact ⟨show (zP_an nx (zP_one nx te r) (p + 1)).2.1 + 1 ≤ L by omega, show p ≤ (zP_an nx (zP_one nx te r) (p + 1)).2.1 + 1 by omega, fun _ => show p < (zP_an nx (zP_one nx te r) (p + 1)).2.1 + 1 by omega⟩
          · rw [if_neg h4]
            exact ⟨b1, show p ≤ (zP_an nx (zP_one nx te r) (p + 1)).2.1 by omega, fun h => (by cases h)⟩
        · rw [if_neg h3]
          exact ⟨b1, show p ≤ (zP_an nx (zP_one nx te r) (p + 1)).2.1 by omega, fun h => (by cases h)⟩
      · rw [if_neg h2]
        exact ht p hp
theorem zP_tes {nx : Nat → Nat} {te : Nat → Bool × Nat × List Nat} {L o p : Nat} (hp : p ≤ L) (h : ¬ (nx p = 33 ∨ nx p = 40)) : ∀ F W T, L + 1 < F + p → ((te p).1 = false → zP_m nx te F true W o T p = (false, (te p).2.1, [])) ∧ ((te p).1 = true → p < (te p).2.1 → ∃ F1, F + p ≤ F1 + (te p).2.1 ∧ zP_m nx te F true W o T p = zP_m nx te F1 false (zP_wh W o (T ++ (te p).2.2)).1 (zP_wh W o (T ++ (te p).2.2)).2.1 (zP_wh W o (T ++ (te p).2.2)).2.2 (te p).2.1) := by
  intro F W T hF
  obtain ⟨F, rfl⟩ : ∃ G, F = G + 1 := ⟨F - 1, by omega⟩
  have em : zP_m nx te (F + 1) true W o T p = (if (te p).1 = true then zP_m nx te F false (zP_wh W o (T ++ (te p).2.2)).1 (zP_wh W o (T ++ (te p).2.2)).2.1 (zP_wh W o (T ++ (te p).2.2)).2.2 (te p).2.1 else (false, (te p).2.1, [])) := by
    show (if nx p = 33 ∨ nx p = 40 then _ else _) = _
    rw [if_neg h]
  rw [em]
  refine ⟨fun h1 => ?_, fun h1 h2 => ⟨F, by omega, ?_⟩⟩
  · rw [if_neg (by rw [h1]; decide)]
  · rw [if_pos h1]
theorem zP_ones {nx : Nat → Nat} {te : Nat → Bool × Nat × List Nat} {L : Nat} (hL : L ≤ 100) (hnx : ∀ p, L ≤ p → nx p = 200) (ht : zP_bd L te) : ∀ r o, o + r = 4 → zP_On nx te L o (zP_one nx te r)
  | 0, o, hr, p, hp, F, W, T, hF => by
    have e : zP_one nx te 0 p = (if nx p = 33 ∨ nx p = 40 then (false, p, []) else te p) := rfl
    rw [e]
    by_cases h : nx p = 33 ∨ nx p = 40
    · rw [if_pos h]
      obtain ⟨F, rfl⟩ : ∃ G, F = G + 1 := ⟨F - 1, by omega⟩
      refine ⟨fun _ => ?_, fun h => (by cases h)⟩
      show (if nx p = 33 ∨ nx p = 40 then (if o = 4 then (false, p, []) else _) else _) = _
      rw [if_pos h, if_pos (by omega)]
    · rw [if_neg h]
      obtain ⟨c1, c2⟩ := zP_tes (te := te) (o := o) hp h F W T hF
      exact ⟨c1, fun h1 => c2 h1 ((ht p hp).2.2 h1)⟩
  | r + 1, o, hr, p, hp, F, W, T, hF => by
    have e : zP_one nx te (r + 1) p = (if nx p = 33 then (if (zP_one nx te r (p + 1)).1 = true then (true, (zP_one nx te r (p + 1)).2.1, (zP_one nx te r (p + 1)).2.2 ++ [0]) else (false, (zP_one nx te r (p + 1)).2.1, [])) else if nx p = 40 then (if (zP_an nx (zP_one nx te r) (p + 1)).1 = true then (if nx (zP_an nx (zP_one nx te r) (p + 1)).2.1 = 41 then (true, (zP_an nx (zP_one nx te r) (p + 1)).2.1 + 1, (zP_an nx (zP_one nx te r) (p + 1)).2.2) else (false, (zP_an nx (zP_one nx te r) (p + 1)).2.1, [])) else (false, (zP_an nx (zP_one nx te r) (p + 1)).2.1, [])) else te p) := rfl
    rw [e]
    by_cases hs : nx p = 33 ∨ nx p = 40
    · have hpl : p < L := by
        by_cases h2 : p < L
        · exact h2
        · have := hnx p (by omega)
          omega
      obtain ⟨F, rfl⟩ : ∃ G, F = G + 1 := ⟨F - 1, by omega⟩
      have em : zP_m nx te (F + 1) true W o T p = zP_m nx te F true (nx p :: W) (o + 1) T (p + 1) := by
        show (if nx p = 33 ∨ nx p = 40 then (if o = 4 then (false, p, []) else _) else _) = _
        rw [if_pos hs, if_neg (by omega)]
      rw [em]
      by_cases h : nx p = 33
      · rw [if_pos h, h]
        obtain ⟨c1, c2⟩ := zP_ones hL hnx ht r (o + 1) (by omega) (p + 1) (by omega) F (33 :: W) T (by omega)
        by_cases h2 : (zP_one nx te r (p + 1)).1 = true
        · rw [if_pos h2]
          refine ⟨fun h => (by cases h), fun _ => ?_⟩
          obtain ⟨F1, f1, f2⟩ := c2 h2
          refine ⟨F1, by show F + 1 + p ≤ F1 + (zP_one nx te r (p + 1)).2.1; omega, ?_⟩
          rw [f2]
          have ew : zP_wh (33 :: W) (o + 1) (T ++ (zP_one nx te r (p + 1)).2.2) = zP_wh W o (T ++ ((zP_one nx te r (p + 1)).2.2 ++ [0])) := by
            show zP_wh W (o + 1 - 1) (T ++ (zP_one nx te r (p + 1)).2.2 ++ [0]) = _
            rw [List.append_assoc]; rfl
          rw [ew]
        · rw [if_neg h2]
          exact ⟨fun _ => c1 (by simpa using h2), fun h => (by cases h)⟩
      · have h40 : nx p = 40 := by omega
        rw [if_neg h, if_pos h40, h40]
        have hA := zP_any hL hnx (zP_onb hnx ht r) (zP_ones hL hnx ht r (o + 1) (by omega))
        obtain ⟨b1, b2, b3⟩ := zP_anb hnx (zP_onb hnx ht r) (p + 1) (by omega)
        obtain ⟨c1, c2⟩ := hA (p + 1) (by omega) F (40 :: W) T (zP_tpc W (by decide)) (zP_tpc W (by decide)) (zP_tpc W (by decide)) (by omega)
        by_cases h3 : (zP_an nx (zP_one nx te r) (p + 1)).1 = true
        · rw [if_pos h3]
          have b3 := b3 h3
          obtain ⟨F1, W2, T2, f1, f2, f3, f4, f5⟩ := c2 h3
          obtain ⟨F1, rfl⟩ : ∃ G, F1 = G + 1 := ⟨F1 - 1, by omega⟩
          have em2 : zP_m nx te (F1 + 1) false W2 (o + 1) T2 (zP_an nx (zP_one nx te r) (p + 1)).2.1 = (if nx (zP_an nx (zP_one nx te r) (p + 1)).2.1 = 41 then zP_m nx te F1 false (zP_wh W (o + 1 - 1) (T ++ (zP_an nx (zP_one nx te r) (p + 1)).2.2)).1 (zP_wh W (o + 1 - 1) (T ++ (zP_an nx (zP_one nx te r) (p + 1)).2.2)).2.1 (zP_wh W (o + 1 - 1) (T ++ (zP_an nx (zP_one nx te r) (p + 1)).2.2)).2.2 ((zP_an nx (zP_one nx te r) (p + 1)).2.1 + 1) else (false, (zP_an nx (zP_one nx te r) (p + 1)).2.1, [])) := by
            show (if nx _ = 38 ∨ nx _ = 124 then _ else (match zP_st 124 W2 T2 with | ([], T2) => _ | (_ :: W2, T2) => _)) = _
            rw [if_neg (by omega), f5]
          rw [f2, em2]
          by_cases h4 : nx (zP_an nx (zP_one nx te r) (p + 1)).2.1 = 41
          · rw [if_pos h4, if_pos h4]
            refine ⟨fun h => (by cases h), fun _ => ⟨F1, by show F + 1 + p ≤ F1 + ((zP_an nx (zP_one nx te r) (p + 1)).2.1 + 1); omega, rfl⟩⟩
          · rw [if_neg h4, if_neg h4]
            exact ⟨fun _ => rfl, fun h => (by cases h)⟩
        · rw [if_neg h3]
          exact ⟨fun _ => c1 (by simpa using h3), fun h => (by cases h)⟩
    · rw [if_neg (fun h => hs (Or.inl h)), if_neg (fun h => hs (Or.inr h))]
      obtain ⟨c1, c2⟩ := zP_tes (te := te) (o := o) hp hs F W T hF
      exact ⟨c1, fun h1 => c2 h1 ((ht p hp).2.2 h1)⟩
theorem zP_eq {nx : Nat → Nat} {te : Nat → Bool × Nat × List Nat} {L : Nat} (hL : L ≤ 100) (hnx : ∀ p, L ≤ p → nx p = 200) (ht : zP_bd L te) {p F : Nat} (hp : p ≤ L) (hF : L + 1 < F + p) : ((zP_an nx (zP_one nx te 4) p).1 = false → zP_m nx te F true [] 0 [] p = (false, (zP_an nx (zP_one nx te 4) p).2.1, [])) ∧ ((zP_an nx (zP_one nx te 4) p).1 = true → zP_m nx te F true [] 0 [] p = zP_an nx (zP_one nx te 4) p) := by
  have t : ∀ k, zP_tp [] k := fun k a W1 e => by cases e
  obtain ⟨b1, b2, b3⟩ := zP_anb hnx (zP_onb hnx ht 4) p hp
  obtain ⟨c1, c2⟩ := zP_any hL hnx (zP_onb hnx ht 4) (zP_ones hL hnx ht 4 0 rfl) p hp F [] [] (t 33) (t 38) (t 124) hF
  refine ⟨c1, fun h => ?_⟩
  have b3 := b3 h
  obtain ⟨F1, W2, T2, f1, f2, f3, f4, f5⟩ := c2 h
  obtain ⟨F1, rfl⟩ : ∃ G, F1 = G + 1 := ⟨F1 - 1, by omega⟩
  have em2 : zP_m nx te (F1 + 1) false W2 0 T2 (zP_an nx (zP_one nx te 4) p).2.1 = (true, (zP_an nx (zP_one nx te 4) p).2.1, [] ++ (zP_an nx (zP_one nx te 4) p).2.2) := by
    show (if nx _ = 38 ∨ nx _ = 124 then _ else (match zP_st 124 W2 T2 with | ([], T2) => _ | (_ :: W2, T2) => _)) = _
    rw [if_neg (by omega), f5]
  rw [f2, em2, List.nil_append, ← h]
