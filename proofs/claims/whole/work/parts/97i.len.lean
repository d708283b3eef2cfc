def zP_ln (f : Nat → Bool × Nat × List Nat) : Prop := ∀ p, (f p).1 = true → (f p).2.2.length + p ≤ (f p).2.1
theorem zP_lls {nx : Nat → Nat} {one : Nat → Bool × Nat × List Nat} {c k p0 : Nat} (ho : zP_ln one) : ∀ g p T, T.length + p0 ≤ p → (zP_ls nx one c k g p T).1 = true → (zP_ls nx one c k g p T).2.2.length + p0 ≤ (zP_ls nx one c k g p T).2.1
  | 0, p, T, hT, _ => hT
  | g + 1, p, T, hT, h => by
    unfold zP_ls at h ⊢
    by_cases h1 : nx p = c
    · rw [if_pos h1] at h ⊢
      by_cases h2 : (one (p + 1)).1 = true
      · rw [if_pos h2] at h ⊢
        have := ho (p + 1) h2
        exact zP_lls ho g _ _ (by rw [List.length_append, List.length_append]; show T.length + _ + 1 + p0 ≤ _; omega) h
      · rw [if_neg h2] at h
        cases h
    · rw [if_neg h1]
      exact hT
theorem zP_lal {nx : Nat → Nat} {one : Nat → Bool × Nat × List Nat} (ho : zP_ln one) : zP_ln (zP_al nx one) := by
  intro p h
  unfold zP_al at h ⊢
  by_cases h2 : (one p).1 = true
  · rw [if_pos h2] at h ⊢
    exact zP_lls ho 100 _ _ (ho p h2) h
  · rw [if_neg h2] at h
    cases h
theorem zP_lan {nx : Nat → Nat} {one : Nat → Bool × Nat × List Nat} (ho : zP_ln one) : zP_ln (zP_an nx one) := by
  intro p h
  unfold zP_an at h ⊢
  by_cases h2 : (zP_al nx one p).1 = true
  · rw [if_pos h2] at h ⊢
    exact zP_lls (zP_lal ho) 100 _ _ (zP_lal ho p h2) h
  · rw [if_neg h2] at h
    cases h
