theorem zR_app : ∀ (T U : List Nat) (d : Nat), zt_run (T ++ U) d = (zt_run T d).bind (zt_run U)
  | [], U, d => rfl
  | k :: T, U, d => by
    show (if k = 0 then (if 1 ≤ d then zt_run (T ++ U) d else none) else if k ≤ 2 then (if 2 ≤ d then zt_run (T ++ U) (d - 1) else none) else (if d < 12 ∧ k < 1803 then zt_run (T ++ U) (d + 1) else none)) = (if k = 0 then (if 1 ≤ d then zt_run T d else none) else if k ≤ 2 then (if 2 ≤ d then zt_run T (d - 1) else none) else (if d < 12 ∧ k < 1803 then zt_run T (d + 1) else none)).bind (zt_run U)
    rw [zR_app T U, zR_app T U, zR_app T U]
    by_cases h0 : k = 0
    · rw [if_pos h0, if_pos h0]
      by_cases h1 : 1 ≤ d
      · rw [if_pos h1, if_pos h1]
      · rw [if_neg h1, if_neg h1]; rfl
    · rw [if_neg h0, if_neg h0]
      by_cases h2 : k ≤ 2
      · rw [if_pos h2, if_pos h2]
        by_cases h1 : 2 ≤ d
        · rw [if_pos h1, if_pos h1]
        · rw [if_neg h1, if_neg h1]; rfl
      · rw [if_neg h2, if_neg h2]
        by_cases h1 : d < 12 ∧ k < 1803
        · rw [if_pos h1, if_pos h1]
        · rw [if_neg h1, if_neg h1]; rfl
def zR_ok (b : Nat) (f : Nat → Bool × Nat × List Nat) : Prop := ∀ p, (f p).1 = true → ∀ d, d + b ≤ 12 → zt_run (f p).2.2 d = some (d + 1)
theorem zR_ls {nx : Nat → Nat} {one : Nat → Bool × Nat × List Nat} {c k b : Nat} (hk : k = 1 ∨ k = 2) (ho : zR_ok b one) : ∀ g p T d, d + b + 1 ≤ 12 → zt_run T d = some (d + 1) → (zP_ls nx one c k g p T).1 = true → zt_run (zP_ls nx one c k g p T).2.2 d = some (d + 1)
  | 0, p, T, d, _, hT, _ => hT
  | g + 1, p, T, d, hd, hT, h => by
    unfold zP_ls at h ⊢
    by_cases h1 : nx p = c
    · rw [if_pos h1] at h ⊢
      by_cases h2 : (one (p + 1)).1 = true
      · rw [if_pos h2] at h ⊢
        refine zR_ls hk ho g _ _ d hd ?_ h
        rw [zR_app, zR_app, hT, Option.bind_some, ho (p + 1) h2 (d + 1) (by omega), Option.bind_some]
        show (if k = 0 then _ else if k ≤ 2 then (if 2 ≤ d + 1 + 1 then some (d + 1 + 1 - 1) else none) else _) = _
        rw [if_neg (by omega), if_pos (by omega), if_pos (by omega)]
        rfl
      · rw [if_neg h2] at h
        cases h
    · rw [if_neg h1]
      exact hT
theorem zR_al {nx : Nat → Nat} {one : Nat → Bool × Nat × List Nat} {b : Nat} (ho : zR_ok b one) : zR_ok (b + 1) (zP_al nx one) := by
  intro p h d hd
  unfold zP_al at h ⊢
  by_cases h2 : (one p).1 = true
  · rw [if_pos h2] at h ⊢
    exact zR_ls (Or.inl rfl) ho 100 _ _ d (by omega) (ho p h2 d (by omega)) h
  · rw [if_neg h2] at h
    cases h
theorem zR_an {nx : Nat → Nat} {one : Nat → Bool × Nat × List Nat} {b : Nat} (ho : zR_ok b one) : zR_ok (b + 2) (zP_an nx one) := by
  intro p h d hd
  unfold zP_an at h ⊢
  by_cases h2 : (zP_al nx one p).1 = true
  · rw [if_pos h2] at h ⊢
    exact zR_ls (Or.inr rfl) (zR_al ho) 100 _ _ d (by omega) (zR_al ho p h2 d (by omega)) h
  · rw [if_neg h2] at h
    cases h
theorem zR_on {nx : Nat → Nat} {te : Nat → Bool × Nat × List Nat} (ht : zR_ok 1 te) : ∀ r, zR_ok (2 * r + 1) (zP_one nx te r)
  | 0, p, h, d, hd => by
    unfold zP_one at h ⊢
    by_cases h1 : nx p = 33 ∨ nx p = 40
    · rw [if_pos h1] at h; cases h
    · rw [if_neg h1] at h ⊢; exact ht p h d hd
  | r + 1, p, h, d, hd => by
    unfold zP_one at h ⊢
    by_cases h1 : nx p = 33
    · rw [if_pos h1] at h ⊢
      by_cases h2 : (zP_one nx te r (p + 1)).1 = true
      · rw [if_pos h2]
        show zt_run ((zP_one nx te r (p + 1)).2.2 ++ [0]) d = _
        rw [zR_app, zR_on ht r (p + 1) h2 d (by omega), Option.bind_some]
        show (if (0 : Nat) = 0 then (if 1 ≤ d + 1 then some (d + 1) else none) else _) = _
        rw [if_pos rfl, if_pos (by omega)]
      · rw [if_neg h2] at h; cases h
    · rw [if_neg h1] at h ⊢
      by_cases h2 : nx p = 40
      · rw [if_pos h2] at h ⊢
        by_cases h3 : (zP_an nx (zP_one nx te r) (p + 1)).1 = true
        · rw [if_pos h3] at h ⊢
          by_cases h4 : nx (zP_an nx (zP_one nx te r) (p + 1)).2.1 = 41
          · rw [if_pos h4]
            exact zR_an (zR_on ht r) (p + 1) h3 d (by omega)
          · rw [if_neg h4] at h; cases h
        · rw [if_neg h3] at h; cases h
      · rw [if_neg h2] at h ⊢
        exact ht p h d (by omega)
theorem zR_fin {nx : Nat → Nat} {te : Nat → Bool × Nat × List Nat} {p : Nat} (ht : zR_ok 1 te) (h : (zP_an nx (zP_one nx te 4) p).1 = true) : zt_run (zP_an nx (zP_one nx te 4) p).2.2 0 = some 1 := zR_an (zR_on ht 4) p h 0 (by omega)
def zX_nx (t : Nat → Nat) (L p : Nat) : Nat := if p < L then t p else 200
def zX_dg (c : Nat) : Bool := decide (48 ≤ c ∧ c ≤ 57)
def zX_nu (nx : Nat → Nat) (p : Nat) : Bool × Nat × Nat := if zX_dg (nx p) = true then (if zX_dg (nx (p + 1)) = true then (true, p + 2, 10 * (nx p - 48) + (nx (p + 1) - 48)) else (true, p + 1, nx p - 48)) else (false, p, 0)
