def zX_pl (c : Nat) : Nat := if c = 112 then 0 else if c = 114 then 1 else if c = 97 then 2 else if c = 110 then 3 else if c = 107 then 4 else if c = 116 then 5 else 6
def zX_te (nx : Nat → Nat) (p : Nat) : Bool × Nat × List Nat := if zX_pl (nx p) < 6 then (if 60 ≤ nx (p + 1) ∧ nx (p + 1) ≤ 62 then (if (zX_nu nx (p + 2)).1 = true then (true, (zX_nu nx (p + 2)).2.1, [3 + (((zX_nu nx (p + 2)).2.2 * 3 + (nx (p + 1) - 60)) * 6 + zX_pl (nx p))]) else (false, (zX_nu nx (p + 2)).2.1, [])) else (false, p + 1, [])) else (false, p, [])
theorem zX_nx2 {t : Nat → Nat} {L p : Nat} (h : L ≤ p) : zX_nx t L p = 200 := by unfold zX_nx; rw [if_neg (by omega)]
theorem zX_pp {t : Nat → Nat} {L p : Nat} (h : zX_nx t L p ≠ 200) : p < L := by
  by_cases h2 : p < L
  · exact h2
  · exact absurd (zX_nx2 (by omega)) h
theorem zX_dgp {c : Nat} (h : zX_dg c = true) : 48 ≤ c ∧ c ≤ 57 := by
  unfold zX_dg at h
  exact of_decide_eq_true h
theorem zX_nub {t : Nat → Nat} {L p : Nat} (hp : p ≤ L) : (zX_nu (zX_nx t L) p).2.1 ≤ L ∧ p ≤ (zX_nu (zX_nx t L) p).2.1 ∧ (zX_nu (zX_nx t L) p).2.2 < 100 ∧ ((zX_nu (zX_nx t L) p).1 = true → p < (zX_nu (zX_nx t L) p).2.1) := by
  unfold zX_nu
  by_cases h1 : zX_dg (zX_nx t L p) = true
  · rw [if_pos h1]
    have g1 := zX_dgp h1
    have p1 := zX_pp (show zX_nx t L p ≠ 200 by omega)
    by_cases h2 : zX_dg (zX_nx t L (p + 1)) = true
    · rw [if_pos h2]
      have g2 := zX_dgp h2
      have p2 := zX_pp (show zX_nx t L (p + 1) ≠ 200 by omega)
      refine ⟨?_, ?_, ?_, fun _ => ?_⟩
      · show p + 2 ≤ L; omega
      · show p ≤ p + 2; omega
      · show 10 * (zX_nx t L p - 48) + (zX_nx t L (p + 1) - 48) < 100; omega
      · show p < p + 2; omega
    · rw [if_neg h2]
      refine ⟨?_, ?_, ?_, fun _ => ?_⟩
      · show p + 1 ≤ L; omega
      · show p ≤ p + 1; omega
      · show zX_nx t L p - 48 < 100; omega
      · show p < p + 1; omega
  · rw [if_neg h1]
    exact ⟨hp, Nat.le_refl p, by show 0 < 100; omega, fun h => (by cases h)⟩
theorem zX_plv {c : Nat} (h : zX_pl c < 6) : c ≠ 200 := by
  intro h2
  subst h2
  revert h
  decide
theorem zX_teb {t : Nat → Nat} {L : Nat} : zP_bd L (zX_te (zX_nx t L)) := by
  intro p hp
  unfold zX_te
  by_cases h1 : zX_pl (zX_nx t L p) < 6
  · rw [if_pos h1]
    have p1 := zX_pp (zX_plv h1)
    by_cases h2 : 60 ≤ zX_nx t L (p + 1) ∧ zX_nx t L (p + 1) ≤ 62
    · rw [if_pos h2]
      have p2 := zX_pp (show zX_nx t L (p + 1) ≠ 200 by omega)
      obtain ⟨n1, n2, n3, n4⟩ := zX_nub (t := t) (L := L) (p := p + 2) (by omega)
      by_cases h3 : (zX_nu (zX_nx t L) (p + 2)).1 = true
      · rw [if_pos h3]
        exact ⟨n1, show p ≤ (zX_nu (zX_nx t L) (p + 2)).2.1 by omega, fun _ => show p < (zX_nu (zX_nx t L) (p + 2)).2.1 by omega⟩
      · rw [if_neg h3]
        exact ⟨n1, show p ≤ (zX_nu (zX_nx t L) (p + 2)).2.1 by omega, fun h => (by cases h)⟩
    · rw [if_neg h2]
      exact ⟨show p + 1 ≤ L by omega, show p ≤ p + 1 by omega, fun h => (by cases h)⟩
  · rw [if_neg h1]
    exact ⟨hp, Nat.le_refl p, fun h => (by cases h)⟩
theorem zX_ter {t : Nat → Nat} {L : Nat} : zR_ok 1 (zX_te (zX_nx t L)) := by
  intro p h d hd
  unfold zX_te at h ⊢
  by_cases h1 : zX_pl (zX_nx t L p) < 6
  · rw [if_pos h1] at h ⊢
    have p1 := zX_pp (zX_plv h1)
    by_cases h2 : 60 ≤ zX_nx t L (p + 1) ∧ zX_nx t L (p + 1) ≤ 62
    · rw [if_pos h2] at h ⊢
      have p2 := zX_pp (show zX_nx t L (p + 1) ≠ 200 by omega)
      obtain ⟨n1, n2, n3, n4⟩ := zX_nub (t := t) (L := L) (p := p + 2) (by omega)
      by_cases h3 : (zX_nu (zX_nx t L) (p + 2)).1 = true
      · rw [if_pos h3]
        show (if 3 + _ = 0 then _ else if 3 + _ ≤ 2 then _ else (if d < 12 ∧ 3 + (((zX_nu (zX_nx t L) (p + 2)).2.2 * 3 + (zX_nx t L (p + 1) - 60)) * 6 + zX_pl (zX_nx t L p)) < 1803 then some (d + 1) else none)) = _
        rw [if_neg (by omega), if_neg (by omega), if_pos (by omega)]
      · rw [if_neg h3] at h; cases h
    · rw [if_neg h2] at h; cases h
  · rw [if_neg h1] at h; cases h
def zRM (t : Nat → Nat) (L p : Nat) (M : zq_M) : Prop := L ≤ 100 ∧ p ≤ L ∧ M.1 69 12 = zn L ∧ M.1 69 13 = zn p ∧ ∀ i, i < 100 → t i < 128 ∧ M.1 75 i = zn (t i)
def zRv (t : Nat → Nat) (L p : Nat) : Int32 := if p < L then zn (t p) else -1
theorem zR_next {N L p : Nat} {t : Nat → Nat} {M : zq_M} (h : zRM t L p M) : f_X11_next N M = some (zRv t L p) := by
  obtain ⟨h1, h2, h3, h4, h5⟩ := h
  unfold f_X11_next zRv
  rw [h3, h4]
  by_cases c : p < L
  · rw [if_pos c, if_neg (by rw [zn_le (by omega) (by omega)]; omega), zn_ck (by omega) (by omega), zn_ix (by omega), (h5 p (by omega)).2]
  · rw [if_neg c, if_pos (by rw [zn_le (by omega) (by omega)]; omega)]
theorem zR_n1 : ∀ c : Nat, c < 128 → ¬ ((-1 : Int32) = zn c) := by decide +kernel
theorem zR_v {L p c : Nat} {t : Nat → Nat} {M : zq_M} (h : zRM t L p M) (hc : c < 128) : (zRv t L p = zn c) = (zX_nx t L p = c) := by
  obtain ⟨h1, h2, h3, h4, h5⟩ := h
  unfold zRv zX_nx
  by_cases c1 : p < L
  · have := (h5 p (by omega)).1
    rw [if_pos c1, if_pos c1, zn_eq (by omega) (by omega)]
  · rw [if_neg c1, if_neg c1]
    apply propext
    exact ⟨fun h => absurd h (zR_n1 c hc), fun h => by omega⟩
theorem zR_at {L p q : Nat} {t : Nat → Nat} {M : zq_M} (h : zRM t L p M) (hq : q ≤ L) : zRM t L q (zq_u1 M 69 13 (zn q)) := by
  obtain ⟨h1, h2, h3, h4, h5⟩ := h
  refine ⟨h1, hq, ?_, ?_, fun i hi => ?_⟩
  · rw [zq_us1 (by omega)]; exact h3
  · rw [zq_g1, if_pos ⟨rfl, rfl⟩]
  · rw [zq_un (by omega)]; exact h5 i hi
theorem zR_takes {N L p c : Nat} {t : Nat → Nat} {M : zq_M} (h : zRM t L p M) (hc : c < 128) : f_X11_takes N M (zn c) = some (if zX_nx t L p = c then (1, zq_u1 M 69 13 (zn (p + 1))) else (0, M)) := by
  unfold f_X11_takes
  rw [zR_next h, Option.bind_some]
  have e := zR_v h hc
  simp only [e]
  by_cases c1 : zX_nx t L p = c
  · rw [if_pos c1, if_pos c1, h.2.2.2.1, zl_1, zn_add]; rfl
  · rw [if_neg c1, if_neg c1]
theorem zR_isd {N L p : Nat} {t : Nat → Nat} {M : zq_M} (h : zRM t L p M) : f_X11_isDigit N M = some (if zX_dg (zX_nx t L p) = true then 1 else 0) := by
  unfold f_X11_isDigit
  rw [zR_next h, Option.bind_some, zw_m, Option.bind_some]
  unfold zRv zX_nx zX_dg
  by_cases c1 : p < L
  · have b := (h.2.2.2.2 p (by have := h.1; omega)).1
    rw [if_pos c1, if_pos c1]
    have q48 : (48 : Int32) = zn 48 := rfl
    have q57 : (57 : Int32) = zn 57 := rfl
    have e1 : (zn (t p) < 48) = (t p < 48) := by rw [q48, zn_lt (by omega) (by omega)]
    have e2 : ((57 : Int32) < zn (t p)) = (57 < t p) := by rw [q57, zn_lt (by omega) (by omega)]
    simp only [e1, e2]
    by_cases c2 : t p < 48 ∨ 57 < t p
    · rw [if_pos c2, if_neg (by simp; omega)]; rfl
    · rw [if_neg c2, if_pos (by simp; omega)]; rfl
  · rw [if_neg c1, if_neg c1]; rfl
