def zXf (h B : Nat) (X0 X : zq_M) : Prop := X.2 = X0.2 ∧ (∀ c, c ≠ 28 ∧ c ≠ h ∧ c ≠ h + 4 → X.1 c = X0.1 c) ∧ (∀ k, k ≠ 2 → X.1 28 k = X0.1 28 k) ∧ (∀ k, k ≠ 5 → X.1 h k = X0.1 h k) ∧ ∀ k, k < B → X.1 (h + 4) k = X0.1 (h + 4) k
def zXS (j h : Nat) (t : Nat → Nat) (L B : Nat) (X0 : zq_M) (T : List Nat) (p : Nat) (X : zq_M) : Prop := zXM j h t L p X ∧ X.1 h 5 = zn (B + T.length) ∧ (∀ n k, T[n]? = some k → X.1 (h + 4) (B + n) = zt_cx k) ∧ zXf h B X0 X
theorem zX_28 {j h L B p q : Nat} {t : Nat → Nat} {T : List Nat} {X0 X X1 : zq_M} (hs : zXS j h t L B X0 T p X) (hf : zf28 X X1) (hq : zXM j h t L q X1) : zXS j h t L B X0 T q X1 := by
  obtain ⟨h1, h2, h3, f1, f2, f3, f4, f5⟩ := hs
  have h111 := h1.2.2.2.2.2.2.2.1
  obtain ⟨g1, g2, g3⟩ := hf
  exact ⟨hq, by rw [g2 h (by omega)]; exact h2, fun n k hn => by rw [g2 (h + 4) (by omega)]; exact h3 n k hn, g1.trans f1, fun c hc => (g2 c (by omega)).trans (f2 c hc), fun k hk => (g3 k hk).trans (f3 k hk), fun k hk => by rw [g2 h (by omega)]; exact f4 k hk, fun k hk => by rw [g2 (h + 4) (by omega)]; exact f5 k hk⟩
theorem zX_add {N j h L B p k : Nat} {t : Nat → Nat} {T : List Nat} {X0 X : zq_M} (hs : zXS j h t L B X0 T p X) (hb : B + T.length < 100) : ∃ X1, f_X2_addStep N j X h (zt_cx k) = some X1 ∧ zXS j h t L B X0 (T ++ [k]) p X1 := by
  obtain ⟨h1, h2, h3, f1, f2, f3, f4, f5⟩ := hs
  have h111 := h1.2.2.2.2.2.2.2.1
  refine ⟨zq_u1 (zq_u1 X (h + 4) (B + T.length) (zt_cx k)) h 5 (zn (B + T.length + 1)), ?_, ?_, ?_, ?_, f1, fun c hc => ?_, fun k hk => ?_, fun k hk => ?_, fun k hk => ?_⟩
  · unfold f_X2_addStep
    rw [h2, if_neg (by rw [show (100 : Int32) = zn 100 from rfl, zn_le (by omega) (by omega)]; omega), zn_ck (by omega) (by omega), zn_ix (by omega)]
    simp only [zq_b]
    rw [zq_us1 (by omega), h2, zl_1, zn_add]
  · obtain ⟨r1, r2, r3, r4, r5, r6, r7, r8, r9⟩ := h1
    refine ⟨r1, r2, ?_, ?_, r5, r6, r7, r8, fun i hi => ?_⟩
    · rw [zq_un (by omega), zq_un (by omega)]; exact r3
    · rw [zq_un (by omega), zq_un (by omega)]; exact r4
    · rw [zq_un (by omega), zq_un (by omega)]; exact r9 i hi
  · rw [zq_g1, if_pos ⟨rfl, rfl⟩, List.length_append]; rfl
  · intro n k1 hn
    rw [zq_un (c1 := h + 4) (c := h) (by omega)]
    by_cases c : n < T.length
    · rw [List.getElem?_append_left c] at hn
      rw [zq_us1 (by omega)]
      exact h3 n k1 hn
    · rw [List.getElem?_append_right (by omega)] at hn
      by_cases c2 : n = T.length
      · subst c2
        rw [Nat.sub_self] at hn
        injection hn with hn
        rw [zq_g1, if_pos ⟨rfl, rfl⟩, ← hn]
      · rw [List.getElem?_eq_none (by show 1 ≤ _; omega)] at hn
        cases hn
  · rw [zq_un (by omega), zq_un (by omega)]; exact f2 c hc
  · rw [zq_un (by omega), zq_un (by omega)]; exact f3 k hk
  · rw [zq_us1 (by omega), zq_un (by omega)]; exact f4 k hk
  · rw [zq_un (by omega), zq_us1 (by omega)]; exact f5 k hk
