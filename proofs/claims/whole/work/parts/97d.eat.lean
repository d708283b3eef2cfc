def zXM (j h : Nat) (t : Nat → Nat) (L p : Nat) (X : zq_M) : Prop := L ≤ 100 ∧ p ≤ L ∧ X.1 28 1 = zn L ∧ X.1 28 2 = zn p ∧ X.2.2 28 0 = some 21 ∧ X.2.2 28 3 = some h ∧ zq_ho (zq_shX j) h = true ∧ 111 ≤ h ∧ ∀ i, i < 100 → t i < 128 ∧ X.1 21 i = zn (t i)
theorem zX_i21 (j : Nat) : zq_i100 (zq_shX j) 21 = true := by
  unfold zq_i100 zq_shX
  rw [if_pos (by omega)]
  rfl
theorem zX_nn {ρ : Type} {j : Nat} {f : Nat → Option ρ} : zq_nn (some 21) (zq_i100 (zq_shX j)) f = f 21 := by
  unfold zq_nn
  exact if_pos (zX_i21 j)
theorem zX_at {j h L p q : Nat} {t : Nat → Nat} {X : zq_M} (H : zXM j h t L p X) (hq : q ≤ L) : zXM j h t L q (zq_u1 X 28 2 (zn q)) := by
  obtain ⟨h1, h2, h3, h4, h5, h6, h7, h8, h9⟩ := H
  refine ⟨h1, hq, ?_, ?_, h5, h6, h7, h8, fun i hi => ?_⟩
  · rw [zq_us1 (by omega)]; exact h3
  · rw [zq_g1, if_pos ⟨rfl, rfl⟩]
  · rw [zq_un (by omega)]; exact h9 i hi
theorem zX_eat {N j h L p c : Nat} {t : Nat → Nat} {X : zq_M} (H : zXM j h t L p X) (hc : c < 128) : f_X3_eat N j X (zn c) = some (if zX_nx t L p = c then (1, zq_u1 X 28 2 (zn (p + 1))) else (0, X)) := by
  obtain ⟨h1, h2, h3, h4, h5, h6, h7, h8, h9⟩ := H
  unfold f_X3_eat zX_nx
  rw [h3, h4]
  by_cases c1 : p < L
  · have b := h9 p (by omega)
    rw [if_neg (by rw [zn_le (by omega) (by omega)]; omega), if_pos c1, h5, zX_nn]
    rw [zn_ck (by omega) (by omega), zn_ix (by omega), b.2]
    have e : (zn (t p) = zn c) = (t p = c) := zn_eq (by omega) (by omega)
    simp only [e]
    by_cases c2 : t p = c
    · rw [if_pos c2, if_pos c2, zl_1, zn_add]; rfl
    · rw [if_neg c2, if_neg c2]
  · rw [if_pos (by rw [zn_le (by omega) (by omega)]; omega), if_neg c1, if_neg (by omega)]
def zX_ix (i c : Nat) : Int32 := if i = 4 then (if 48 ≤ c ∧ c ≤ 57 then zn (c - 48) else -1) else if i = 5 then (if zX_pl c < 6 then zn (zX_pl c) else -1) else (if 60 ≤ c ∧ c ≤ 62 then zn (c - 60) else -1)
theorem zX_t8 : ∀ c : Nat, c < 128 → ((zn c).toUInt32 % 65536).toInt32 = zn c ∧ (zn c).toInt8.toInt32 = zn c ∧ ¬ (zn c < 0) ∧ ¬ ((255 : Int32) < zn c) := by decide +kernel
