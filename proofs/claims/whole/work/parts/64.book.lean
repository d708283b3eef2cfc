theorem zn_bit0 {a k : Nat} (ha : a < 2147483648) (hk : k < 32) : (zq_shr (zn a) (zn k) &&& 1 = 0) = (zs_bit a k = false) := by
  rw [zn_shr ha hk, zn_and1]
  apply propext
  unfold zs_bit
  have h : (zn (a / 2 ^ k % 2) = 0) = (a / 2 ^ k % 2 = 0) := zn_eq (b := 0) (by omega) (by omega)
  rw [h]
  simp
def zb_kf (S : Nat → Nat → Nat) (R : Nat → Nat) : Nat → Nat → Nat
  | 0 => S 4
  | k + 1 => fun i => if i < S 0 0 ∧ S 3 i = S 3 (R k / 10) then zb_kf S R k i ||| 2 ^ (R k % 10) else zb_kf S R k i
def zk_now (S : Nat → Nat → Nat) (p : Nat) : Bool := decide (S 3 p < 3) && zk_sp S (S 3 p) (fun q => S 3 q == S 3 p) (S 0 1) p
def zb_ok (S : Nat → Nat → Nat) (R : Nat → Nat) (k : Nat) : Prop := R k / 10 < S 0 0 ∧ zs_bit (zb_kf S R k (R k / 10)) (R k % 10) = true ∧ zk_now S (R k / 10) = true
def zb_res (ok : Nat → Prop) (B r : Nat) : Prop := r ≤ B ∧ (∀ k, k < r → ok k) ∧ (r = B ∨ ¬ ok r)
theorem zb_uni {ok : Nat → Prop} {B r s : Nat} (h : zb_res ok B r) (g : zb_res ok B s) : r = s := by
  obtain ⟨h1, h2, h3⟩ := h
  obtain ⟨g1, g2, g3⟩ := g
  rcases Nat.lt_trichotomy r s with c | c | c
  · rcases h3 with h3 | h3
    · omega
    · exact absurd (g2 r c) h3
  · exact c
  · rcases g3 with g3 | g3
    · omega
    · exact absurd (h2 s c) g3
def zb_rows (R : Nat → Nat) : Prop := ∀ i, i < 12 → R i / 10 < 5 ∧ R i % 10 < 8
theorem zb_kfl {S : Nat → Nat → Nat} (hS : zyB S) {R : Nat → Nat} (hR : zb_rows R) : ∀ k, k ≤ 12 → ∀ i, i < 5 → zb_kf S R k i < 256 := by
  intro k
  induction k with
  | zero => intro _ i hi; exact hS.2.2.2.2.2.2.1 i hi
  | succ k ih =>
    intro hk i hi
    have h := ih (by omega) i hi
    show (if _ then _ else _) < 256
    split
    · exact zk_or8 h (hR k (by omega)).2
    · exact h
theorem zb_hear {N t r k0 : Nat} {X : zq_M} {S : Nat → Nat → Nat} {f : Nat → Nat} (hN : 120 < N) (hS : zyB S) (ht : t < 8) (hX : X.1 1 0 = zn (S 0 0)) (hf : ∀ i, i < 5 → X.1 38 i = zn (f i)) : ∃ X1, zq_loop (fun _ _ => none) (b_X6_isSaid_78 (zn t) (zn (zs_set (fun p => S 3 p == r) (S 0 0)))) N (0 : Int32) X = some ((1 : Int32), X1) ∧ zf1 38 X X1 ∧ ∀ i, i < 5 → X1.1 38 i = zn (if i < S 0 0 ∧ S 3 i = r then f i ||| 2 ^ t else f i) := by
  have hn := hS.1
  have h32 := zs_l32 (fun p => S 3 p == r) hn
  refine zL (α := Int32 → zq_M → Option (Int32 × zq_M)) (fun (X1 : zq_M) k g => g (zn k) X1) (fun k X1 => zf1 38 X X1 ∧ ∀ i, i < 5 → X1.1 38 i = zn (if i < k ∧ S 3 i = r then f i ||| 2 ^ t else f i)) (fun o => ∃ X1, o = some ((1 : Int32), X1) ∧ zf1 38 X X1 ∧ ∀ i, i < 5 → X1.1 38 i = zn (if i < S 0 0 ∧ S 3 i = r then f i ||| 2 ^ t else f i)) (S 0 0) ?_ ?_ N 0 X (by omega) (by omega) ⟨zf1_r _ _, fun i hi => by rw [if_neg (by omega)]; exact hf i hi⟩
  · intro g k X1 hk ⟨f1, f2⟩ ih
    have e := zn_bset (fun p => S 3 p == r) hn hk
    have h38 := f2 k (by omega)
    rw [if_neg (by omega)] at h38
    have g1 : (zn (S 0 0) ≤ zn k) = (S 0 0 ≤ k) := zn_le (by omega) (by omega)
    have g3 : (zn k : Int32) + 1 = zn (k + 1) := zn_add _ 1
    have h1s : zq_shl (1 : Int32) (zn t) = zn (2 ^ t) := by rw [zl_1, zn_shl (by omega), Nat.one_mul]
    unfold b_X6_isSaid_78
    rw [f1.2 1 (by omega), hX]
    simp only [g1, g3, e, zq_b]
    rw [if_neg (by omega), zn_ck (by omega) (by omega), zn_ck (by omega) (by omega), zn_ix (by omega), h38, h1s, zn_or]
    by_cases c : S 3 k = r
    · rw [if_neg (fun h => h (by simpa using c))]
      refine ih _ ⟨zf1_u f1, fun i hi => ?_⟩
      rw [zq_g1]
      by_cases e1 : i = k
      · rw [if_pos ⟨rfl, e1⟩, if_pos ⟨by omega, by rw [e1]; exact c⟩, e1]
      · rw [if_neg (fun h => e1 h.2), f2 i hi]
        by_cases e2 : i < k ∧ S 3 i = r
        · rw [if_pos e2, if_pos ⟨by omega, e2.2⟩]
        · rw [if_neg e2, if_neg (fun h => e2 ⟨by omega, h.2⟩)]
    · rw [if_pos (by simpa using c)]
      refine ih _ ⟨f1, fun i hi => ?_⟩
      rw [f2 i hi]
      by_cases e1 : i = k
      · rw [if_neg (by omega), if_neg (fun h => c (by rw [← e1]; exact h.2))]
      · by_cases e2 : i < k ∧ S 3 i = r
        · rw [if_pos e2, if_pos ⟨by omega, e2.2⟩]
        · rw [if_neg e2, if_neg (fun h => e2 ⟨by omega, h.2⟩)]
  · intro g X1 ⟨f1, f2⟩
    unfold b_X6_isSaid_78
    rw [f1.2 1 (by omega), hX, if_pos (by rw [zn_le (by omega) (by omega)]; omega)]
    exact ⟨X1, rfl, f1, f2⟩
theorem zb_X {N j h C B : Nat} {X : zq_M} {S : Nat → Nat → Nat} {R : Nat → Nat} {W U E : Nat → Nat} {T : Nat → List Nat} (hN : 120 < N) (hS : zyB S) (hK : zyK j X S h C W U E T) (hsm : S 0 3 = zh_same W U C) (hB : B ≤ 12) (hR : zb_rows R) (h13 : X.1 1 13 = zn B) (h10 : ∀ i, i < 12 → X.1 10 i = zn (R i)) : ∃ r X1, f_X6_sayable N j X = some (zn r, X1) ∧ zb_res (zb_ok S R) B r ∧ X1.2 = X.2 ∧ ∀ c, c ≠ 37 ∧ c ≠ 38 → X1.1 c = X.1 c := by
  have hn := hS.1
  have hb1 := hS.2.1
  unfold f_X6_sayable
  rw [za_5]
  simp only [zq_b]
  have hX0 := hK.1
  refine zL (α := Int32 → zq_M → Option (Int32 × zq_M)) (fun (X1 : zq_M) k g => g (zn k) X1) (fun k X1 => X1.2 = X.2 ∧ (∀ c, c ≠ 37 ∧ c ≠ 38 → X1.1 c = X.1 c) ∧ (∀ i, i < 5 → X1.1 38 i = zn (zb_kf S R k i)) ∧ ∀ k1, k1 < k → zb_ok S R k1) (fun o => ∃ r X1, o = some (zn r, X1) ∧ zb_res (zb_ok S R) B r ∧ X1.2 = X.2 ∧ ∀ c, c ≠ 37 ∧ c ≠ 38 → X1.1 c = X.1 c) B ?_ ?_ N 0 _ (by omega) (by omega) ⟨zc_2 _ _ _ _, fun c hc => ?_, fun i hi => ?_, fun k1 hk1 => by omega⟩
  · intro g k X1 hk ⟨f1, f2, f3, f4⟩ ih
    obtain ⟨r1, r2⟩ := hR k (by omega)
    have K1 : zyK j X1 S h C W U E T := zyK_fr f1 (fun c hc => f2 c (by omega)) hK
    have q10 : (10 : Int32) = zn 10 := rfl
    unfold b_X6_sayable_19
    rw [f2 1 (by omega), f2 10 (by omega), h13, if_neg (by rw [zn_le (by omega) (by omega)]; omega), zn_ck (by omega) (by omega), zn_ck (by omega) (by omega), zn_ix (by omega), h10 k (by omega), q10, zn_div (by omega) (by omega), zn_irem (by omega) (by omega)]
    have no : ¬ zb_ok S R k → ∃ r X1_1, some (zn k, X1) = some (zn r, X1_1) ∧ zb_res (zb_ok S R) B r ∧ X1_1.2 = X.2 ∧ ∀ c, c ≠ 37 ∧ c ≠ 38 → X1_1.1 c = X.1 c := fun hno => ⟨k, X1, rfl, ⟨by omega, f4, Or.inr hno⟩, f1, f2⟩
    have hkl := zb_kfl hS hR k (by omega)
    have hok : zb_ok S R k ↔ (R k / 10 < S 0 0 ∧ zs_bit (zb_kf S R k (R k / 10)) (R k % 10) = true ∧ zk_now S (R k / 10) = true) := Iff.rfl
    have hnx : (∃ X2 : zq_M, X2.2 = X1.2 ∧ (∀ c, c ≠ 37 ∧ c ≠ 38 → X2.1 c = X1.1 c) ∧ True) → True := fun _ => trivial
    have hkf1 : ∀ i, zb_kf S R (k + 1) i = if i < S 0 0 ∧ S 3 i = S 3 (R k / 10) then zb_kf S R k i ||| 2 ^ (R k % 10) else zb_kf S R k i := fun i => rfl
    generalize hp : R k / 10 = p at *
    generalize ht : R k % 10 = t at *
    unfold f_X6_isSaid
    rw [zw_x, K1.1.1]
    simp only [Option.bind_some]
    have m1 : (zn p < 0) = (p < 0) := zn_lt (b := 0) (by omega) (by omega)
    have m2 : (zn (S 0 0) - 1 < zn p) = (S 0 0 ≤ p) := by
      apply propext
      rw [Int32.lt_iff_toInt_lt, zw_n1 (by omega), zn_ti (by omega)]
      omega
    simp only [m1, m2]
    by_cases c1 : S 0 0 ≤ p
    · rw [if_pos (by rw [if_pos (Or.inr c1)])]
      simp only [Option.bind_some, zq_p]
      rw [if_neg (by decide)]
      exact no (fun h => by have := hok.mp h; omega)
    rw [if_neg (by rw [if_neg (by omega)]; decide), zn_ck (by omega) (by omega), zn_ck (by omega) (by omega), zn_ix (by omega), f3 p (by omega)]
    have hb0 := zn_bit0 (a := zb_kf S R k p) (k := t) (by have := hkl p (by omega); omega) (by omega)
    simp only [hb0]
    by_cases c2 : zs_bit (zb_kf S R k p) t = false
    · rw [if_neg (fun h => h c2)]
      simp only [Option.bind_some, zq_p]
      rw [if_neg (by decide)]
      exact no (fun h => by have := (hok.mp h).2.1; rw [c2] at this; cases this)
    rw [if_pos c2]
    have h3p := hS.2.2.2.2.2.1 p (by omega)
    rw [K1.1.2.2.2.2.1 p (by omega), zy_who (n := S 0 0) (P := S 3) (by omega) K1.1.1 hn K1.1.2.2.2.2.1 hS.2.2.2.2.2.1 h3p, K1.1.2.1]
    simp only [Option.bind_some]
    have hH : zyH j S X1 h := ⟨K1.2.1, K1.2.2.1, by rw [K1.2.2.2.2.2.2.1, hsm], K1.2.2.2.1⟩
    obtain ⟨X2, e1, e2⟩ := zy_spX (N := N) (j := j) (t := zs_set (fun q => S 3 q == S 3 p) (S 0 0)) (r := S 3 p) (g := S 0 1) (by omega) hS K1.1 (zs_lt _ _) h3p (by omega) hH
    have e : zs_set (fun q => decide (S 3 p < 3) && zk_sp S (S 3 p) (zs_bit (zs_set (fun q => S 3 q == S 3 p) (S 0 0))) (S 0 1) q) (S 0 0) = zs_set (fun q => decide (S 3 p < 3) && zk_sp S (S 3 p) (fun q => S 3 q == S 3 p) (S 0 1) q) (S 0 0) := zs_scg (fun q hq => by rw [zk_spcg (T := zs_bit (zs_set (fun q => S 3 q == S 3 p) (S 0 0))) (T1 := fun q => S 3 q == S 3 p) (fun q hq => zs_bset (fun q => S 3 q == S 3 p) hq) hq])
    rw [e1, e]
    simp only [Option.bind_some, zq_p]
    have l32 := zs_l32 (fun q => decide (S 3 p < 3) && zk_sp S (S 3 p) (fun q => S 3 q == S 3 p) (S 0 1) q) hn
    have hb1' := zn_bit0 (a := zs_set (fun q => decide (S 3 p < 3) && zk_sp S (S 3 p) (fun q => S 3 q == S 3 p) (S 0 1) q) (S 0 0)) (k := p) (by omega) (by omega)
    rw [zs_bset _ (by omega)] at hb1'
    simp only [hb1']
    have hX2 : X2.2 = X.2 ∧ ∀ c, c ≠ 37 ∧ c ≠ 38 → X2.1 c = X.1 c := ⟨e2.1.trans f1, fun c hc => (e2.2 c hc.1).trans (f2 c hc)⟩
    by_cases c3 : (decide (S 3 p < 3) && zk_sp S (S 3 p) (fun q => S 3 q == S 3 p) (S 0 1) p) = false
    · rw [if_neg (fun h => h c3)]
      simp only [Option.bind_some, zq_p]
      rw [if_neg (by decide)]
      exact ⟨k, X2, rfl, ⟨by omega, f4, Or.inr (fun h => by have := (hok.mp h).2.2; unfold zk_now at this; rw [c3] at this; cases this)⟩, hX2⟩
    rw [if_pos c3]
    obtain ⟨X3, y1, y2, y3⟩ := zb_hear (N := N) (t := t) (r := S 3 p) (X := X2) (f := zb_kf S R k) (k0 := 0) hN hS (by omega) (by rw [e2.2 1 (by omega)]; exact K1.1.1) (fun i hi => by rw [e2.2 38 (by omega)]; exact f3 i hi)
    rw [y1]
    simp only [Option.bind_some, zq_p]
    rw [if_pos (by decide)]
    have g3 : (zn k : Int32) + 1 = zn (k + 1) := zn_add _ 1
    rw [g3]
    refine ih X3 ⟨y2.1.trans hX2.1, fun c hc => (y2.2 c hc.2).trans (hX2.2 c hc), fun i hi => ?_, fun k1 hk1 => ?_⟩
    · rw [y3 i hi, hkf1 i]
    · by_cases e : k1 = k
      · subst e
        refine hok.mpr ⟨by omega, ?_, ?_⟩
        · cases hb : zs_bit (zb_kf S R k1 p) t with
          | false => exact absurd hb c2
          | true => rfl
        · unfold zk_now
          cases hb : (decide (S 3 p < 3) && zk_sp S (S 3 p) (fun q => S 3 q == S 3 p) (S 0 1) p) with
          | false => exact absurd hb c3
          | true => rfl
      · exact f4 k1 (by omega)
  · intro g X1 ⟨f1, f2, f3, f4⟩
    unfold b_X6_sayable_19
    rw [f2 1 (by omega), h13, if_pos (by rw [zn_le (by omega) (by omega)]; omega)]
    exact ⟨B, X1, rfl, ⟨by omega, f4, Or.inl rfl⟩, f1, f2⟩
  · funext i
    rw [zc_5, if_neg (by omega)]
  · rw [zc_5, if_pos ⟨rfl, hi⟩]; exact hX0.2.2.2.2.2.1 i hi
