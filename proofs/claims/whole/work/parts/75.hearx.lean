def zK (S : Nat → Nat → Nat) (B : Nat → Nat → Nat → Bool) (s0 : Nat) : Nat → Nat → Nat → Prop
  | 0, x, s => x = zv_pk (S 3) ∧ s = zspr S x s0 (S 0 1)
  | d + 1, x, s1 => ∃ a p r s, a < 4 ^ S 0 0 ∧ p < S 0 0 ∧ r < 4 ∧ zK S B s0 d a s ∧ zp_may (S 0 0) B a p r = true ∧ zp_mv a p r = x ∧ s1 = zspr S x s (S 0 1 + (d + 1))
def zKm (S : Nat → Nat → Nat) (B : Nat → Nat → Nat → Bool) (s0 : Nat) (d x s : Nat) : Prop := match d with
  | 0 => x = zv_pk (S 3) ∧ s = s0
  | d + 1 => ∃ a p r, a < 4 ^ S 0 0 ∧ p < S 0 0 ∧ r < 4 ∧ zK S B s0 d a s ∧ zp_may (S 0 0) B a p r = true ∧ zp_mv a p r = x
theorem zK_m {S : Nat → Nat → Nat} {B : Nat → Nat → Nat → Bool} {s0 d x s1 : Nat} : zK S B s0 d x s1 ↔ ∃ s, zKm S B s0 d x s ∧ zspr S x s (S 0 1 + d) = s1 := by
  cases d with
  | zero =>
    constructor
    · rintro ⟨h1, h2⟩; exact ⟨s0, ⟨h1, rfl⟩, h2.symm⟩
    · rintro ⟨s, ⟨h1, h2⟩, h3⟩; rw [h2] at h3; exact ⟨h1, h3.symm⟩
  | succ d =>
    constructor
    · rintro ⟨a, p, r, s, h1, h2, h3, h4, h5, h6, h7⟩; exact ⟨s, ⟨a, p, r, h1, h2, h3, h4, h5, h6⟩, h7.symm⟩
    · rintro ⟨s, ⟨a, p, r, h1, h2, h3, h4, h5, h6⟩, h7⟩; exact ⟨a, p, r, s, h1, h2, h3, h4, h5, h6, h7.symm⟩
theorem zspr_l (S : Nat → Nat → Nat) (a s g : Nat) : zspr S a s g < 2 ^ S 0 0 := zs_lt _ _
theorem zK_l {S : Nat → Nat → Nat} {B : Nat → Nat → Nat → Bool} {s0 d x s : Nat} (h : zK S B s0 d x s) : s < 2 ^ S 0 0 := by
  obtain ⟨s1, -, h2⟩ := zK_m.mp h
  rw [← h2]; exact zspr_l _ _ _ _
theorem zKm_l {S : Nat → Nat → Nat} {B : Nat → Nat → Nat → Bool} {s0 d x s : Nat} (h0 : s0 < 2 ^ S 0 0) (h : zKm S B s0 d x s) : s < 2 ^ S 0 0 := by
  cases d with
  | zero => rw [h.2]; exact h0
  | succ d =>
    obtain ⟨a, p, r, h1, h2, h3, h4, -⟩ := h
    exact zK_l h4
def zeF (X X1 : zq_M) : Prop := X1.2 = X.2 ∧ ∀ c, c ≠ 37 ∧ (c < 45 ∨ 50 < c) → X1.1 c = X.1 c
theorem zeF_t {X Y Z : zq_M} (h : zeF X Y) (g : zeF Y Z) : zeF X Z := ⟨g.1.trans h.1, fun c hc => (g.2 c hc).trans (h.2 c hc)⟩
theorem zeF_1 {c0 : Nat} {X Y : zq_M} (hc : c0 = 37 ∨ 45 ≤ c0 ∧ c0 ≤ 50) (h : zf1 c0 X Y) : zeF X Y := ⟨h.1, fun c h1 => h.2 c (by omega)⟩
theorem zeF_u {c0 k : Nat} {v : Int32} {X Y : zq_M} (hc : c0 = 37 ∨ 45 ≤ c0 ∧ c0 ≤ 50) (h : zeF X Y) : zeF X (zq_u1 Y c0 k v) := ⟨h.1, fun c h1 => (zq_un (by omega)).trans (h.2 c h1)⟩
theorem zyGX_e {j h : Nat} {X X1 : zq_M} {S : Nat → Nat → Nat} {P : Nat → Nat → Nat → Nat} {B : Nat → Nat → Nat → Bool} (f : zeF X X1) (hG : zyGX j X S h P B) : zyGX j X1 S h P B := zyGX_fr f.1 (fun c hc => f.2 c (by omega)) hG
def zeT (S : Nat → Nat → Nat) (X : zq_M) (d : Nat) : Prop := ∀ r t, r < 3 → t < 2 ^ S 0 0 → X.1 48 (r * 32 + t) = zn (zs_set (fun p => decide (r < 3) && zk_sp S r (zs_bit t) (S 0 1 + d) p) (S 0 0))
theorem ze_tell {N j h d : Nat} {X : zq_M} {S : Nat → Nat → Nat} {P : Nat → Nat → Nat → Nat} {B : Nat → Nat → Nat → Bool} (hN : 1100 < N) (hS : zyB S) (hG : zyGX j X S h P B) (hd : d < 100) : ∃ X1, f_X1_tellSpeakers N j X (zn d) = some X1 ∧ (X1.2 = X.2 ∧ ∀ c, c ≠ 37 ∧ c ≠ 48 → X1.1 c = X.1 c) ∧ zeT S X1 d := by
  have hn := hS.1
  have hb1 := hS.2.1
  have h32 := zs_p2 hn
  have h0p : 0 < 2 ^ S 0 0 := Nat.pow_pos (by omega)
  have q32 : (32 : Int32) = zn 32 := rfl
  unfold f_X1_tellSpeakers
  refine zL (α := Int32 → zq_M → Option zq_M) (fun (X1 : zq_M) k g => g (zn k) X1) (fun k X1 => (X1.2 = X.2 ∧ ∀ c, c ≠ 37 ∧ c ≠ 48 → X1.1 c = X.1 c) ∧ ∀ r t, r < k → t < 2 ^ S 0 0 → X1.1 48 (r * 32 + t) = zn (zs_set (fun p => decide (r < 3) && zk_sp S r (zs_bit t) (S 0 1 + d) p) (S 0 0))) (fun o => ∃ X1, o = some X1 ∧ (X1.2 = X.2 ∧ ∀ c, c ≠ 37 ∧ c ≠ 48 → X1.1 c = X.1 c) ∧ zeT S X1 d) 3 ?_ ?_ N 0 X (by omega) (by omega) ⟨⟨rfl, fun _ _ => rfl⟩, fun r t hr => by omega⟩
  · intro g0 r X1 hr ⟨f1, f2⟩ ih0
    unfold b_X1_tellSpeakers_2
    rw [zl_3, if_neg (by rw [zn_le (by omega) (by omega)]; omega)]
    refine zL (α := Int32 → zq_M → Option zq_M) (fun (X1 : zq_M) k g => g (zn k) X1) (fun k X1 => (X1.2 = X.2 ∧ ∀ c, c ≠ 37 ∧ c ≠ 48 → X1.1 c = X.1 c) ∧ ∀ r1 t, (r1 < r ∨ r1 = r ∧ t < k) → t < 2 ^ S 0 0 → X1.1 48 (r1 * 32 + t) = zn (zs_set (fun p => decide (r1 < 3) && zk_sp S r1 (zs_bit t) (S 0 1 + d) p) (S 0 0))) (fun o => ∃ X1, o = some X1 ∧ (X1.2 = X.2 ∧ ∀ c, c ≠ 37 ∧ c ≠ 48 → X1.1 c = X.1 c) ∧ zeT S X1 d) (2 ^ S 0 0) ?_ ?_ N 0 X1 (by omega) (by omega) ⟨f1, fun r1 t h ht => f2 r1 t (by omega) ht⟩
    · intro g k X2 hk ⟨e1, e2⟩ ih
      have G1 : zyGX j X2 S h P B := zyGX_fr e1.1 (fun c hc => e1.2 c (by omega)) hG
      obtain ⟨X3, x1, x2⟩ := zy_spX (N := N) (j := j) (t := k) (r := r) (g := S 0 1 + d) (by omega) hS G1.1 hk (show r < 4 by omega) (by omega) G1.2.1
      unfold b_X1_tellSpeakers_9
      rw [zy_all G1.1.1 hn, G1.1.2.1, zn_add, x1, q32, zn_mul, zn_add]
      simp only [Option.bind_some, zq_p, zq_b]
      rw [if_neg (by rw [zn_lt (by omega) (by omega)]; omega), zn_ck (by omega) (by omega), zn_ix (by omega), zl_1, zn_add]
      refine ih _ ⟨⟨x2.1.trans e1.1, fun c hc => ?_⟩, fun r1 t h ht => ?_⟩
      · rw [zq_un (by omega), x2.2 c (by omega)]; exact e1.2 c hc
      · rw [zq_g1]
        by_cases e : r1 * 32 + t = r * 32 + k
        · have er : r1 = r := by omega
          have et : t = k := by omega
          rw [if_pos ⟨rfl, e⟩, er, et]
        · rw [if_neg (fun h => e h.2), x2.2 48 (by omega)]; exact e2 r1 t (by omega) ht
    · intro g X2 ⟨e1, e2⟩
      have G1 : zyGX j X2 S h P B := zyGX_fr e1.1 (fun c hc => e1.2 c (by omega)) hG
      unfold b_X1_tellSpeakers_9
      rw [zy_all G1.1.1 hn]
      simp only [Option.bind_some]
      rw [if_pos (by rw [zn_lt (by omega) (by omega)]; omega), zl_1, zn_add]
      exact ih0 X2 ⟨e1, fun r1 t h ht => e2 r1 t (by omega) ht⟩
  · intro g0 X1 ⟨f1, f2⟩
    unfold b_X1_tellSpeakers_2
    rw [zl_3, if_pos (by rw [zn_le (by omega) (by omega)]; omega)]
    exact ⟨X1, rfl, f1, f2⟩
def zeR (S : Nat → Nat → Nat) (X : zq_M) (a d : Nat) : Prop := ∀ r, r < 3 → X.1 49 r = zn (zs_set (fun o => a / 4 ^ o % 4 == r) (S 0 0)) ∧ X.1 50 r = zn (zs_set (fun p => zU S a r (S 0 1 + d) p) (S 0 0))
theorem ze_kt {N j a d s : Nat} {X : zq_M} {S : Nat → Nat → Nat} (hN : 1100 < N) (hS : zyB S) (hR : zeR S X a d) (hs : s < 2 ^ S 0 0) : f_X1_knowingThen N j X (zn s) = some (zn (zspr S a s (S 0 1 + d))) := by
  have hn := hS.1
  have h32 := zs_p2 hn
  unfold f_X1_knowingThen
  have h0 : zs_set (fun o => zs_bit s o || zs_any (fun r => zs_any (fun p => zU S a r (S 0 1 + d) p && zs_bit s p) (S 0 0) && (a / 4 ^ o % 4 == r)) 0) (S 0 0) = s := by
    refine Eq.trans (zs_scg (fun o ho => ?_)) (zs_self hs)
    show (zs_bit s o || false) = _
    rw [Bool.or_false]
  have key : zq_loop (fun _ _ => none) (b_X1_knowingThen_4 X (zn s)) N (zn (zs_set (fun o => zs_bit s o || zs_any (fun r => zs_any (fun p => zU S a r (S 0 1 + d) p && zs_bit s p) (S 0 0) && (a / 4 ^ o % 4 == r)) 0) (S 0 0))) (zn 0) = some (zn (zspr S a s (S 0 1 + d))) := ?_
  · rw [h0] at key; exact key
  refine zL (α := Int32 → Int32 → Option Int32) (fun (_ : Unit) k f => f (zn (zs_set (fun o => zs_bit s o || zs_any (fun r => zs_any (fun p => zU S a r (S 0 1 + d) p && zs_bit s p) (S 0 0) && (a / 4 ^ o % 4 == r)) k) (S 0 0))) (zn k)) (fun _ _ => True) (fun o => o = some (zn (zspr S a s (S 0 1 + d)))) 3 ?_ ?_ N 0 () (by omega) (by omega) trivial
  · intro f k _ hk _ ih
    have ih := ih () trivial
    obtain ⟨r1, r2⟩ := hR k hk
    have q3 : (zn k : Int32) + 1 = zn (k + 1) := zn_add _ 1
    have l32 := zs_l32 (fun p => zU S a k (S 0 1 + d) p) hn
    have hand : zs_set (fun p => zU S a k (S 0 1 + d) p) (S 0 0) &&& s < 2 ^ 5 := Nat.and_lt_two_pow _ (by omega)
    have g1 : (zn (zs_set (fun p => zU S a k (S 0 1 + d) p) (S 0 0) &&& s) = 0) = (zs_set (fun p => zU S a k (S 0 1 + d) p) (S 0 0) &&& s = 0) := zn_z32 (by omega)
    have hiff : (zs_set (fun p => zU S a k (S 0 1 + d) p) (S 0 0) &&& s = 0) ↔ zs_any (fun p => zU S a k (S 0 1 + d) p && zs_bit s p) (S 0 0) = false := by
      rw [zs_and0 (zs_lt (fun p => zU S a k (S 0 1 + d) p) (S 0 0))]
      constructor
      · intro h
        cases hb : zs_any (fun p => zU S a k (S 0 1 + d) p && zs_bit s p) (S 0 0) with
        | false => rfl
        | true =>
          obtain ⟨p, h1, h2⟩ := zs_any_iff.mp hb
          simp only [Bool.and_eq_true] at h2
          exact absurd ⟨by rw [zs_bset _ h1]; exact h2.1, h2.2⟩ (h p h1)
      · rintro h p hp ⟨h1, h2⟩
        rw [zs_bset _ hp] at h1
        have : zs_any (fun p => zU S a k (S 0 1 + d) p && zs_bit s p) (S 0 0) = true := zs_any_iff.mpr ⟨p, hp, by simp only [Bool.and_eq_true]; exact ⟨h1, h2⟩⟩
        rw [h] at this; cases this
    unfold b_X1_knowingThen_4
    rw [zl_3, if_neg (by rw [zn_le (by omega) (by omega)]; omega), zn_ck (by omega) (by omega), zn_ck (by omega) (by omega), zn_ix (by omega), r1, r2, zn_and, q3]
    simp only [g1]
    have estep : ∀ o, (zs_bit s o || zs_any (fun r => zs_any (fun p => zU S a r (S 0 1 + d) p && zs_bit s p) (S 0 0) && (a / 4 ^ o % 4 == r)) (k + 1)) = ((zs_bit s o || zs_any (fun r => zs_any (fun p => zU S a r (S 0 1 + d) p && zs_bit s p) (S 0 0) && (a / 4 ^ o % 4 == r)) k) || (zs_any (fun p => zU S a k (S 0 1 + d) p && zs_bit s p) (S 0 0) && (a / 4 ^ o % 4 == k))) := fun o => (Bool.or_assoc _ _ _).symm
    rw [zs_scg (fun o ho => estep o)] at ih
    by_cases c : zs_any (fun p => zU S a k (S 0 1 + d) p && zs_bit s p) (S 0 0) = false
    · rw [if_pos (hiff.mpr c)]
      rw [c] at ih
      simpa using ih
    · rw [if_neg (fun h => c (hiff.mp h)), zn_or, zs_orr]
      simp only [Bool.not_eq_false] at c
      rw [c] at ih
      simpa using ih
  · intro f _ _
    unfold b_X1_knowingThen_4
    rw [zl_3, if_pos (by rw [zn_le (by omega) (by omega)]; omega)]
    rfl
theorem ze_said {N j h a d : Nat} {X : zq_M} {S : Nat → Nat → Nat} {P : Nat → Nat → Nat → Nat} {B : Nat → Nat → Nat → Bool} {K : Nat} (hN : 1100 < N) (hS : zyB S) (hG : zyGX j X S h P B) (hT : zeT S X d) (ha : a < 4 ^ S 0 0) (hK : X.1 46 a = zn K) : ∃ (X1 : zq_M) (R : Nat), f_X1_saidIn N j X (zn a) = some (zn R, X1) ∧ (X1.2 = X.2 ∧ ∀ c, c ≠ 49 ∧ c ≠ 50 → X1.1 c = X.1 c) ∧ R < 4294967296 ∧ ∀ t, zs_bit R t = true ↔ ∃ s, s < 2 ^ S 0 0 ∧ zs_bit K s = true ∧ zspr S a s (S 0 1 + d) = t := by
  have hn := hS.1
  have h32 := zs_p2 hn
  have h4n := zs_p4 hn
  have h0p : 0 < 2 ^ S 0 0 := Nat.pow_pos (by omega)
  have q32 : (32 : Int32) = zn 32 := rfl
  unfold f_X1_saidIn
  refine zL (α := Int32 → zq_M → Option (Int32 × zq_M)) (fun (X1 : zq_M) k g => g (zn k) X1) (fun k X1 => (X1.2 = X.2 ∧ ∀ c, c ≠ 49 ∧ c ≠ 50 → X1.1 c = X.1 c) ∧ ∀ r, r < k → X1.1 49 r = zn (zs_set (fun o => a / 4 ^ o % 4 == r) (S 0 0)) ∧ X1.1 50 r = zn (zs_set (fun p => zU S a r (S 0 1 + d) p) (S 0 0))) (fun o => ∃ (X1 : zq_M) (R : Nat), o = some (zn R, X1) ∧ (X1.2 = X.2 ∧ ∀ c, c ≠ 49 ∧ c ≠ 50 → X1.1 c = X.1 c) ∧ R < 4294967296 ∧ ∀ t, zs_bit R t = true ↔ ∃ s, s < 2 ^ S 0 0 ∧ zs_bit K s = true ∧ zspr S a s (S 0 1 + d) = t) 3 ?_ ?_ N 0 X (by omega) (by omega) ⟨⟨rfl, fun _ _ => rfl⟩, fun r hr => by omega⟩
  · intro g r X1 hr ⟨f1, f2⟩ ih
    have G1 : zyGX j X1 S h P B := zyGX_fr f1.1 (fun c hc => f1.2 c (by omega)) hG
    have l32 := zs_l32 (fun q => a / 4 ^ q % 4 == r) hn
    have q3 : (zn r : Int32) + 1 = zn (r + 1) := zn_add _ 1
    unfold b_X1_saidIn_2
    rw [zl_3, if_neg (by rw [zn_le (by omega) (by omega)]; omega), zy_whk (n := S 0 0) (by omega) G1.1.1 hn (by omega) (by omega)]
    simp only [Option.bind_some, zq_b]
    rw [zn_ck (by omega) (by omega), zn_ck (by omega) (by omega), zn_ck (a := r) (n := 3) (by omega) (by omega), zn_ix (by omega), zq_g1, if_pos ⟨rfl, rfl⟩, q32, zn_mul, zn_add, zn_ck (by omega) (by omega), zn_ix (by omega), zq_un (by omega), f1.2 48 (by omega), hT r _ hr (zs_lt _ _), q3]
    refine ih _ ⟨⟨f1.1, fun c hc => by rw [zq_un (by omega), zq_un (by omega)]; exact f1.2 c hc⟩, fun r1 hr1 => ?_⟩
    have e2 : zs_set (fun p => decide (r < 3) && zk_sp S r (zs_bit (zs_set (fun q => a / 4 ^ q % 4 == r) (S 0 0))) (S 0 1 + d) p) (S 0 0) = zs_set (fun p => zU S a r (S 0 1 + d) p) (S 0 0) := zs_scg (fun p hp => by
      unfold zU
      rw [zk_spcg (T1 := fun q => a / 4 ^ q % 4 == r) (fun q hq => zs_bset (fun q => a / 4 ^ q % 4 == r) hq) hp])
    by_cases e : r1 = r
    · subst e
      refine ⟨?_, ?_⟩
      · rw [zq_un (by omega), zq_g1, if_pos ⟨rfl, rfl⟩]
      · rw [zq_g1, if_pos ⟨rfl, rfl⟩, e2]
    · obtain ⟨w1, w2⟩ := f2 r1 (by omega)
      refine ⟨?_, ?_⟩
      · rw [zq_un (by omega), zq_us1 (by omega)]; exact w1
      · rw [zq_us1 (by omega), zq_un (by omega)]; exact w2
  · intro g X1 ⟨f1, f2⟩
    have G1 : zyGX j X1 S h P B := zyGX_fr f1.1 (fun c hc => f1.2 c (by omega)) hG
    have hR : zeR S X1 a d := f2
    unfold b_X1_saidIn_2 k_X1_saidIn_50_3
    rw [zl_3, if_pos (by rw [zn_le (by omega) (by omega)]; omega)]
    refine zL (α := Int32 → Int32 → Option (Int32 × zq_M)) (fun (R : Nat) k g => g (zn R) (zn k)) (fun k R => R < 4294967296 ∧ ∀ t, zs_bit R t = true ↔ ∃ s, s < k ∧ zs_bit K s = true ∧ zspr S a s (S 0 1 + d) = t) (fun o => ∃ (X1 : zq_M) (R : Nat), o = some (zn R, X1) ∧ (X1.2 = X.2 ∧ ∀ c, c ≠ 49 ∧ c ≠ 50 → X1.1 c = X.1 c) ∧ R < 4294967296 ∧ ∀ t, zs_bit R t = true ↔ ∃ s, s < 2 ^ S 0 0 ∧ zs_bit K s = true ∧ zspr S a s (S 0 1 + d) = t) (2 ^ S 0 0) ?_ ?_ N 0 0 (by omega) (by omega) ⟨by decide, fun t => ⟨fun h => by rw [zs_bt] at h; simp at h, fun ⟨s, h, _⟩ => by omega⟩⟩
    · intro g2 k R hk ⟨e1, e2⟩ ih
      have q3 : (zn k : Int32) + 1 = zn (k + 1) := zn_add _ 1
      have hb := zn_bit32 (a := K) (k := k) (by omega)
      unfold b_X1_saidIn_54
      rw [zy_all G1.1.1 hn]
      simp only [Option.bind_some]
      rw [if_neg (by rw [zn_lt (by omega) (by omega)]; omega), zn_ck (by omega) (by omega), zn_ix (by omega), f1.2 46 (by omega), hK, ze_kt hN hS hR hk, q3]
      simp only [hb, Option.bind_some]
      by_cases c : zs_bit K k = true
      · rw [if_neg (fun h => h c)]
        have hsl := zspr_l S a k (S 0 1 + d)
        rw [zl_1, zn_shl (by omega), Nat.one_mul, zn_or]
        refine ih _ ⟨Nat.or_lt_two_pow (n := 32) e1 (Nat.pow_lt_pow_right (by omega) (by omega)), fun t => ?_⟩
        rw [zs_bor, Bool.or_eq_true, e2 t, zs_b2p, beq_iff_eq]
        constructor
        · rintro (⟨s, h1, h2⟩ | h)
          · exact ⟨s, by omega, h2⟩
          · exact ⟨k, by omega, c, h⟩
        · rintro ⟨s, h1, h2, h3⟩
          by_cases e : s = k
          · subst e; exact Or.inr h3
          · exact Or.inl ⟨s, by omega, h2, h3⟩
      · rw [if_pos c]
        refine ih R ⟨e1, fun t => ?_⟩
        rw [e2 t]
        constructor
        · rintro ⟨s, h1, h2⟩; exact ⟨s, by omega, h2⟩
        · rintro ⟨s, h1, h2, h3⟩
          by_cases e : s = k
          · subst e; exact absurd h2 c
          · exact ⟨s, by omega, h2, h3⟩
    · intro g2 R ⟨e1, e2⟩
      unfold b_X1_saidIn_54
      rw [zy_all G1.1.1 hn]
      simp only [Option.bind_some]
      rw [if_pos (by rw [zn_lt (by omega) (by omega)]; omega)]
      exact ⟨X1, R, rfl, f1, e1, e2⟩
