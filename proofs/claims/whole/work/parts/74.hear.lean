def zH (tg : Nat → Nat → Nat → Nat) (n : Nat) (ok : Nat → Nat → Nat → Bool) (c : Nat → Nat → Nat → Nat → Prop) (a p r : Nat) (G : Nat → Nat → Prop) : Prop := ∀ x v, G x v ↔ ∃ a1 p1 r1, p1 < n ∧ r1 < 4 ∧ (a1 < a ∨ a1 = a ∧ (p1 < p ∨ p1 = p ∧ r1 < r)) ∧ ok a1 p1 r1 = true ∧ tg a1 p1 r1 = x ∧ c a1 p1 r1 v
theorem zH_0 {tg : Nat → Nat → Nat → Nat} {n : Nat} {ok : Nat → Nat → Nat → Bool} {c : Nat → Nat → Nat → Nat → Prop} {G : Nat → Nat → Prop} (h : ∀ x v, ¬ G x v) : zH tg n ok c 0 0 0 G := by
  intro x v
  refine ⟨fun g => absurd g (h x v), ?_⟩
  rintro ⟨a1, p1, r1, h1, h2, h3, -⟩
  omega
theorem zH_yes {tg : Nat → Nat → Nat → Nat} {n a p r : Nat} {ok : Nat → Nat → Nat → Bool} {c : Nat → Nat → Nat → Nat → Prop} {G G1 : Nat → Nat → Prop} (h : zH tg n ok c a p r G) (hp : p < n) (hr : r < 4) (ho : ok a p r = true) (hG : ∀ x v, G1 x v ↔ G x v ∨ (tg a p r = x ∧ c a p r v)) : zH tg n ok c a p (r + 1) G1 := by
  intro x v
  rw [hG, h x v]
  constructor
  · rintro (⟨a1, p1, r1, h1, h2, h3, h4⟩ | ⟨h1, h2⟩)
    · exact ⟨a1, p1, r1, h1, h2, by omega, h4⟩
    · exact ⟨a, p, r, hp, hr, by omega, ho, h1, h2⟩
  · rintro ⟨a1, p1, r1, h1, h2, h3, h4, h5, h6⟩
    by_cases e : a1 = a ∧ p1 = p ∧ r1 = r
    · obtain ⟨rfl, rfl, rfl⟩ := e
      exact Or.inr ⟨h5, h6⟩
    · exact Or.inl ⟨a1, p1, r1, h1, h2, by omega, h4, h5, h6⟩
theorem zH_no {tg : Nat → Nat → Nat → Nat} {n a p r : Nat} {ok : Nat → Nat → Nat → Bool} {c : Nat → Nat → Nat → Nat → Prop} {G : Nat → Nat → Prop} (h : zH tg n ok c a p r G) (ho : ok a p r = false) : zH tg n ok c a p (r + 1) G := by
  intro x v
  rw [h x v]
  constructor
  · rintro ⟨a1, p1, r1, h1, h2, h3, h4⟩
    exact ⟨a1, p1, r1, h1, h2, by omega, h4⟩
  · rintro ⟨a1, p1, r1, h1, h2, h3, h4, h5, h6⟩
    by_cases e : a1 = a ∧ p1 = p ∧ r1 = r
    · obtain ⟨rfl, rfl, rfl⟩ := e
      rw [ho] at h4; cases h4
    · exact ⟨a1, p1, r1, h1, h2, by omega, h4, h5, h6⟩
theorem zH_p {tg : Nat → Nat → Nat → Nat} {n a p : Nat} {ok : Nat → Nat → Nat → Bool} {c : Nat → Nat → Nat → Nat → Prop} {G : Nat → Nat → Prop} (h : zH tg n ok c a p 4 G) : zH tg n ok c a (p + 1) 0 G := by
  intro x v
  rw [h x v]
  constructor
  · rintro ⟨a1, p1, r1, h1, h2, h3, h4⟩
    exact ⟨a1, p1, r1, h1, h2, by omega, h4⟩
  · rintro ⟨a1, p1, r1, h1, h2, h3, h4⟩
    exact ⟨a1, p1, r1, h1, h2, by omega, h4⟩
theorem zH_a {tg : Nat → Nat → Nat → Nat} {n a : Nat} {ok : Nat → Nat → Nat → Bool} {c : Nat → Nat → Nat → Nat → Prop} {G : Nat → Nat → Prop} (h : zH tg n ok c a n 0 G) : zH tg n ok c (a + 1) 0 0 G := by
  intro x v
  rw [h x v]
  constructor
  · rintro ⟨a1, p1, r1, h1, h2, h3, h4⟩
    exact ⟨a1, p1, r1, h1, h2, by omega, h4⟩
  · rintro ⟨a1, p1, r1, h1, h2, h3, h4⟩
    exact ⟨a1, p1, r1, h1, h2, by omega, h4⟩
theorem zH_skip {tg : Nat → Nat → Nat → Nat} {n a : Nat} {ok : Nat → Nat → Nat → Bool} {c : Nat → Nat → Nat → Nat → Prop} {G : Nat → Nat → Prop} (ho : ∀ p r, ok a p r = false) (h : zH tg n ok c a 0 0 G) : zH tg n ok c (a + 1) 0 0 G := by
  intro x v
  rw [h x v]
  constructor
  · rintro ⟨a1, p1, r1, h1, h2, h3, h4⟩
    exact ⟨a1, p1, r1, h1, h2, by omega, h4⟩
  · rintro ⟨a1, p1, r1, h1, h2, h3, h4, h5⟩
    by_cases e : a1 = a
    · subst e; rw [ho] at h4; cases h4
    · exact ⟨a1, p1, r1, h1, h2, by omega, h4, h5⟩
theorem zn_b1 (x : Int32) : (x &&& 1 = 1) = (x.toBitVec.getLsbD 0 = true) := by
  apply propext
  rw [← Int32.toBitVec_inj, Int32.toBitVec_and]
  show x.toBitVec &&& 1#32 = 1#32 ↔ _
  rw [BitVec.and_one_eq_setWidth_ofBool_getLsbD]
  cases x.toBitVec.getLsbD 0 <;> decide
theorem zn_bit32 {a k : Nat} (hk : k < 32) : (zq_shr (zn a) (zn k) &&& 1 = 1) = (zs_bit a k = true) := by
  rw [zn_b1]
  unfold zq_shr
  rw [zn_k31 hk, Int32.toBitVec_shiftRight]
  have h := zn_m32 k hk
  show (((zn a).toBitVec.sshiftRight ((BitVec.ofNat 32 k).smod 32#32).toNat).getLsbD 0 = true) = _
  rw [h, BitVec.getLsbD_sshiftRight, zn_bv, zs_bt, if_pos (by omega), Nat.add_zero, BitVec.getLsbD_ofNat, decide_eq_true hk]
  simp
theorem zn_z32 {a : Nat} (ha : a < 4294967296) : (zn a = 0) = (a = 0) := by
  apply propext
  constructor
  · intro h
    have h2 := congrArg (fun x => x.toBitVec.toNat) h
    have h3 : a % 2 ^ 32 = 0 := h2
    omega
  · intro h; rw [h]; rfl
theorem zs_32 (f : Nat → Bool) : zs_set f 32 < 4294967296 := zs_lt f 32
theorem zs_and0 {a b n : Nat} (ha : a < 2 ^ n) : (a &&& b = 0) ↔ ∀ s, s < n → ¬ (zs_bit a s = true ∧ zs_bit b s = true) := by
  constructor
  · intro h s hs hh
    have h2 := congrArg (fun x => x.testBit s) h
    rw [zs_bt, zs_bt] at hh
    simp [hh.1, hh.2] at h2
  · intro h
    apply Nat.eq_of_testBit_eq
    intro s
    rw [Nat.testBit_and, Nat.zero_testBit]
    by_cases hs : s < n
    · have := h s hs
      rw [zs_bt, zs_bt] at this
      cases h1 : a.testBit s with
      | false => rfl
      | true =>
        cases h2 : b.testBit s with
        | false => rfl
        | true => exact absurd ⟨h1, h2⟩ this
    · have := zs_bout ha (show n ≤ s by omega)
      rw [zs_bt] at this
      rw [this]; rfl
theorem zs_bor (a b s : Nat) : zs_bit (a ||| b) s = (zs_bit a s || zs_bit b s) := by rw [zs_bt, zs_bt, zs_bt, Nat.testBit_or]
theorem zs_b2p (k s : Nat) : zs_bit (2 ^ k) s = (k == s) := by
  rw [zs_bt, Nat.testBit_two_pow]
  by_cases h : k = s <;> simp [h]
def zspr (S : Nat → Nat → Nat) (a s g : Nat) : Nat := zs_set (fun o => zs_bit s o || zs_any (fun r => zs_any (fun p => zU S a r g p && zs_bit s p) (S 0 0) && (a / 4 ^ o % 4 == r)) 3) (S 0 0)
theorem zU_pl {S : Nat → Nat → Nat} {a r g p : Nat} (h : zU S a r g p = true) : a / 4 ^ p % 4 = r ∧ r < 3 := by
  unfold zU zk_sp at h
  simp only [Bool.and_eq_true, decide_eq_true_eq, beq_iff_eq] at h
  exact ⟨h.2.1.1, h.1⟩
theorem zr_spread {N a s g : Nat} {M : zq_M} {S : Nat → Nat → Nat} {P : Nat → Nat → Nat → Nat} {B : Nat → Nat → Nat → Bool} (hN : 1100 < N) (hS : zyB S) (hG : zyGM M S P B) (ha : a < 1024) (hs : s < 2 ^ S 0 0) (hg : g < 100000) : f_X11_spread N M (zn a) (zn s) (zn g) = some (zn (zspr S a s g)) := by
  have hn := hS.1
  have h32 := zs_p2 hn
  have hfin : zspr S a s g = zs_set (fun o => zs_bit s o || zs_any (fun p => (zs_bit s p && zU S a (a / 4 ^ p % 4) g p) && (a / 4 ^ o % 4 == a / 4 ^ p % 4)) (S 0 0)) (S 0 0) := by
    unfold zspr
    refine zs_scg (fun o ho => ?_)
    congr 1
    rw [Bool.eq_iff_iff, zs_any_iff, zs_any_iff]
    constructor
    · rintro ⟨r, h1, h2⟩
      simp only [Bool.and_eq_true, beq_iff_eq] at h2
      obtain ⟨p, h3, h4⟩ := zs_any_iff.mp h2.1
      simp only [Bool.and_eq_true] at h4
      have h5 := (zU_pl h4.1).1
      refine ⟨p, h3, ?_⟩
      simp only [Bool.and_eq_true, beq_iff_eq]
      rw [h5]
      exact ⟨⟨h4.2, h4.1⟩, h2.2⟩
    · rintro ⟨p, h1, h2⟩
      simp only [Bool.and_eq_true, beq_iff_eq] at h2
      have h5 := (zU_pl h2.1.2).2
      refine ⟨a / 4 ^ p % 4, h5, ?_⟩
      simp only [Bool.and_eq_true, beq_iff_eq]
      exact ⟨zs_any_iff.mpr ⟨p, h1, by simp only [Bool.and_eq_true]; exact ⟨h2.1.2, h2.1.1⟩⟩, h2.2⟩
  rw [hfin]
  unfold f_X11_spread
  have h0 : zs_set (fun o => zs_bit s o || zs_any (fun p => (zs_bit s p && zU S a (a / 4 ^ p % 4) g p) && (a / 4 ^ o % 4 == a / 4 ^ p % 4)) 0) (S 0 0) = s := by
    refine Eq.trans (zs_scg (fun o ho => ?_)) (zs_self hs)
    show (zs_bit s o || false) = _
    rw [Bool.or_false]
  have key : zq_loop (fun _ _ => none) (b_X11_spread_6 N M (zn a) (zn s) (zn g)) N (zn (zs_set (fun o => zs_bit s o || zs_any (fun p => (zs_bit s p && zU S a (a / 4 ^ p % 4) g p) && (a / 4 ^ o % 4 == a / 4 ^ p % 4)) 0) (S 0 0))) (zn 0) = some (zn (zs_set (fun o => zs_bit s o || zs_any (fun p => (zs_bit s p && zU S a (a / 4 ^ p % 4) g p) && (a / 4 ^ o % 4 == a / 4 ^ p % 4)) (S 0 0)) (S 0 0))) := ?_
  · rw [h0] at key; exact key
  refine zL (α := Int32 → Int32 → Option Int32) (fun (_ : Unit) k f => f (zn (zs_set (fun o => zs_bit s o || zs_any (fun p => (zs_bit s p && zU S a (a / 4 ^ p % 4) g p) && (a / 4 ^ o % 4 == a / 4 ^ p % 4)) k) (S 0 0))) (zn k)) (fun _ _ => True) (fun o => o = some (zn (zs_set (fun o => zs_bit s o || zs_any (fun p => (zs_bit s p && zU S a (a / 4 ^ p % 4) g p) && (a / 4 ^ o % 4 == a / 4 ^ p % 4)) (S 0 0)) (S 0 0)))) (S 0 0) ?_ ?_ N 0 () (by omega) (by omega) trivial
  · intro f k _ hk _ ih
    have ih := ih () trivial
    have q3 : (zn k : Int32) + 1 = zn (k + 1) := zn_add _ 1
    have hms := zy_msM (N := N) (p := k) (g := g) (a := a) (by omega) hS hG.1 hG.2.1 ha hk hg
    have hz : (decide (a / 4 ^ k % 4 < 3) && zk_sp S (a / 4 ^ k % 4) (fun q => a / 4 ^ q % 4 == a / 4 ^ k % 4) g k) = zU S a (a / 4 ^ k % 4) g k := rfl
    unfold b_X11_spread_6
    rw [hG.1.1, if_neg (by rw [zn_le (by omega) (by omega)]; omega), zy_hasM N M (by omega) (by omega), hms, hz, q3]
    simp only [Option.bind_some]
    have estep : ∀ o, (zs_bit s o || zs_any (fun p => (zs_bit s p && zU S a (a / 4 ^ p % 4) g p) && (a / 4 ^ o % 4 == a / 4 ^ p % 4)) (k + 1)) = ((zs_bit s o || zs_any (fun p => (zs_bit s p && zU S a (a / 4 ^ p % 4) g p) && (a / 4 ^ o % 4 == a / 4 ^ p % 4)) k) || ((zs_bit s k && zU S a (a / 4 ^ k % 4) g k) && (a / 4 ^ o % 4 == a / 4 ^ k % 4))) := fun o => (Bool.or_assoc _ _ _).symm
    rw [zs_scg (fun o ho => estep o)] at ih
    cases c1 : zs_bit s k with
    | false =>
      rw [if_pos (by rfl)]
      rw [c1] at ih
      simpa using ih
    | true =>
      rw [if_neg (by decide)]
      cases c2 : zU S a (a / 4 ^ k % 4) g k with
      | false =>
        rw [if_neg (by decide)]
        rw [c1, c2] at ih
        simpa using ih
      | true =>
        rw [if_pos (by decide)]
        rw [c1, c2] at ih
        simp only [Bool.and_self, Bool.true_and] at ih
        obtain ⟨F, hF⟩ : ∃ F : Nat → Bool, F = (fun o => zs_bit s o || zs_any (fun p => (zs_bit s p && zU S a (a / 4 ^ p % 4) g p) && (a / 4 ^ o % 4 == a / 4 ^ p % 4)) k) := ⟨_, rfl⟩
        rw [← hF]
        have h0 : zs_set F (S 0 0) = zs_set (fun o => F o || (decide (o < 0) && (a / 4 ^ o % 4 == a / 4 ^ k % 4))) (S 0 0) := zs_scg (fun o ho => by simp)
        rw [h0]
        refine zL (α := Int32 → Int32 → Option Int32) (fun (_ : Unit) m f => f (zn (zs_set (fun o => F o || (decide (o < m) && (a / 4 ^ o % 4 == a / 4 ^ k % 4))) (S 0 0))) (zn m)) (fun _ _ => True) (fun o => o = some (zn (zs_set (fun o => zs_bit s o || zs_any (fun p => (zs_bit s p && zU S a (a / 4 ^ p % 4) g p) && (a / 4 ^ o % 4 == a / 4 ^ p % 4)) (S 0 0)) (S 0 0)))) (S 0 0) ?_ ?_ N 0 () (by omega) (by omega) trivial
        · intro f2 m _ hm _ ih2
          have ih2 := ih2 () trivial
          have q4 : (zn m : Int32) + 1 = zn (m + 1) := zn_add _ 1
          have g2 : (zn (a / 4 ^ m % 4) = zn (a / 4 ^ k % 4)) = (a / 4 ^ m % 4 = a / 4 ^ k % 4) := zn_eq (by omega) (by omega)
          unfold b_X11_spread_42
          rw [hG.1.1, if_neg (by rw [zn_le (by omega) (by omega)]; omega), zy_plM N M (by omega) ha, zy_plM N M (by omega) ha, q4]
          simp only [Option.bind_some, g2]
          by_cases c3 : a / 4 ^ m % 4 = a / 4 ^ k % 4
          · rw [if_neg (fun h => h c3), zl_1, zn_shl (by omega), Nat.one_mul, zn_or]
            have eo : (2 : Nat) ^ m = zs_set (fun p => p == m) (S 0 0) := (zs_one hm (fun p hp => by simp)).symm
            rw [eo, zs_orr]
            rw [zs_scg (p := fun o => F o || (decide (o < m + 1) && (a / 4 ^ o % 4 == a / 4 ^ k % 4))) (q := fun o => (F o || (decide (o < m) && (a / 4 ^ o % 4 == a / 4 ^ k % 4))) || (o == m)) (fun p hp => by
              by_cases e : p = m
              · subst e
                simp [c3]
              · have e1 : decide (p < m + 1) = decide (p < m) := by
                  by_cases h : p < m
                  · rw [decide_eq_true h, decide_eq_true (by omega)]
                  · rw [decide_eq_false h, decide_eq_false (by omega)]
                have e2 : (p == m) = false := by simpa using e
                rw [e1, e2, Bool.or_false])] at ih2
            exact ih2
          · rw [if_pos c3, zl_0, zn_or, Nat.or_zero]
            rw [zs_scg (p := fun o => F o || (decide (o < m + 1) && (a / 4 ^ o % 4 == a / 4 ^ k % 4))) (q := fun o => F o || (decide (o < m) && (a / 4 ^ o % 4 == a / 4 ^ k % 4))) (fun p hp => by
              by_cases e : p = m
              · subst e
                simp [c3]
              · have e1 : decide (p < m + 1) = decide (p < m) := by
                  by_cases h : p < m
                  · rw [decide_eq_true h, decide_eq_true (by omega)]
                  · rw [decide_eq_false h, decide_eq_false (by omega)]
                rw [e1])] at ih2
            exact ih2
        · intro f2 _ _
          unfold b_X11_spread_42
          rw [hG.1.1, if_pos (by rw [zn_le (by omega) (by omega)]; omega), q3]
          rw [zs_scg (p := fun o => F o || (decide (o < S 0 0) && (a / 4 ^ o % 4 == a / 4 ^ k % 4))) (q := fun o => F o || (a / 4 ^ o % 4 == a / 4 ^ k % 4)) (fun p hp => by rw [decide_eq_true hp, Bool.true_and])]
          rw [hF]
          exact ih
  · intro f _ _
    unfold b_X11_spread_6
    rw [hG.1.1, if_pos (by rw [zn_le (by omega) (by omega)]; omega)]
