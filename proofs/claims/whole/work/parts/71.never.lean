noncomputable def zcanb (S : Nat → Nat → Nat) (B : Nat → Nat → Nat → Bool) (r d p : Nat) : Bool := @decide (zhit S B r p d) (Classical.propDecidable _)
theorem zcanb_iff {S : Nat → Nat → Nat} {B : Nat → Nat → Nat → Bool} {r d p : Nat} : zcanb S B r d p = true ↔ zhit S B r p d := by
  unfold zcanb
  exact @decide_eq_true_iff _ (Classical.propDecidable _)
theorem zs_full (n : Nat) : zs_set (fun _ => true) n = 2 ^ n - 1 := by
  induction n with
  | zero => rfl
  | succ n ih =>
    rw [zs_st rfl, ih, Nat.pow_succ]
    have : 0 < 2 ^ n := Nat.pow_pos (by omega)
    omega
theorem zn_andnot : ∀ a : Nat, a < 32 → ∀ b : Nat, b < 32 → zn a &&& (zn b ^^^ (-1 : Int32)) = zn (zs_set (fun p => zs_bit a p && !(zs_bit b p)) 5) := by decide +kernel
theorem zs_ands (f g : Nat → Bool) {n : Nat} (hn : n ≤ 5) : zn (zs_set f n) &&& (zn (zs_set g n) ^^^ (-1 : Int32)) = zn (zs_set (fun p => f p && !(g p)) n) := by
  rw [zn_andnot _ (zs_l32 f hn) _ (zs_l32 g hn)]
  congr 1
  apply zs_ext
  intro k
  by_cases hk : k < n
  · rw [zs_bset _ (by omega), zs_bset _ hk, zs_bset _ hk, zs_bset _ hk]
  · rw [zs_bset2 _ (by omega) (n := n)]
    by_cases h5 : k < 5
    · rw [zs_bset _ h5, zs_bset2 f (by omega)]; rfl
    · rw [zs_bset2 _ (by omega)]
theorem zw_who {N j h r d : Nat} {X : zq_M} {S : Nat → Nat → Nat} {P : Nat → Nat → Nat → Nat} {B : Nat → Nat → Nat → Bool} (hN : 1100 < N) (hS : zyB S) (hG : zyGX j X S h P B) (hI : zwI (S 0 0) (zv_pk (S 3)) B P 0 X d) (hr : r < 3) (hd : d < 100) : ∃ X1, f_X9_whoCanSpeak N j X (zn r) = some (zn (zs_set (fun p => zcanb S B r d p) (S 0 0)), X1) ∧ zwF X X1 ∧ zwI (S 0 0) (zv_pk (S 3)) B P 0 X1 d := by
  have hn := hS.1
  have h32 := zs_p2 hn
  have h4n := zs_p4 hn
  have h4p : 0 < 4 ^ S 0 0 := Nat.pow_pos (by omega)
  have hinf : zINF = 1073741824 := rfl
  have hI0 := hI
  obtain ⟨L, st, hw, hL, -, -⟩ := hI
  obtain ⟨X1, x1, x2, x3⟩ := zw_tell hN hS hG hw (show r < 4 by omega) hd
  have G1 : zyGX j X1 S h P B := zyGX_fr x2.1 (fun c hc => x2.2 c (by omega)) hG
  refine ⟨X1, ?_, ⟨x2.1, fun c hc => x2.2 c (by omega)⟩, zwI_fr (x2.2 41 (by omega)) (x2.2 42 (by omega)) hI0⟩
  have hq : (1073741824 : Int32) = zn zINF := rfl
  unfold f_X9_whoCanSpeak
  rw [x1]
  simp only [Option.bind_some]
  have hfin : zs_set (fun p => zcanb S B r d p) (S 0 0) = zs_set (fun p => zs_any (fun a => decide (L a ≠ zINF) && zU S a r (S 0 1 + d) p) (4 ^ S 0 0)) (S 0 0) := by
    refine zs_scg (fun p hp => ?_)
    rw [Bool.eq_iff_iff, zcanb_iff, zs_any_iff]
    constructor
    · rintro ⟨a, h1, h2, h3⟩
      have := (hL a 100).mpr (zRZ hn h2)
      exact ⟨a, h1, by simp [h3]; omega⟩
    · rintro ⟨a, h1, h2⟩
      simp only [Bool.and_eq_true, decide_eq_true_eq] at h2
      have hla := hw.2.2.2.2.2 a
      exact ⟨a, h1, zZR ((hL a (L a)).mp ⟨Nat.le_refl _, by omega⟩), h2.2⟩
  rw [hfin]
  have key : zq_loop (fun _ _ => none) (b_X9_whoCanSpeak_9 N j (zn r) X1) N (zn (zs_set (fun p => zs_any (fun a => decide (L a ≠ zINF) && zU S a r (S 0 1 + d) p) 0) (S 0 0))) (zn 0) = some (zn (zs_set (fun p => zs_any (fun a => decide (L a ≠ zINF) && zU S a r (S 0 1 + d) p) (4 ^ S 0 0)) (S 0 0)), X1) := ?_
  · rw [zs_zero (f := fun p => zs_any (fun a => decide (L a ≠ zINF) && zU S a r (S 0 1 + d) p) 0) (fun p hp => rfl)] at key
    exact key
  refine zL (α := Int32 → Int32 → Option (Int32 × zq_M)) (fun (_ : Unit) k g => g (zn (zs_set (fun p => zs_any (fun a => decide (L a ≠ zINF) && zU S a r (S 0 1 + d) p) k) (S 0 0))) (zn k)) (fun _ _ => True) (fun o => o = some (zn (zs_set (fun p => zs_any (fun a => decide (L a ≠ zINF) && zU S a r (S 0 1 + d) p) (4 ^ S 0 0)) (S 0 0)), X1)) (4 ^ S 0 0) ?_ ?_ N 0 () (by omega) (by omega) trivial
  · intro g k _ hk _ ih
    have ih := ih () trivial
    have hl := hw.2.2.2.2.2 k
    have g1 : (zn (4 ^ S 0 0) ≤ zn k) = (4 ^ S 0 0 ≤ k) := zn_le (by omega) (by omega)
    have g2 : (zn (L k) = zn zINF) = (L k = zINF) := zn_eq (by omega) (by omega)
    have g3 : (zn k : Int32) + 1 = zn (k + 1) := zn_add _ 1
    have ht := zs_lt (fun q => k / 4 ^ q % 4 == r) (S 0 0)
    unfold b_X9_whoCanSpeak_9
    rw [x2.2 41 (by omega), x2.2 42 (by omega), hw.1, zn_ck (by omega) (by omega), zn_ix (by omega), hw.2.2.2.2.1 k (by omega), zy_whk (n := S 0 0) (by omega) G1.1.1 hn (by omega) (by omega), hq]
    simp only [g1, g2, g3, Option.bind_some]
    rw [if_neg (by omega)]
    have estep : ∀ p, zs_any (fun a => decide (L a ≠ zINF) && zU S a r (S 0 1 + d) p) (k + 1) = (zs_any (fun a => decide (L a ≠ zINF) && zU S a r (S 0 1 + d) p) k || (decide (L k ≠ zINF) && zU S k r (S 0 1 + d) p)) := fun p => rfl
    by_cases c : L k = zINF
    · rw [if_pos c]
      rw [zs_scg (q := fun p => zs_any (fun a => decide (L a ≠ zINF) && zU S a r (S 0 1 + d) p) k) (fun p hp => by rw [estep]; simp [c])] at ih
      exact ih
    · rw [if_neg c, zn_ck (by omega) (by omega), zn_ix (by omega), x3 _ ht, zn_or, zs_orr]
      rw [zs_scg (q := fun p => zs_any (fun a => decide (L a ≠ zINF) && zU S a r (S 0 1 + d) p) k || (decide (r < 3) && zk_sp S r (zs_bit (zs_set (fun q => k / 4 ^ q % 4 == r) (S 0 0))) (S 0 1 + d) p)) (fun p hp => by
        rw [estep, decide_eq_true c, Bool.true_and]
        unfold zU
        rw [zk_spcg (T := zs_bit (zs_set (fun q => k / 4 ^ q % 4 == r) (S 0 0))) (T1 := fun q => k / 4 ^ q % 4 == r) (fun q hq => zs_bset (fun q => k / 4 ^ q % 4 == r) hq) hp])] at ih
      exact ih
  · intro g _ _
    unfold b_X9_whoCanSpeak_9
    rw [x2.2 41 (by omega), hw.1, if_pos (by rw [zn_le (by omega) (by omega)]; omega)]
theorem zw_nevX {N j h r : Nat} {X : zq_M} {S : Nat → Nat → Nat} {P : Nat → Nat → Nat → Nat} {B : Nat → Nat → Nat → Bool} (hN : 1100 < N) (hS : zyB S) (hG : zyGX j X S h P B) (hP : ∀ p r m, P p r m ≤ 1001) (hr : r < 3) : ∃ X1, f_X9_whoNeverCan N j X (zn r) = some (zn (zs_set (fun p => !(zs_any (fun e => zcanb S B r e p) 13)) (S 0 0)), X1) ∧ zwF X X1 := by
  have hn := hS.1
  obtain ⟨X0, x1, x2, x3⟩ := zw_beginI (md := 0) hN hS hG (by omega)
  unfold f_X9_whoNeverCan
  rw [show (0 : Int32) = zn 0 from rfl, x1]
  simp only [Option.bind_some]
  rw [zy_all (zyGX_w x2 hG).1.1 hn]
  simp only [Option.bind_some]
  have h0 : zs_set (fun p => !(zs_any (fun e => zcanb S B r e p) 0)) (S 0 0) = 2 ^ S 0 0 - 1 := by
    rw [← zs_full]
    exact zs_scg (fun p hp => rfl)
  rw [← h0]
  refine zL (α := Int32 → Int32 → zq_M → Option (Int32 × zq_M)) (fun (X1 : zq_M) k g => g (zn (zs_set (fun p => !(zs_any (fun e => zcanb S B r e p) k)) (S 0 0))) (zn k) X1) (fun k X1 => zwF X X1 ∧ zwI (S 0 0) (zv_pk (S 3)) B P 0 X1 k) (fun o => ∃ X1, o = some (zn (zs_set (fun p => !(zs_any (fun e => zcanb S B r e p) 13)) (S 0 0)), X1) ∧ zwF X X1) 13 ?_ ?_ N 0 X0 (by omega) (by omega) ⟨x2, x3⟩
  · intro g k X1 hk ⟨f1, f2⟩ ih
    obtain ⟨X2, y1, y2, y3⟩ := zw_who hN hS (zyGX_w f1 hG) f2 hr (by omega)
    have F2 := zwF_t f1 y2
    obtain ⟨X3, z1, z2, z3⟩ := zw_goOn hN hS (zyGX_w F2 hG) hP (by omega) (by omega) y3
    have q12 : (12 : Int32) = zn 12 := rfl
    have q3 : (zn k : Int32) + 1 = zn (k + 1) := zn_add _ 1
    have l32 := zs_l32 (fun p => !(zs_any (fun e => zcanb S B r e p) k)) hn
    have g1 : (zn (zs_set (fun p => !(zs_any (fun e => zcanb S B r e p) k)) (S 0 0)) = 0) = (zs_set (fun p => !(zs_any (fun e => zcanb S B r e p) k)) (S 0 0) = 0) := zn_eq (b := 0) (by omega) (by omega)
    unfold b_X9_whoNeverCan_18
    rw [q12, if_neg (by rw [zn_lt (by omega) (by omega)]; omega), y1]
    simp only [g1, Option.bind_some, zq_p]
    by_cases c : zs_set (fun p => !(zs_any (fun e => zcanb S B r e p) k)) (S 0 0) = 0
    · rw [if_pos c]
      refine ⟨X1, ?_, f1⟩
      rw [c]
      have : zs_set (fun p => !(zs_any (fun e => zcanb S B r e p) 13)) (S 0 0) = 0 := by
        refine zs_zero (fun p hp => ?_)
        have hb := zs_bset (fun p => !(zs_any (fun e => zcanb S B r e p) k)) hp
        rw [c] at hb
        have hz : zs_bit 0 p = false := by rw [zs_bt]; simp
        rw [hz] at hb
        have ht : zs_any (fun e => zcanb S B r e p) k = true := by
          cases h : zs_any (fun e => zcanb S B r e p) k with
          | true => rfl
          | false => rw [h] at hb; cases hb
        obtain ⟨e, h1, h2⟩ := zs_any_iff.mp ht
        have : zs_any (fun e => zcanb S B r e p) 13 = true := zs_any_iff.mpr ⟨e, by omega, h2⟩
        rw [this]; rfl
      rw [this]
    · rw [if_neg c, z1]
      simp only [Option.bind_some]
      rw [zs_ands _ _ hn, q3]
      have := ih X3 ⟨zwF_t F2 z2, z3⟩
      rw [zs_scg (p := fun p => !(zs_any (fun e => zcanb S B r e p) (k + 1))) (q := fun p => !(zs_any (fun e => zcanb S B r e p) k) && !(zcanb S B r k p)) (fun p hp => by
        show (!(zs_any (fun e => zcanb S B r e p) k || zcanb S B r k p)) = _
        rw [Bool.not_or])] at this
      exact this
  · intro g X1 ⟨f1, f2⟩
    have q12 : (12 : Int32) = zn 12 := rfl
    unfold b_X9_whoNeverCan_18
    rw [q12, if_pos (by rw [zn_lt (by omega) (by omega)]; omega)]
    exact ⟨X1, rfl, f1⟩
theorem zr_nevM {N r : Nat} {M : zq_M} {S : Nat → Nat → Nat} {P : Nat → Nat → Nat → Nat} {B : Nat → Nat → Nat → Bool} (hN : 1100 < N) (hS : zyB S) (hG : zyGM M S P B) (hr : r < 3) : ∃ M1 M2, f_X11_beginAt N M (zn (zv_pk (S 3))) = some M1 ∧ zq_loop (fun _ _ _ => none) (b_X11_never_26 N (zn r)) N (0 : Int32) (0 : Int32) M1 = some (zn (zs_set (fun p => !(zs_any (fun e => zcanb S B r e p) 13)) (S 0 0)), M2) ∧ zrF M M2 := by
  have hn := hS.1
  have hb1 := hS.2.1
  obtain ⟨M0, x1, x2, x3⟩ := zr_begin hN hS hG (zy_wln hS)
  refine ⟨M0, ?_⟩
  have key : ∃ M2, zq_loop (fun _ _ _ => none) (b_X11_never_26 N (zn r)) N (zn (zs_set (fun p => zs_any (fun e => zcanb S B r e p) 0) (S 0 0))) (zn 0) M0 = some (zn (zs_set (fun p => !(zs_any (fun e => zcanb S B r e p) 13)) (S 0 0)), M2) ∧ zrF M M2 := by
    refine zL (α := Int32 → Int32 → zq_M → Option (Int32 × zq_M)) (fun (M1 : zq_M) k g => g (zn (zs_set (fun p => zs_any (fun e => zcanb S B r e p) k) (S 0 0))) (zn k) M1) (fun k M1 => zrF M M1 ∧ zrI (S 0 0) (zv_pk (S 3)) B M1 (k - 1)) (fun o => ∃ M2, o = some (zn (zs_set (fun p => !(zs_any (fun e => zcanb S B r e p) 13)) (S 0 0)), M2) ∧ zrF M M2) 13 ?_ ?_ N 0 M0 (by omega) (by omega) ⟨x2, x3⟩
    · intro g k M1 hk ⟨f1, f2⟩ ih
      have q13 : (13 : Int32) = zn 13 := rfl
      have q3 : (zn k : Int32) + 1 = zn (k + 1) := zn_add _ 1
      have inner : ∀ M2, zrF M M2 → zrI (S 0 0) (zv_pk (S 3)) B M2 k → ∃ M3, j_X11_never_40 N (zn r) (zn (zs_set (fun p => zs_any (fun e => zcanb S B r e p) k) (S 0 0))) (zn k) g M2 = some (zn (zs_set (fun p => !(zs_any (fun e => zcanb S B r e p) 13)) (S 0 0)), M3) ∧ zrF M M3 := by
        intro M2 F2 I2
        have G2 := zyGM_r F2 hG
        have ih2 := ih M2 ⟨F2, I2⟩
        unfold j_X11_never_40
        have e0 : zs_set (fun p => zs_any (fun e => zcanb S B r e p) k) (S 0 0) = zs_set (fun p => zs_any (fun e => zcanb S B r e p) k || (decide (p < 0) && zcanb S B r k p)) (S 0 0) := zs_scg (fun p hp => by simp)
        rw [e0]
        refine zL (α := Int32 → Int32 → Option (Int32 × zq_M)) (fun (_ : Unit) m g => g (zn (zs_set (fun p => zs_any (fun e => zcanb S B r e p) k || (decide (p < m) && zcanb S B r k p)) (S 0 0))) (zn m)) (fun _ _ => True) (fun o => ∃ M3, o = some (zn (zs_set (fun p => !(zs_any (fun e => zcanb S B r e p) 13)) (S 0 0)), M3) ∧ zrF M M3) (S 0 0) ?_ ?_ N 0 () (by omega) (by omega) trivial
        · intro g2 m _ hm _ ih3
          have ih3 := ih3 () trivial
          have q4 : (zn m : Int32) + 1 = zn (m + 1) := zn_add _ 1
          have l32 := zs_l32 (fun p => zs_any (fun e => zcanb S B r e p) k || (decide (p < m) && zcanb S B r k p)) hn
          obtain ⟨b, y1, y2⟩ := zr_can (p := m) (g := S 0 1 + k) hN hS G2 I2 hm hr (by omega)
          unfold b_X11_never_43
          rw [G2.1.1, if_neg (by rw [zn_le (by omega) (by omega)]; omega), zy_hasM N M2 (by omega) (by omega), zs_bset _ hm, G2.1.2.2.1, zn_add, y1, q4]
          simp only [Option.bind_some]
          have hmm : decide (m < m) = false := by simp
          rw [hmm, Bool.false_and, Bool.or_false]
          have same : zs_any (fun e => zcanb S B r e m) k = true ∨ zcanb S B r k m = false → ∃ M3, g2 (zn (zs_set (fun p => zs_any (fun e => zcanb S B r e p) k || (decide (p < m) && zcanb S B r k p)) (S 0 0)) ||| 0) (zn (m + 1)) = some (zn (zs_set (fun p => !(zs_any (fun e => zcanb S B r e p) 13)) (S 0 0)), M3) ∧ zrF M M3 := by
            intro h
            rw [zl_0, zn_or, Nat.or_zero]
            rw [zs_scg (p := fun p => zs_any (fun e => zcanb S B r e p) k || (decide (p < m + 1) && zcanb S B r k p)) (q := fun p => zs_any (fun e => zcanb S B r e p) k || (decide (p < m) && zcanb S B r k p)) (fun p hp => by
              by_cases e : p = m
              · subst e
                rcases h with h | h
                · rw [h]; simp
                · rw [h]; simp
              · have e1 : decide (p < m + 1) = decide (p < m) := by
                  by_cases h : p < m
                  · rw [decide_eq_true h, decide_eq_true (by omega)]
                  · rw [decide_eq_false h, decide_eq_false (by omega)]
                rw [e1])] at ih3
            exact ih3
          cases ha : zs_any (fun e => zcanb S B r e m) k with
          | true =>
            rw [if_pos (by decide)]
            exact same (Or.inl ha)
          | false =>
            rw [if_neg (by decide)]
            cases hb : b with
            | false =>
              rw [if_pos (by rfl)]
              refine same (Or.inr ?_)
              cases hz : zcanb S B r k m with
              | false => rfl
              | true =>
                have := y2.mpr (zcanb_iff.mp hz)
                rw [hb] at this; cases this
            | true =>
              rw [if_neg (by decide)]
              have hz : zcanb S B r k m = true := zcanb_iff.mpr (y2.mp hb)
              rw [zl_1, zn_shl (by omega), Nat.one_mul, zn_or]
              have eo : (2 : Nat) ^ m = zs_set (fun p => p == m) (S 0 0) := (zs_one hm (fun p hp => by simp)).symm
              rw [eo, zs_orr]
              rw [zs_scg (p := fun p => zs_any (fun e => zcanb S B r e p) k || (decide (p < m + 1) && zcanb S B r k p)) (q := fun p => (zs_any (fun e => zcanb S B r e p) k || (decide (p < m) && zcanb S B r k p)) || (p == m)) (fun p hp => by
                by_cases e : p = m
                · subst e
                  rw [hz]; simp
                · have e1 : decide (p < m + 1) = decide (p < m) := by
                    by_cases h : p < m
                    · rw [decide_eq_true h, decide_eq_true (by omega)]
                    · rw [decide_eq_false h, decide_eq_false (by omega)]
                  have e2 : (p == m) = false := by simpa using e
                  rw [e1, e2, Bool.or_false])] at ih3
              exact ih3
        · intro g2 _ _
          unfold b_X11_never_43
          rw [G2.1.1, if_pos (by rw [zn_le (by omega) (by omega)]; omega), q3]
          rw [zs_scg (p := fun p => zs_any (fun e => zcanb S B r e p) k || (decide (p < S 0 0) && zcanb S B r k p)) (q := fun p => zs_any (fun e => zcanb S B r e p) (k + 1)) (fun p hp => by
            rw [decide_eq_true hp, Bool.true_and]; rfl)]
          exact ih2
      unfold b_X11_never_26
      rw [q13, if_neg (by rw [zn_le (by omega) (by omega)]; omega)]
      by_cases ck : k = 0
      · subst ck
        rw [if_pos (by decide)]
        exact inner M1 f1 f2
      · rw [if_neg (by rw [zl_0, zn_le (by omega) (by omega)]; omega)]
        obtain ⟨M2, z1, z2, z3⟩ := zr_go hN hS (zyGM_r f1 hG) f2
        rw [z1]
        simp only [Option.bind_some]
        rw [show k - 1 + 1 = k by omega] at z3
        exact inner M2 (zrF_t f1 z2) z3
    · intro g M1 ⟨f1, f2⟩
      have q13 : (13 : Int32) = zn 13 := rfl
      have b3 : 1 ≤ 2 ^ S 0 0 := Nat.pow_pos (by omega)
      unfold b_X11_never_26 k_X11_never_101_2
      rw [q13, if_pos (by rw [zn_le (by omega) (by omega)]; omega)]
      refine ⟨M1, ?_, f1⟩
      rw [f1.2 69 (by omega), hG.1.1, zl_1, zn_shl (by omega), Nat.one_mul, zn_sub b3, ← zs_full, ← zl_1, zs_ands _ _ hn]
      rw [zs_scg (p := fun p => true && !(zs_any (fun e => zcanb S B r e p) 13)) (q := fun p => !(zs_any (fun e => zcanb S B r e p) 13)) (fun p hp => by simp)]
  rw [zs_zero (f := fun p => zs_any (fun e => zcanb S B r e p) 0) (fun p hp => rfl)] at key
  obtain ⟨M2, k1, k2⟩ := key
  exact ⟨M2, x1, k1, k2⟩
theorem zI_never (N : Nat) (hN : 1100 < N) : zq_op_never N zI := by
  intro q j X M a hq hI
  have hI1 := zI_idle q j X M hI
  obtain ⟨S, h, C, W, U, E, T, hA⟩ := zy_pic N hq hI
  obtain ⟨X0, x1, x2, x3⟩ := zy_lookX (by omega) hA
  obtain ⟨M0, m1, m2, m3⟩ := zy_lookM (by omega) hA
  obtain ⟨hS, hq1, hX, hM, a1, a2, a3, a4, a5, a6⟩ := hA
  have hn := hS.1
  unfold f_X10_never f_X11_never
  rw [zw_xr, zw_mr, x1, m1]
  simp only [Option.bind_some]
  have d4 : ¬ ((1 : Int32) = 0) := by decide
  by_cases c1 : a < 0 ∨ 2 < a
  · simp only [c1, if_true, not_true, if_false]
    exact ⟨_, _, _, rfl, rfl, hI1⟩
  simp only [c1, d4, if_false, not_false_iff, if_true]
  obtain ⟨r, hr, rfl⟩ := zw_in (n := 2) (fun h => c1 (Or.inl h)) (fun h => c1 (Or.inr h)) (by omega)
  have hP : ∀ p r m, zp_pr S W U T C p r m ≤ 1001 := fun p r m => zp_prl a4
  obtain ⟨X2, y1, y2⟩ := zw_nevX hN hS x2 hP (show r < 3 by omega)
  obtain ⟨M1, M2, n1, n2, n3⟩ := zr_nevM hN hS m2 (show r < 3 by omega)
  rw [m2.1.2.1, y1, n1]
  simp only [Option.bind_some, zq_p]
  rw [n2]
  exact ⟨_, _, _, rfl, rfl, zI_scr (zfx_t x3 (zfx_w y2)) (zfm_t m3 (zfm_r2 n3)) hI1⟩
