def zS4 (S : Nat → Nat → Nat) (f : Nat → Nat) : Nat → Nat → Nat := fun c i => if c = 4 then f i else S c i
theorem zS4_B {S : Nat → Nat → Nat} {f : Nat → Nat} (hf : ∀ i, i < 5 → f i < 256) (hS : zyB S) : zyB (zS4 S f) := by
  obtain ⟨b0, b1, b2, b3, b4, b5, b6, b7, b8, b9⟩ := hS
  exact ⟨b0, b1, b2, b3, b4, b5, hf, b7, b8, b9⟩
theorem zS4_X {S : Nat → Nat → Nat} {f : Nat → Nat} {X X1 : zq_M} (h : ∀ c, c ≤ 7 → c ≠ 5 → X1.1 c = X.1 c) (h5 : ∀ i, i < 5 → X1.1 5 i = zn (f i)) (hX : zyX S X) : zyX (zS4 S f) X1 := by
  obtain ⟨x0, x1, x2, x3, x4, x5, x6, x7⟩ := hX
  refine ⟨?_, ?_, fun i hi => ?_, fun i hi => ?_, fun i hi => ?_, h5, fun i hi => ?_, fun i hi => ?_⟩
  · rw [h 1 (by omega) (by omega)]; exact x0
  · rw [h 1 (by omega) (by omega)]; exact x1
  · rw [h 2 (by omega) (by omega)]; exact x2 i hi
  · rw [h 3 (by omega) (by omega)]; exact x3 i hi
  · rw [h 4 (by omega) (by omega)]; exact x4 i hi
  · rw [h 6 (by omega) (by omega)]; exact x6 i hi
  · rw [h 7 (by omega) (by omega)]; exact x7 i hi
theorem zS4_M {S : Nat → Nat → Nat} {f : Nat → Nat} {M M1 : zq_M} (h0 : ∀ k, k < 3 → M1.1 69 k = M.1 69 k) (h : ∀ c, 70 ≤ c → c ≤ 74 → c ≠ 72 → M1.1 c = M.1 c) (h5 : ∀ i, i < 5 → M1.1 72 i = zn (f i)) (hM : zyM S M) : zyM (zS4 S f) M1 := by
  obtain ⟨x0, x1, x2, x3, x4, x5, x6, x7⟩ := hM
  refine ⟨?_, ?_, ?_, fun i hi => ?_, fun i hi => ?_, h5, fun i hi => ?_, fun i hi => ?_⟩
  · rw [h0 0 (by omega)]; exact x0
  · rw [h0 1 (by omega)]; exact x1
  · rw [h0 2 (by omega)]; exact x2
  · rw [h 70 (by omega) (by omega) (by omega)]; exact x3 i hi
  · rw [h 71 (by omega) (by omega) (by omega)]; exact x4 i hi
  · rw [h 73 (by omega) (by omega) (by omega)]; exact x6 i hi
  · rw [h 74 (by omega) (by omega) (by omega)]; exact x7 i hi
def zk_kn (S : Nat → Nat → Nat) (r t k i : Nat) : Nat := if i < k ∧ S 3 i = r then S 4 i ||| 2 ^ t else S 4 i
theorem zk_or8 {a t : Nat} (ha : a < 256) (ht : t < 8) : a ||| 2 ^ t < 256 := by
  have : 2 ^ t < 2 ^ 8 := Nat.pow_lt_pow_right (by omega) ht
  exact Nat.or_lt_two_pow (n := 8) ha this
theorem zk_knl {S : Nat → Nat → Nat} (hS : zyB S) {r t k i : Nat} (hi : i < 5) (ht : t < 8) : zk_kn S r t k i < 256 := by
  have h := hS.2.2.2.2.2.2.1 i hi
  unfold zk_kn
  split
  · exact zk_or8 h ht
  · exact h
theorem zk_orb {a t : Nat} (h : zs_bit a t = true) : a ||| 2 ^ t = a := by
  apply zs_ext
  intro k
  rw [zs_bt, Nat.testBit_or, Nat.testBit_two_pow]
  by_cases e : t = k
  · subst e
    rw [zs_bt] at h
    rw [zs_bt, h]; simp
  · rw [zs_bt]; simp [e]
theorem zk_kns {S : Nat → Nat → Nat} {r t k i : Nat} : zk_kn S r t (k + 1) i = if i = k then (if S 3 k = r then S 4 k ||| 2 ^ t else S 4 k) else zk_kn S r t k i := by
  unfold zk_kn
  by_cases e : i = k
  · subst e
    rw [if_pos rfl]
    by_cases h : S 3 i = r
    · rw [if_pos ⟨by omega, h⟩, if_pos h]
    · rw [if_neg (fun x => h x.2), if_neg h]
  · rw [if_neg e]
    by_cases h : i < k ∧ S 3 i = r
    · rw [if_pos h, if_pos ⟨by omega, h.2⟩]
    · rw [if_neg h, if_neg (fun x => h ⟨by omega, x.2⟩)]
def zk_ws (S : Nat → Nat → Nat) (W U : Nat → Nat) (T : Nat → List Nat) (C r t k : Nat) : Nat := zs_sum (fun i => if S 3 i = r ∧ ¬ zs_bit (S 4 i) t = true then zp_wo S W U T C i r (zp_nw S r - 1) t else 0) k
theorem zk_wsl {S : Nat → Nat → Nat} {W U E : Nat → Nat} {T : Nat → List Nat} {C h r t : Nat} {X : zq_M} (hx : zh_x X h C W U E T) : ∀ k, zk_ws S W U T C r t k ≤ 1000 * k := by
  intro k
  induction k with
  | zero => exact Nat.le_refl _
  | succ k ih =>
    have h1 := zp_wol (S := S) (p := k) (r := r) (n := zp_nw S r - 1) (t := t) hx
    show zk_ws S W U T C r t k + (if S 3 k = r ∧ ¬ zs_bit (S 4 k) t = true then zp_wo S W U T C k r (zp_nw S r - 1) t else 0) ≤ _
    split <;> omega
theorem zk_wss {S : Nat → Nat → Nat} {W U : Nat → Nat} {T : Nat → List Nat} {C r t k : Nat} : zk_ws S W U T C r t (k + 1) = zk_ws S W U T C r t k + (if S 3 k = r ∧ ¬ zs_bit (S 4 k) t = true then zp_wo S W U T C k r (zp_nw S r - 1) t else 0) := rfl
theorem zy_saidM {N b h C p t : Nat} {X M : zq_M} {S : Nat → Nat → Nat} {W U E F : Nat → Nat} {T : Nat → List Nat} (hN : 120 < N) (hS : zyB S) (hL : zyL M S b C W U F T) (hx : zh_x X h C W U E T) (hp : p < S 0 0) (ht : t < 8) : ∃ M1, f_X11_said N M (zn p) (zn t) = some (zn (zk_ws S W U T C (S 3 p) t (S 0 0)), M1) ∧ M1.2 = M.2 ∧ (∀ c, c ≠ 72 ∧ c ≠ 84 → M1.1 c = M.1 c) ∧ ∀ i, i < 5 → M1.1 72 i = zn (zk_kn S (S 3 p) t (S 0 0) i) := by
  have hn := hS.1
  have hr := hS.2.2.2.2.2.1 p (by omega)
  have hM := hL.1
  unfold f_X11_said
  rw [hM.2.1, zy_plM N M (by omega) (zy_wl hS), zy_plc hS (by omega)]
  simp only [Option.bind_some]
  rw [zy_mnM (by omega) hM.1 hn (zy_wl hS) hr, show zp_mn (S 0 0) (zv_pk (S 3)) (S 3 p) = zp_nw S (S 3 p) - 1 by have := zp_mn_w hS (S 3 p); omega]
  simp only [Option.bind_some]
  have hwl := fun k => zk_wsl (S := S) (r := S 3 p) (t := t) hx k
  have hnl := zp_nwl hS (S 3 p)
  generalize S 3 p = r at *
  refine zL (α := Int32 → Int32 → zq_M → Option (Int32 × zq_M)) (fun (M1 : zq_M) k g => g (zn (zk_ws S W U T C r t k)) (zn k) M1) (fun k M1 => M1.2 = M.2 ∧ (∀ c, c ≠ 72 ∧ c ≠ 84 → M1.1 c = M.1 c) ∧ ∀ i, i < 5 → M1.1 72 i = zn (zk_kn S r t k i)) (fun o => ∃ M1, o = some (zn (zk_ws S W U T C r t (S 0 0)), M1) ∧ M1.2 = M.2 ∧ (∀ c, c ≠ 72 ∧ c ≠ 84 → M1.1 c = M.1 c) ∧ ∀ i, i < 5 → M1.1 72 i = zn (zk_kn S r t (S 0 0) i)) (S 0 0) ?_ ?_ N 0 M (by omega) (by omega) ⟨rfl, fun _ _ => rfl, fun i hi => by rw [hM.2.2.2.2.2.1 i hi]; unfold zk_kn; rw [if_neg (by omega)]⟩
  · intro g k M1 hk ⟨f1, f2, f3⟩ ih
    have hwk := hwl k
    have hM1 : zyM (zS4 S (zk_kn S r t k)) M1 := zS4_M (fun k hk => by rw [f2 69 (by omega)]) (fun c h1 h2 h3 => f2 c (by omega)) f3 hM
    have hL1 : zyL M1 (zS4 S (zk_kn S r t k)) b C W U F T := ⟨hM1, zyD_fr (by rw [f2 69 (by omega)]) (fun c h1 h2 => f2 c (by omega)) hL.2⟩
    have hB1 : zyB (zS4 S (zk_kn S r t k)) := zS4_B (fun i hi => zk_knl hS hi ht) hS
    obtain ⟨M2, m1, m2⟩ := zh_sumM (N := N) (w := 2) (p := k) (r := r) (n := zp_nw S r - 1) (t := t) hN hB1 hL1 hx (by omega) (by omega) hr (by omega) (by omega)
    have hkk : zk_kn S r t k k = S 4 k := by unfold zk_kn; rw [if_neg (by omega)]
    have h72 := f3 k (by omega)
    rw [hkk] at h72
    have hk4 := hS.2.2.2.2.2.2.1 k (by omega)
    unfold b_X11_said_27
    rw [show M1.1 69 0 = zn (S 0 0) from hM1.1, show M1.1 69 1 = zn (zv_pk (S 3)) from hM1.2.1, zy_plM N M1 (by omega) (zy_wl hS), zy_plc hS (by omega)]
    simp only [Option.bind_some]
    have g1 : (zn (S 0 0) ≤ zn k) = (S 0 0 ≤ k) := zn_le (by omega) (by omega)
    have g2 : (zn (S 3 k) = zn r) = (S 3 k = r) := zn_eq (by have := hS.2.2.2.2.2.1 k (by omega); omega) (by omega)
    have g3 : (zn k : Int32) + 1 = zn (k + 1) := zn_add _ 1
    simp only [g1, g2, g3]
    rw [if_neg (by omega)]
    rw [zk_wss] at ih
    have upd : ∀ v : Nat, v = (if S 3 k = r then S 4 k ||| 2 ^ t else S 4 k) → ∀ i, i < 5 → (if i = k then zn v else zn (zk_kn S r t k i)) = zn (zk_kn S r t (k + 1) i) := by
      intro v hv i hi
      rw [zk_kns]
      by_cases e : i = k
      · rw [if_pos e, if_pos e, hv]
      · rw [if_neg e, if_neg e]
    by_cases c1 : S 3 k = r
    · rw [if_neg (fun h => h c1), zn_ck (by omega) (by omega), zn_ix (by omega), h72, zy_hasM N M1 (by omega) (by omega)]
      simp only [Option.bind_some]
      by_cases c2 : zs_bit (S 4 k) t = true
      · rw [if_pos c2, if_neg (by decide)]
        rw [if_neg (fun h => h.2 c2), Nat.add_zero] at ih
        refine ih M1 ⟨f1, f2, fun i hi => ?_⟩
        rw [f3 i hi, ← upd (S 4 k) (by rw [if_pos c1, zk_orb c2]) i hi]
        by_cases e : i = k
        · rw [if_pos e, e, hkk]
        · rw [if_neg e]
      · rw [if_neg c2, if_pos rfl, zl_2, m1]
        rw [if_pos ⟨c1, c2⟩] at ih
        simp only [Option.bind_some, zq_p, zq_b]
        rw [zn_ck (by omega) (by omega), zn_ck (by omega) (by omega)]
        have e72 : M2.1 72 k = zn (S 4 k) := by rw [m2.2 72 (by omega)]; exact h72
        have h1s : zq_shl (1 : Int32) (zn t) = zn (2 ^ t) := by rw [zl_1, zn_shl (by omega), Nat.one_mul]
        rw [e72, h1s, zn_or, zn_add]
        refine ih _ ⟨?_, ?_, ?_⟩
        · show M2.2 = M.2
          rw [m2.1]; exact f1
        · intro c hc
          rw [zq_un (by omega), m2.2 c (by omega)]; exact f2 c hc
        · intro i hi
          rw [zq_g1, ← upd (S 4 k ||| 2 ^ t) (by rw [if_pos c1]) i hi]
          by_cases e : i = k
          · rw [if_pos ⟨rfl, e⟩, if_pos e]
          · rw [if_neg (fun h => e h.2), if_neg e, m2.2 72 (by omega)]; exact f3 i hi
    · rw [if_pos c1]
      rw [if_neg (fun h => c1 h.1), Nat.add_zero] at ih
      refine ih M1 ⟨f1, f2, fun i hi => ?_⟩
      rw [f3 i hi, ← upd (S 4 k) (by rw [if_neg c1]) i hi]
      by_cases e : i = k
      · rw [if_pos e, e, hkk]
      · rw [if_neg e]
  · intro g M1 ⟨f1, f2, f3⟩
    unfold b_X11_said_27
    rw [f2 69 (by omega), hM.1, if_pos (by rw [zn_le (by omega) (by omega)]; omega)]
    exact ⟨M1, rfl, f1, f2, f3⟩
theorem zy_woX {N j h C p r t : Nat} {X : zq_M} {S : Nat → Nat → Nat} {W U E : Nat → Nat} {T : Nat → List Nat} (hN : 120 < N) (hS : zyB S) (hK : zyK j X S h C W U E T) (hp : p < 5) (hr : r < 4) (ht : t < 8) : ∃ X1, f_X6_worthTo N j X (zn p) (zn r) (zn t) = some (zn (zp_wo S W U T C p r (zp_nw S r - 1) t), X1) ∧ zf1 36 X X1 := by
  have hn := hS.1
  have hl := zs_l32 (fun p => S 3 p == r) hn
  have hnl := zp_nwl hS r
  obtain ⟨X1, e1, e2, e3⟩ := zh_set (N := N) (j := j) (n := zp_nw S r - 1) (t := t) hS hK.1 hp hr
  obtain ⟨a1, a2, a3, a4, a5⟩ := zyK_1 (by omega) e2 hK
  refine ⟨X1, ?_, e2⟩
  unfold f_X6_worthTo zp_wo
  rw [zy_who (n := S 0 0) (P := S 3) (by omega) hK.1.1 hn hK.1.2.2.2.2.1 hS.2.2.2.2.2.1 hr]
  simp only [Option.bind_some]
  rw [zb_c N _ X (by omega), zs_cext _ (by omega)]
  simp only [Option.bind_some]
  rw [show zs_cnt (fun p => S 3 p == r) (S 0 0) = zp_nw S r - 1 from rfl, e1]
  simp only [Option.bind_some, a2, zq_nn, a3, if_true]
  rw [zl_2, zh_tog hN a5 (by omega) e3 (zf_l hS hp hr (by omega) (by omega))]
  simp only [Option.bind_some]
theorem zy_sayX {N j h C p t : Nat} {X : zq_M} {S : Nat → Nat → Nat} {W U E : Nat → Nat} {T : Nat → List Nat} (hN : 120 < N) (hS : zyB S) (hK : zyK j X S h C W U E T) (hp : p < S 0 0) (ht : t < 8) : ∃ X1, zq_loop (fun _ _ _ => none) (b_X10_say_59 N j (zn p) (zn t) X) N (0 : Int32) (0 : Int32) X = some (zn (zk_ws S W U T C (S 3 p) t (S 0 0)), X1) ∧ X1.2 = X.2 ∧ (∀ c, c ≠ 5 ∧ c ≠ 36 → X1.1 c = X.1 c) ∧ ∀ i, i < 5 → X1.1 5 i = zn (zk_kn S (S 3 p) t (S 0 0) i) := by
  have hn := hS.1
  have hr := hS.2.2.2.2.2.1 p (by omega)
  have hX := hK.1
  have hx := hK.2.2.2.2
  have hwl := fun k => zk_wsl (S := S) (r := S 3 p) (t := t) hx k
  have hnl := zp_nwl hS (S 3 p)
  have h4p : X.1 4 (zq_ix (zn p)) = zn (S 3 p) := by rw [zn_ix (by omega)]; exact hX.2.2.2.2.1 p (by omega)
  generalize hrr : S 3 p = r at *
  refine zL (α := Int32 → Int32 → zq_M → Option (Int32 × zq_M)) (fun (M1 : zq_M) k g => g (zn (zk_ws S W U T C r t k)) (zn k) M1) (fun k M1 => M1.2 = X.2 ∧ (∀ c, c ≠ 5 ∧ c ≠ 36 → M1.1 c = X.1 c) ∧ ∀ i, i < 5 → M1.1 5 i = zn (zk_kn S r t k i)) (fun o => ∃ M1, o = some (zn (zk_ws S W U T C r t (S 0 0)), M1) ∧ M1.2 = X.2 ∧ (∀ c, c ≠ 5 ∧ c ≠ 36 → M1.1 c = X.1 c) ∧ ∀ i, i < 5 → M1.1 5 i = zn (zk_kn S r t (S 0 0) i)) (S 0 0) ?_ ?_ N 0 X (by omega) (by omega) ⟨rfl, fun _ _ => rfl, fun i hi => by rw [hX.2.2.2.2.2.1 i hi]; unfold zk_kn; rw [if_neg (by omega)]⟩
  · intro g k M1 hk ⟨f1, f2, f3⟩ ih
    have hwk := hwl k
    have hM1 : zyX (zS4 S (zk_kn S r t k)) M1 := zS4_X (fun c h1 h2 => f2 c (by omega)) f3 hX
    have hL1 : zyK j M1 (zS4 S (zk_kn S r t k)) h C W U E T := ⟨hM1, by rw [f1]; exact hK.2.1, hK.2.2.1, hK.2.2.2.1, zh_x_fr (fun c h1 h2 => f2 c (by have := hK.2.2.2.1; omega)) hx⟩
    have hB1 : zyB (zS4 S (zk_kn S r t k)) := zS4_B (fun i hi => zk_knl hS hi ht) hS
    obtain ⟨M2, m1, m2⟩ := zy_woX (N := N) (p := k) (r := r) (t := t) hN hB1 hL1 (by omega) hr ht
    have hkk : zk_kn S r t k k = S 4 k := by unfold zk_kn; rw [if_neg (by omega)]
    have h72 := f3 k (by omega)
    rw [hkk] at h72
    have hk4 := hS.2.2.2.2.2.2.1 k (by omega)
    unfold b_X10_say_59
    rw [h4p, show M1.1 1 0 = zn (S 0 0) from hM1.1, zn_ck (by omega) (by omega), zn_ix (by omega), show M1.1 4 k = zn (S 3 k) from hM1.2.2.2.2.1 k (by omega)]
    have g1 : (zn (S 0 0) ≤ zn k) = (S 0 0 ≤ k) := zn_le (by omega) (by omega)
    have g2 : (zn (S 3 k) = zn r) = (S 3 k = r) := zn_eq (by have := hS.2.2.2.2.2.1 k (by omega); omega) (by omega)
    have g3 : (zn k : Int32) + 1 = zn (k + 1) := zn_add _ 1
    simp only [g1, g2, g3]
    rw [if_neg (by omega)]
    rw [zk_wss] at ih
    have upd : ∀ v : Nat, v = (if S 3 k = r then S 4 k ||| 2 ^ t else S 4 k) → ∀ i, i < 5 → (if i = k then zn v else zn (zk_kn S r t k i)) = zn (zk_kn S r t (k + 1) i) := by
      intro v hv i hi
      rw [zk_kns]
      by_cases e : i = k
      · rw [if_pos e, if_pos e, hv]
      · rw [if_neg e, if_neg e]
    by_cases c1 : S 3 k = r
    · rw [if_neg (fun h => h c1), zy_knX (h := 1) (K := fun _ => S 4 k) (by omega) ht h72 hk4]
      simp only [Option.bind_some]
      by_cases c2 : zs_bit (S 4 k) t = true
      · rw [if_pos c2, if_pos (by decide)]
        rw [if_neg (fun h => h.2 c2), Nat.add_zero] at ih
        refine ih M1 ⟨f1, f2, fun i hi => ?_⟩
        rw [f3 i hi, ← upd (S 4 k) (by rw [if_pos c1, zk_orb c2]) i hi]
        by_cases e : i = k
        · rw [if_pos e, e, hkk]
        · rw [if_neg e]
      · rw [if_neg c2, if_neg (by decide), m1]
        rw [if_pos ⟨c1, c2⟩] at ih
        simp only [Option.bind_some, zq_p, zq_b]
        rw [zn_ck (by omega) (by omega), zn_ck (by omega) (by omega)]
        have e72 : M2.1 5 k = zn (S 4 k) := by rw [m2.2 5 (by omega)]; exact h72
        have h1s : zq_shl (1 : Int32) (zn t) = zn (2 ^ t) := by rw [zl_1, zn_shl (by omega), Nat.one_mul]
        rw [e72, h1s, zn_or, zn_add]
        refine ih _ ⟨?_, ?_, ?_⟩
        · show M2.2 = X.2
          rw [m2.1]; exact f1
        · intro c hc
          rw [zq_un (by omega), m2.2 c (by omega)]; exact f2 c hc
        · intro i hi
          rw [zq_g1, ← upd (S 4 k ||| 2 ^ t) (by rw [if_pos c1]) i hi]
          by_cases e : i = k
          · rw [if_pos ⟨rfl, e⟩, if_pos e]
          · rw [if_neg (fun h => e h.2), if_neg e, m2.2 5 (by omega)]; exact f3 i hi
    · rw [if_pos c1]
      rw [if_neg (fun h => c1 h.1), Nat.add_zero] at ih
      refine ih M1 ⟨f1, f2, fun i hi => ?_⟩
      rw [f3 i hi, ← upd (S 4 k) (by rw [if_neg c1]) i hi]
      by_cases e : i = k
      · rw [if_pos e, e, hkk]
      · rw [if_neg e]
  · intro g M1 ⟨f1, f2, f3⟩
    unfold b_X10_say_59
    rw [f2 1 (by omega), hX.1, if_pos (by rw [zn_le (by omega) (by omega)]; omega)]
    exact ⟨M1, rfl, f1, f2, f3⟩
