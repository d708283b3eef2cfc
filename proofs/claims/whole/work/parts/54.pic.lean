theorem zv_bz {X : zq_M} {c k m : Nat} (hm : m ≤ 2147483648) (h : zv_bd X c k m) : X.1 c k = zn (zx X c k) ∧ zx X c k < m := by
  obtain ⟨a, h1, h2⟩ := h
  have : zx X c k = a := by unfold zx; rw [h2, zn_ix (by omega)]
  rw [this]
  exact ⟨h2, h1⟩
def zyS (X : zq_M) (same : Nat) : Nat → Nat → Nat := fun c i => if c = 0 then (if i = 0 then zx X 1 0 else if i = 1 then zx X 1 7 else same) else zx X (c + 1) i
def zyC (M : zq_M) (C : Nat) (W U : Nat → Nat) (T : Nat → List Nat) : Prop := (M.1 69 11 = -1 ∧ C = 0) ∨ ∃ i F, M.1 69 11 = zn i ∧ zh_m M i C W U F T
def zyD (M : zq_M) (b C : Nat) (W U F : Nat → Nat) (T : Nat → List Nat) : Prop := b + C ≤ 60 ∧ (∀ N, f_X11_first N M = some (zn b)) ∧ (∀ N, f_X11_behind N M = some (zn (b + C))) ∧ ∀ c, c < C → M.1 77 (b + c) = zn (W c) ∧ (W c ≠ 1 → M.1 78 (b + c) = zn (U c)) ∧ (W c ≠ 3 → F c + (T c).length ≤ 600 ∧ M.1 79 (b + c) = zn (F c) ∧ M.1 80 (b + c) = zn (F c + (T c).length) ∧ ∀ t k, (T c)[t]? = some k → M.1 81 (F c + t) = zt_cm k)
theorem zyC_D {M : zq_M} {C : Nat} {W U : Nat → Nat} {T : Nat → List Nat} (hC : C ≤ 10) (h : zyC M C W U T) : ∃ b F, zyD M b C W U F T := by
  rcases h with ⟨h1, h2⟩ | ⟨i, F, h1, h2, h3, h4⟩
  · refine ⟨0, fun _ => 0, by omega, ?_, ?_, fun c hc => by omega⟩
    · intro N
      unfold f_X11_first
      rw [h1, if_neg (by decide)]; rfl
    · intro N
      unfold f_X11_behind
      rw [h1, if_neg (by decide), h2]; rfl
  · have q10 : (10 : Int32) = zn 10 := rfl
    have b1 : (0 ≤ zn i) = (0 ≤ i) := zn_le (a := 0) (by omega) (by omega)
    refine ⟨10 * i, F, by omega, ?_, ?_, ?_⟩
    · intro N
      unfold f_X11_first
      simp only [h1, b1]
      rw [if_pos (by omega), q10, zn_mul]
    · intro N
      unfold f_X11_behind
      simp only [h1, b1]
      rw [if_pos (by omega), zn_ck (by omega) (by omega), zn_ix (by omega), h3, q10, zn_mul, zn_add]
    · intro c hc
      obtain ⟨g1, g2, g3⟩ := h4 c hc
      refine ⟨g1, g2, fun hw => ?_⟩
      obtain ⟨k1, k2⟩ := g3 hw
      exact ⟨by omega, k2⟩
theorem zyD_fr {M M1 : zq_M} {b C : Nat} {W U F : Nat → Nat} {T : Nat → List Nat} (h0 : M1.1 69 11 = M.1 69 11) (ha : ∀ c, 76 ≤ c → c ≤ 81 → M1.1 c = M.1 c) (h : zyD M b C W U F T) : zyD M1 b C W U F T := by
  obtain ⟨h1, h2, h3, h4⟩ := h
  refine ⟨h1, fun N => ?_, fun N => ?_, ?_⟩
  · rw [← h2 N]; unfold f_X11_first; rw [h0]
  · rw [← h3 N]; unfold f_X11_behind; rw [h0, ha 76 (by omega) (by omega)]
  · rw [ha 77 (by omega) (by omega), ha 78 (by omega) (by omega), ha 79 (by omega) (by omega), ha 80 (by omega) (by omega), ha 81 (by omega) (by omega)]
    exact h4
theorem zh_samel {W U : Nat → Nat} : ∀ C, (∀ c, c < C → U c < 100) → zh_same W U C < 100 := by
  intro C
  induction C with
  | zero => intro _; show 0 < 100; omega
  | succ C ih =>
    intro h
    show (if W C = 3 then U C else zh_same W U C) < 100
    by_cases h3 : W C = 3
    · rw [if_pos h3]; exact h C (by omega)
    · rw [if_neg h3]; exact ih (fun c hc => h c (by omega))
def zyA (N q j : Nat) (X M : zq_M) (S : Nat → Nat → Nat) (h C : Nat) (W U E : Nat → Nat) (T : Nat → List Nat) : Prop :=
  zyB S ∧ S 0 1 ≤ q ∧ zyX S X ∧ zyM S M ∧ f_X10_holding N j X = some h ∧ zq_ho (zq_shX j) h = true ∧ (h = 23 ∨ 111 ≤ h) ∧ zh_x X h C W U E T ∧ S 0 3 = zh_same W U C ∧ zyC M C W U T
theorem zy_pic {q j : Nat} {X M : zq_M} (N : Nat) (hq : q < 512) (hI : zI q j X M) : ∃ S h C W U E T, zyA N q j X M S h C W U E T := by
  obtain ⟨⟨⟨a1, a2, a3, a4, a5, a6, a7, a8, a9, a10, a11, a12, a13, a14, a15, a16, a17⟩, ⟨e1, e2, e3, e4, e5, e6, e7, e8, e9, e10, e11, e12, e13, e14, e15⟩⟩, -, -, -, -, ⟨k1, k2, k3, k4, k5, k6, -⟩⟩ := hI
  have hold : ∃ h C W U E T, f_X10_holding N j X = some h ∧ zq_ho (zq_shX j) h = true ∧ (h = 23 ∨ 111 ≤ h) ∧ zh_x X h C W U E T ∧ zyC M C W U T := by
    obtain ⟨m6, n6⟩ := zv_bz (by omega) k1
    rcases a15 with a15 | a15
    · refine ⟨23, 0, fun _ => 0, fun _ => 0, fun _ => 0, fun _ => [], ?_, zho_23 j, Or.inl rfl, ⟨by omega, k3, k4, rfl, fun c hc => by omega⟩, Or.inl ⟨by rw [e5, a15], rfl⟩⟩
      unfold f_X10_holding
      rw [zw_x, a15]
      simp only [Option.bind_some]
      rw [if_pos (by rw [if_pos (Or.inl (by decide))])]
    · obtain ⟨m14, n14⟩ := zv_bz (by omega) a15
      obtain ⟨h, b1, b2, b3⟩ := k6 (zx X 1 14) n14
      obtain ⟨C, W, U, E, F, T, c1, c2⟩ := b3
      refine ⟨111 + 5 * h, C, W, U, E, T, ?_, zq_hno j h b1, Or.inr (by omega), c1, Or.inr ⟨zx X 1 14, F, by rw [e5, m14], c2⟩⟩
      unfold f_X10_holding
      rw [zw_x, m14, m6]
      simp only [Option.bind_some]
      have d1 : (zn (zx X 1 14) < 0) = (zx X 1 14 < 0) := zn_lt (b := 0) (by omega) (by omega)
      have d2 : ¬ (zn (zx X 0 6) - 1 < zn (zx X 1 14)) := by
        rw [Int32.lt_iff_toInt_lt, zw_n1 (by omega), zn_ti (by omega)]; omega
      have d3 : ¬ (zn (zx X 1 14) < 0 ∨ zn (zx X 0 6) - 1 < zn (zx X 1 14)) := by
        rw [d1]
        rintro (x | x)
        · omega
        · exact d2 x
      rw [if_neg (by rw [if_neg d3]; decide), zn_ck (by omega) (by omega), zn_ix (by omega), b2]
      simp only [zq_nn, zq_hno j h b1, if_true]
  obtain ⟨h, C, W, U, E, T, c1, c2, c3, c4, c5⟩ := hold
  have hsame := zh_samel (W := W) (U := U) C (fun c hc => (c4.2.2.2.2 c hc).2.1)
  obtain ⟨m0, n0⟩ := zv_bz (by omega) a1
  obtain ⟨m8, n8⟩ := zv_bz (by omega) a8
  refine ⟨zyS X (zh_same W U C), h, C, W, U, E, T, ?_, ?_, ?_, ?_, c1, c2, c3, c4, rfl, c5⟩
  · refine ⟨?_, ?_, hsame, fun i hi => (zv_bz (by omega) (a2 i hi)).2, fun i hi => (zv_bz (by omega) (a3 i hi)).2, fun i hi => (zv_bz (by omega) (a4 i hi)).2, fun i hi => (zv_bz (by omega) (a5 i hi)).2, fun i hi => (zv_bz (by omega) (a6 i hi)).2, fun i hi => (zv_bz (by omega) (a7 i hi)).2, ?_⟩
    · show zx X 1 0 ≤ 5; omega
    · show zx X 1 7 < 10000; omega
    · intro i hi h2
      show zx X 4 i = 0
      unfold zx
      rw [a16 i hi h2]; rfl
  · show zx X 1 7 ≤ q; omega
  · exact ⟨m0, m8, fun i hi => (zv_bz (by omega) (a2 i hi)).1, fun i hi => (zv_bz (by omega) (a3 i hi)).1, fun i hi => (zv_bz (by omega) (a4 i hi)).1, fun i hi => (zv_bz (by omega) (a5 i hi)).1, fun i hi => (zv_bz (by omega) (a6 i hi)).1, fun i hi => (zv_bz (by omega) (a7 i hi)).1⟩
  · refine ⟨e1.trans m0, e2, e3.trans m8, fun i hi => (e8 i hi).trans (zv_bz (by omega) (a2 i hi)).1, fun i hi => (e9 i hi).trans (zv_bz (by omega) (a3 i hi)).1, fun i hi => (e10 i hi).trans (zv_bz (by omega) (a5 i hi)).1, fun i hi => (e11 i hi).trans (zv_bz (by omega) (a6 i hi)).1, fun i hi => (e12 i hi).trans (zv_bz (by omega) (a7 i hi)).1⟩
theorem zy_sameD {N b C : Nat} {M : zq_M} {W U F : Nat → Nat} {T : Nat → List Nat} (hN : 12 < N) (hC : C ≤ 10) (hW : ∀ c, c < C → W c < 4) (h : zyD M b C W U F T) : f_X11_sameNow N M = some (zn (zh_same W U C)) := by
  obtain ⟨h1, h2, h3, h4⟩ := h
  unfold f_X11_sameNow
  rw [h2]
  simp only [Option.bind_some]
  refine zL (α := Int32 → Int32 → Option Int32) (fun (_ : Unit) k f => f (zn (zh_same W U k)) (zn (b + k))) (fun _ _ => True) (fun o => o = some (zn (zh_same W U C))) C ?_ ?_ N 0 () (by omega) (by omega) trivial
  · intro f k _ hk _ ih
    have ih := ih () trivial
    obtain ⟨g1, g2, -⟩ := h4 k hk
    have hw := hW k hk
    unfold b_X11_sameNow_7
    rw [h3]
    simp (disch := omega) only [zl_0, zl_1, zl_2, zl_3, zl_4, zl_5, zl_6, zn_ck, zn_ix, zn_add, zn_sub, zn_mul, zn_le, zn_lt, zn_eq, zn_plc1, zn_shl, zn_or, zn_bitc, Option.bind_some, zq_p, zq_b, Nat.one_mul, Nat.zero_add, Nat.add_zero, g1]
    rw [if_neg (by omega)]
    by_cases c : W k = 3
    · rw [if_neg (fun h => h c), g2 (by omega)]
      rw [show zh_same W U (k + 1) = U k from if_pos c] at ih
      exact ih
    · rw [if_pos c]
      rw [show zh_same W U (k + 1) = zh_same W U k from if_neg c] at ih
      exact ih
  · intro f _ _
    unfold b_X11_sameNow_7
    rw [h3]
    simp (disch := omega) only [zl_0, zl_1, zl_2, zl_3, zl_4, zl_5, zl_6, zn_ck, zn_ix, zn_add, zn_sub, zn_mul, zn_le, zn_lt, zn_eq, zn_plc1, zn_shl, zn_or, zn_bitc, Option.bind_some, zq_p, zq_b, Nat.one_mul, Nat.zero_add, Nat.add_zero]
    rw [if_pos (by omega)]
theorem zy_sameA {N q j h C : Nat} {X M : zq_M} {S : Nat → Nat → Nat} {W U E : Nat → Nat} {T : Nat → List Nat} (hN : 12 < N) (h : zyA N q j X M S h C W U E T) : f_X11_sameNow N M = some (zn (S 0 3)) := by
  obtain ⟨-, -, -, -, -, -, -, a, b, c⟩ := h
  obtain ⟨b1, F, hD⟩ := zyC_D a.1 c
  rw [b]
  exact zy_sameD hN a.1 (fun c hc => (a.2.2.2.2 c hc).1) hD
theorem zyX_fr {S : Nat → Nat → Nat} {X X1 : zq_M} (h : ∀ c, c ≤ 7 → X1.1 c = X.1 c) (hX : zyX S X) : zyX S X1 := by
  unfold zyX at hX ⊢
  rw [h 1 (by omega), h 2 (by omega), h 3 (by omega), h 4 (by omega), h 5 (by omega), h 6 (by omega), h 7 (by omega)]
  exact hX
theorem zyM_fr {S : Nat → Nat → Nat} {M M1 : zq_M} (h0 : ∀ k, k < 3 → M1.1 69 k = M.1 69 k) (h : ∀ c, 70 ≤ c → c ≤ 74 → M1.1 c = M.1 c) (hM : zyM S M) : zyM S M1 := by
  unfold zyM at hM ⊢
  rw [h0 0 (by omega), h0 1 (by omega), h0 2 (by omega), h 70 (by omega) (by omega), h 71 (by omega) (by omega), h 72 (by omega) (by omega), h 73 (by omega) (by omega), h 74 (by omega) (by omega)]
  exact hM
theorem zyC_fr {M M1 : zq_M} {C : Nat} {W U : Nat → Nat} {T : Nat → List Nat} (h0 : M1.1 69 11 = M.1 69 11) (ha : ∀ c, 76 ≤ c → (c ≤ 81 ∨ c = 83) → M1.1 c = M.1 c) (h : zyC M C W U T) : zyC M1 C W U T := by
  rcases h with ⟨h1, h2⟩ | ⟨i, F, h1, h2⟩
  · exact Or.inl ⟨h0.trans h1, h2⟩
  · exact Or.inr ⟨i, F, h0.trans h1, zh_m_fr ha h2⟩
theorem zy_plc {S : Nat → Nat → Nat} (hS : zyB S) {i : Nat} (hi : i < 5) : zv_pk (S 3) / 4 ^ i % 4 = S 3 i := zv_pk_at hS.2.2.2.2.2.1 hi
theorem zy_wl {S : Nat → Nat → Nat} (hS : zyB S) : zv_pk (S 3) < 1024 := zv_pk_lt hS.2.2.2.2.2.1
theorem zy_wln {S : Nat → Nat → Nat} (hS : zyB S) : zv_pk (S 3) < 4 ^ S 0 0 := zp_pk0 hS.1 hS.2.2.2.2.2.1 hS.2.2.2.2.2.2.2.2.2
theorem zk_spcg {S : Nat → Nat → Nat} {r g p : Nat} {T T1 : Nat → Bool} (h : ∀ q, q < S 0 0 → T q = T1 q) (hp : p < S 0 0) : zk_sp S r T g p = zk_sp S r T1 g p := by
  unfold zk_sp zk_near zk_rk
  have e1 : zs_cnt T (S 0 0) = zs_cnt T1 (S 0 0) := zs_ccg h
  have e2 : zs_cnt (fun q => T q && zk_lt (zk_s S r) p q) (S 0 0) = zs_cnt (fun q => T1 q && zk_lt (zk_s S r) p q) (S 0 0) := zs_ccg (fun k hk => by rw [h k hk])
  have e3 : zs_any (fun q => !(q == p) && T q && decide (zk_s S r q ≤ zk_s S r p + S 0 3) && decide (zk_s S r p ≤ zk_s S r q + S 0 3)) (S 0 0) = zs_any (fun q => !(q == p) && T1 q && decide (zk_s S r q ≤ zk_s S r p + S 0 3) && decide (zk_s S r p ≤ zk_s S r q + S 0 3)) (S 0 0) := by
    rw [Bool.eq_iff_iff, zs_any_iff, zs_any_iff]
    constructor
    · rintro ⟨k, a, b⟩; exact ⟨k, a, by rw [← h k a]; exact b⟩
    · rintro ⟨k, a, b⟩; exact ⟨k, a, by rw [h k a]; exact b⟩
  rw [h p hp, e1, e2, e3]
theorem zy_now {N q j h C r : Nat} {X M : zq_M} {S : Nat → Nat → Nat} {W U E : Nat → Nat} {T : Nat → List Nat} (hN : 12 < N) (hA : zyA N q j X M S h C W U E T) (hr : r < 4) : ∃ X1, f_X10_speakersNow N j X (zn r) = some (zn (zs_set (fun p => decide (r < 3) && zk_sp S r (fun p => S 3 p == r) (S 0 1) p) (S 0 0)), X1) ∧ zfx X X1 ∧ (∀ c, c ≠ 37 → X1.1 c = X.1 c) ∧ X1.2.2 35 1 = some h := by
  obtain ⟨hS, hq, hX, hM, a1, a2, a3, a4, a5, a6⟩ := hA
  unfold f_X10_speakersNow
  rw [a1]
  simp only [Option.bind_some, a2, zq_gd, if_true, f_X6_look, zq_b]
  have hX1 : zyX S (zq_u3 X 35 1 (some h)) := zyX_fr (fun c hc => rfl) hX
  have hH1 : zyH j S (zq_u3 X 35 1 (some h)) h := ⟨by rw [zq_g3, if_pos ⟨rfl, rfl⟩], a2, by rw [zq_g31, a4.2.2.1, a5], a3⟩
  have hb1 := hS.2.1
  rw [zy_who (n := S 0 0) (P := S 3) (by omega) hX1.1 hS.1 hX1.2.2.2.2.1 hS.2.2.2.2.2.1 hr]
  simp only [Option.bind_some]
  rw [hX1.2.1]
  obtain ⟨X1, e1, e2⟩ := zy_spX (N := N) (j := j) (t := zs_set (fun p => S 3 p == r) (S 0 0)) (r := r) (g := S 0 1) (by omega) hS hX1 (zs_lt _ _) hr (by omega) hH1
  rw [e1]
  refine ⟨X1, ?_, ?_, ?_, ?_⟩
  · simp only [Option.bind_some, zq_p]
    have e : zs_set (fun p => decide (r < 3) && zk_sp S r (zs_bit (zs_set (fun p => S 3 p == r) (S 0 0))) (S 0 1) p) (S 0 0) = zs_set (fun p => decide (r < 3) && zk_sp S r (fun p => S 3 p == r) (S 0 1) p) (S 0 0) := zs_scg (fun p hp => by rw [zk_spcg (T := zs_bit (zs_set (fun p => S 3 p == r) (S 0 0))) (T1 := fun p => S 3 p == r) (fun q hq => zs_bset (fun p => S 3 p == r) hq) hp])
    rw [e]
  · refine ⟨fun c hc => e2.2 c (by omega), by rw [e2.2 54 (by omega)]; rfl, by rw [e2.1]; rfl, ?_, ?_⟩
    · rw [e2.1]; funext k; rw [zq_g3, if_neg (by omega)]
    · rw [e2.1]; funext k; rw [zq_g3, if_neg (by omega)]
  · intro c hc; rw [e2.2 c hc]; rfl
  · rw [e2.1]; exact hH1.1
theorem zy_nowM {N q j h C p : Nat} {X M : zq_M} {S : Nat → Nat → Nat} {W U E : Nat → Nat} {T : Nat → List Nat} (hN : 12 < N) (h : zyA N q j X M S h C W U E T) (hp : p < S 0 0) : f_X11_maySpeak N (zq_u1 M 69 9 (zn (S 0 3))) (zn (zv_pk (S 3))) (zn p) (zn (S 0 1)) = some (if (decide (S 3 p < 3) && zk_sp S (S 3 p) (fun q => S 3 q == S 3 p) (S 0 1) p) = true then 1 else 0) := by
  obtain ⟨hS, hq, hX, hM, -⟩ := h
  have hb1 := hS.2.1
  have hn := hS.1
  rw [zy_msM (N := N) (by omega) hS (zyM_fr (M := M) (fun k hk => zq_us1 (by omega)) (fun c hc hc2 => zq_un (by omega)) hM) (by rw [zq_g1, if_pos ⟨rfl, rfl⟩]) (zy_wl hS) hp (by omega)]
  rw [zy_plc hS (by omega)]
  rw [zk_spcg (T1 := fun q => S 3 q == S 3 p) (fun q hq => by rw [zy_plc hS (by omega)]) hp]
theorem zI_told (N : Nat) (hN : 12 < N) : zq_op_told N zI := by
  intro q j X M a hq hI
  have hI1 := zI_idle q j X M hI
  obtain ⟨S, h, C, W, U, E, T, hA⟩ := zy_pic N hq hI
  have hs := zy_sameA hN hA
  obtain ⟨hS, hq1, hX, hM, a1, a2, a3, a4, a5, a6⟩ := hA
  unfold f_X10_told f_X11_told
  rw [a1, hs]
  simp only [Option.bind_some, a2, zq_gd, if_true]
  obtain ⟨-, -, e3, e4, -⟩ := hI.1.2
  by_cases c0 : a = 0
  · rw [if_pos c0, if_neg (fun h => h c0), a4.2.2.1, a5]
    exact ⟨_, rfl, rfl, hI1⟩
  rw [if_neg c0, if_pos c0]
  by_cases c1 : a = 1
  · rw [if_pos c1, if_neg (fun h => h c1), e3]
    exact ⟨_, rfl, rfl, hI1⟩
  rw [if_neg c1, if_pos c1]
  by_cases c2 : a = 2
  · rw [if_pos c2, if_neg (fun h => h c2), e4]
    exact ⟨_, rfl, rfl, hI1⟩
  rw [if_neg c2, if_pos c2]
  exact ⟨_, rfl, rfl, hI1⟩
