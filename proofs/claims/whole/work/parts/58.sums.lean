def zh_sum (W U : Nat → Nat) (v : Nat → Bool) (w : Nat) : Nat → Nat
  | 0 => 0
  | c + 1 => zh_sum W U v w c + if (W c == w && v c) = true then U c else 0
theorem zh_suml {W U : Nat → Nat} {v : Nat → Bool} {w : Nat} : ∀ C, (∀ c, c < C → U c < 100) → zh_sum W U v w C ≤ 100 * C := by
  intro C
  induction C with
  | zero => intro _; exact Nat.le_refl _
  | succ C ih =>
    intro h
    have h1 := ih (fun c hc => h c (by omega))
    have h2 := h C (by omega)
    show zh_sum W U v w C + (if (W C == w && v C) = true then U C else 0) ≤ _
    split <;> omega
theorem zh_hx {N j h C c : Nat} {X : zq_M} {W U E : Nat → Nat} {T : Nat → List Nat} {f : Nat → Nat} (hN : 120 < N) (hx : zh_x X h C W U E T) (hc : c < C) (hw : W c ≠ 3) (hf : zt_fx f X) (hfl : ∀ i, i < 6 → f i < 1000) : f_X2_holdsIn N j X h (zn c) = some (if zt_val f (T c) = true then 1 else 0) := by
  obtain ⟨h1, h2, h3, h4, h5⟩ := hx
  obtain ⟨g1, g2, g3, g4, g5, g6, g7, g8, g9⟩ := h5 c hc
  unfold f_X2_holdsIn
  have b1 : (zn c = 0) = (c = 0) := zn_eq (b := 0) (by omega) (by omega)
  simp only [b1]
  have key := zt_hx (N := N) (j := j) (h := h) (c := c) (X := X) (T := T c) (e0 := E c) (f := f) hN (by omega) (g8 hw) (by omega) (by rw [← g6]; exact g5) g9 hf hfl
  by_cases c0 : c = 0
  · rw [if_neg (fun h => h c0)]
    rw [show E c = 0 by rw [c0]; exact h4] at key
    exact key
  · rw [if_pos c0]
    have k5 := (h5 (c - 1) (by omega)).2.2.2.2.1
    rw [show c - 1 + 1 = c by omega] at k5
    rw [zl_1, zn_sub (by omega), zn_ck (by omega) (by omega), zn_ix (by omega), k5]
    exact key
theorem zh_tog {N j h C w : Nat} {X : zq_M} {W U E : Nat → Nat} {T : Nat → List Nat} {f : Nat → Nat} (hN : 120 < N) (hx : zh_x X h C W U E T) (hw : w < 3) (hf : zt_fx f X) (hfl : ∀ i, i < 6 → f i < 1000) : f_X2_together N j X h (zn w) = some (zn (zh_sum W U (fun c => zt_val f (T c)) w C)) := by
  have hx0 := hx
  obtain ⟨h1, h2, h3, h4, h5⟩ := hx
  unfold f_X2_together
  refine zL (α := Int32 → Int32 → Option Int32) (fun (_ : Unit) k g => g (zn (zh_sum W U (fun c => zt_val f (T c)) w k)) (zn k)) (fun _ _ => True) (fun o => o = some (zn (zh_sum W U (fun c => zt_val f (T c)) w C))) C ?_ ?_ N 0 () (by omega) (by omega) trivial
  · intro g k _ hk _ ih
    have ih := ih () trivial
    obtain ⟨g1, g2, g3, g4, -⟩ := h5 k hk
    have hh := fun hw3 => zh_hx (N := N) (j := j) hN hx0 hk hw3 hf hfl
    unfold b_X2_together_5
    simp (disch := omega) only [zl_0, zl_1, zl_2, zl_3, zl_4, zl_5, zl_6, zn_ck, zn_ix, zn_add, zn_sub, zn_mul, zn_le, zn_lt, zn_eq, zn_plc1, zn_shl, zn_or, zn_bitc, Option.bind_some, zq_p, zq_b, Nat.one_mul, Nat.zero_add, Nat.add_zero, h2, g3, g4]
    rw [if_neg (by omega)]
    have e : zh_sum W U (fun c => zt_val f (T c)) w (k + 1) = zh_sum W U (fun c => zt_val f (T c)) w k + if (W k == w && zt_val f (T k)) = true then U k else 0 := rfl
    rw [e] at ih
    by_cases c1 : W k = w
    · rw [if_neg (fun h => h c1), hh (by omega)]
      rw [show (W k == w) = true by simpa using c1] at ih
      simp only [Option.bind_some]
      cases hb : zt_val f (T k) with
      | false =>
        rw [hb] at ih
        rw [if_pos (by rfl)]
        exact ih
      | true =>
        rw [hb] at ih
        rw [if_neg (by decide)]
        exact ih
    · rw [if_pos c1]
      rw [show (W k == w) = false by simpa using c1] at ih
      exact ih
  · intro g _ _
    unfold b_X2_together_5
    simp (disch := omega) only [zl_0, zl_1, zl_2, zl_3, zl_4, zl_5, zl_6, zn_ck, zn_ix, zn_add, zn_sub, zn_mul, zn_le, zn_lt, zn_eq, zn_plc1, zn_shl, zn_or, zn_bitc, Option.bind_some, zq_p, zq_b, Nat.one_mul, Nat.zero_add, Nat.add_zero, h2]
    rw [if_pos (by omega)]
def zh_bar (W : Nat → Nat) (v : Nat → Bool) (C : Nat) : Bool := zs_any (fun c => W c == 1 && v c) C
theorem zh_hasb {N j h C : Nat} {X : zq_M} {W U E : Nat → Nat} {T : Nat → List Nat} {f : Nat → Nat} (hN : 120 < N) (hx : zh_x X h C W U E T) (hf : zt_fx f X) (hfl : ∀ i, i < 6 → f i < 1000) : f_X2_hasBar N j X h = some (if zh_bar W (fun c => zt_val f (T c)) C = true then 1 else 0) := by
  have hx0 := hx
  obtain ⟨h1, h2, h3, h4, h5⟩ := hx
  unfold f_X2_hasBar
  refine zL (α := Int32 → Option Int32) (fun (_ : Unit) k g => g (zn k)) (fun k _ => zh_bar W (fun c => zt_val f (T c)) k = false) (fun o => o = some (if zh_bar W (fun c => zt_val f (T c)) C = true then 1 else 0)) C ?_ ?_ N 0 () (by omega) (by omega) rfl
  · intro g k _ hk hW ih
    have ih := ih ()
    obtain ⟨g1, g2, g3, g4, -⟩ := h5 k hk
    have hh := fun hw3 => zh_hx (N := N) (j := j) hN hx0 hk hw3 hf hfl
    unfold b_X2_hasBar_2
    simp (disch := omega) only [zl_0, zl_1, zl_2, zl_3, zl_4, zl_5, zl_6, zn_ck, zn_ix, zn_add, zn_sub, zn_mul, zn_le, zn_lt, zn_eq, zn_plc1, zn_shl, zn_or, zn_bitc, Option.bind_some, zq_p, zq_b, Nat.one_mul, Nat.zero_add, Nat.add_zero, h2, g3]
    rw [if_neg (by omega)]
    by_cases c1 : W k = 1
    · rw [if_neg (fun h => h c1), hh (by omega)]
      simp only [Option.bind_some]
      cases hb : zt_val f (T k) with
      | false =>
        rw [if_pos (by rfl)]
        exact ih (zs_any_f hW (by simp [hb]))
      | true =>
        rw [if_neg (by decide)]
        have : zh_bar W (fun c => zt_val f (T c)) C = true := zs_any_iff.mpr ⟨k, hk, by simp [c1, hb]⟩
        rw [if_pos this]
    · rw [if_pos c1]
      exact ih (zs_any_f hW (by simp [c1]))
  · intro g _ hW
    unfold b_X2_hasBar_2
    simp (disch := omega) only [zl_0, zl_1, zl_2, zl_3, zl_4, zl_5, zl_6, zn_ck, zn_ix, zn_add, zn_sub, zn_mul, zn_le, zn_lt, zn_eq, zn_plc1, zn_shl, zn_or, zn_bitc, Option.bind_some, zq_p, zq_b, Nat.one_mul, Nat.zero_add, Nat.add_zero, h2]
    rw [if_pos (by omega), if_neg (by rw [hW]; decide)]
def zyK (j : Nat) (X : zq_M) (S : Nat → Nat → Nat) (h C : Nat) (W U E : Nat → Nat) (T : Nat → List Nat) : Prop := zyX S X ∧ X.2.2 35 1 = some h ∧ zq_ho (zq_shX j) h = true ∧ (h = 23 ∨ 111 ≤ h) ∧ zh_x X h C W U E T
def zyL (M : zq_M) (S : Nat → Nat → Nat) (b C : Nat) (W U F : Nat → Nat) (T : Nat → List Nat) : Prop := zyM S M ∧ zyD M b C W U F T
theorem zyK_fr {j : Nat} {X X1 : zq_M} {S : Nat → Nat → Nat} {h C : Nat} {W U E : Nat → Nat} {T : Nat → List Nat} (h2 : X1.2 = X.2) (hc : ∀ c, c ≤ 27 ∨ 111 ≤ c → X1.1 c = X.1 c) (hK : zyK j X S h C W U E T) : zyK j X1 S h C W U E T := by
  obtain ⟨a1, a2, a3, a4, a5⟩ := hK
  exact ⟨zyX_fr (fun c h => hc c (by omega)) a1, by rw [h2]; exact a2, a3, a4, zh_x_fr (fun c h1 h2 => hc c (by omega)) a5⟩
theorem zyK_1 {j c0 : Nat} {X X1 : zq_M} {S : Nat → Nat → Nat} {h C : Nat} {W U E : Nat → Nat} {T : Nat → List Nat} (h0 : 28 ≤ c0 ∧ c0 < 111) (hf : zf1 c0 X X1) (hK : zyK j X S h C W U E T) : zyK j X1 S h C W U E T := zyK_fr hf.1 (fun c hc => hf.2 c (by omega)) hK
theorem zyL_1 {c0 : Nat} {M M1 : zq_M} {S : Nat → Nat → Nat} {b C : Nat} {W U F : Nat → Nat} {T : Nat → List Nat} (h0 : 84 ≤ c0) (hf : zf1 c0 M M1) (hL : zyL M S b C W U F T) : zyL M1 S b C W U F T := ⟨zyM_fr (fun k _ => congrFun (hf.2 69 (by omega)) k) (fun c _ _ => hf.2 c (by omega)) hL.1, zyD_fr (congrFun (hf.2 69 (by omega)) 11) (fun c _ _ => hf.2 c (by omega)) hL.2⟩
theorem zh_sumM {N b C w p r n t : Nat} {M : zq_M} {S : Nat → Nat → Nat} {W U E F : Nat → Nat} {T : Nat → List Nat} {h : Nat} {X : zq_M} (hN : 120 < N) (hS : zyB S) (hL : zyL M S b C W U F T) (hx : zh_x X h C W U E T) (hw : w = 0 ∨ w = 2) (hp : p < 5) (hr : r < 4) (hn : n < 10) (ht : t < 100) : ∃ M1, f_X11_sumOf N M (zn w) (zn p) (zn r) (zn n) (zn t) = some (zn (zh_sum W U (fun c => zt_val (zf S p r n t) (T c)) w C), M1) ∧ zf1 84 M M1 := by
  obtain ⟨h1, h2, h3, h4, h5⟩ := hx
  unfold f_X11_sumOf
  rw [hL.2.2.1 N]
  simp only [Option.bind_some]
  refine zL (α := Int32 → Int32 → zq_M → Option (Int32 × zq_M)) (fun (M1 : zq_M) k g => g (zn (zh_sum W U (fun c => zt_val (zf S p r n t) (T c)) w k)) (zn (b + k)) M1) (fun _ M1 => zf1 84 M M1) (fun o => ∃ M1, o = some (zn (zh_sum W U (fun c => zt_val (zf S p r n t) (T c)) w C), M1) ∧ zf1 84 M M1) C ?_ ?_ N 0 M (by omega) (by omega) (zf1_r _ _)
  · intro g k M1 hk hf ih
    obtain ⟨l1, l2, l3, l4, l5⟩ := zyL_1 (by omega) hf hL
    obtain ⟨d1, d2, d3⟩ := l5 k hk
    obtain ⟨g1, g2, g3, g4, g5, g6, g7, g8, g9⟩ := h5 k hk
    unfold b_X11_sumOf_9
    rw [l4 N]
    simp (disch := omega) only [zl_0, zl_1, zl_2, zl_3, zl_4, zl_5, zl_6, zn_ck, zn_ix, zn_add, zn_sub, zn_mul, zn_le, zn_lt, zn_eq, zn_plc1, zn_shl, zn_or, zn_bitc, Option.bind_some, zq_p, zq_b, Nat.one_mul, Nat.zero_add, Nat.add_zero, d1]
    rw [if_neg (by omega)]
    have e : zh_sum W U (fun c => zt_val (zf S p r n t) (T c)) w (k + 1) = zh_sum W U (fun c => zt_val (zf S p r n t) (T c)) w k + if (W k == w && zt_val (zf S p r n t) (T k)) = true then U k else 0 := rfl
    rw [e] at ih
    by_cases c1 : W k = w
    · rw [if_neg (fun h => h c1)]
      obtain ⟨k1, k2, k3, k4⟩ := d3 (by omega)
      obtain ⟨M2, m1, m2⟩ := zt_hM (N := N) (ci := b + k) (n := n) (t := t) hN hS l1 (by omega) hp hr hn ht (g8 (by omega)) (by omega) k1 k2 k3 k4
      rw [m1]
      rw [show (W k == w) = true by simpa using c1] at ih
      have d2' : M2.1 78 (b + k) = zn (U k) := by rw [m2.2 78 (by omega)]; exact d2 (by omega)
      simp only [Option.bind_some, zq_p, d2']
      have ih2 := ih M2 (zf1_t hf m2)
      cases hb : zt_val (zf S p r n t) (T k) with
      | false =>
        rw [hb] at ih2
        rw [if_pos (by rfl)]
        exact ih2
      | true =>
        rw [hb] at ih2
        rw [if_neg (by decide), zn_add]
        exact ih2
    · rw [if_pos c1]
      rw [show (W k == w) = false by simpa using c1] at ih
      exact ih M1 hf
  · intro g M1 hf
    obtain ⟨l1, l2, l3, l4, l5⟩ := zyL_1 (by omega) hf hL
    unfold b_X11_sumOf_9
    rw [l4 N]
    simp (disch := omega) only [zl_0, zl_1, zl_2, zl_3, zl_4, zl_5, zl_6, zn_ck, zn_ix, zn_add, zn_sub, zn_mul, zn_le, zn_lt, zn_eq, zn_plc1, zn_shl, zn_or, zn_bitc, Option.bind_some, zq_p, zq_b, Nat.one_mul, Nat.zero_add, Nat.add_zero]
    rw [if_pos (by omega)]
    exact ⟨M1, rfl, hf⟩
theorem zh_barM {N b C p r n : Nat} {M : zq_M} {S : Nat → Nat → Nat} {W U E F : Nat → Nat} {T : Nat → List Nat} {h : Nat} {X : zq_M} (hN : 120 < N) (hS : zyB S) (hL : zyL M S b C W U F T) (hx : zh_x X h C W U E T) (hp : p < 5) (hr : r < 4) (hn : n < 10) : ∃ M1, f_X11_isBarred N M (zn p) (zn r) (zn n) = some (if zh_bar W (fun c => zt_val (zf S p r n 99) (T c)) C = true then 1 else 0, M1) ∧ zf1 84 M M1 := by
  obtain ⟨h1, h2, h3, h4, h5⟩ := hx
  have q99 : (99 : Int32) = zn 99 := rfl
  unfold f_X11_isBarred
  rw [hL.2.2.1 N]
  simp only [Option.bind_some]
  refine zL (α := Int32 → zq_M → Option (Int32 × zq_M)) (fun (M1 : zq_M) k g => g (zn (b + k)) M1) (fun k M1 => zf1 84 M M1 ∧ zh_bar W (fun c => zt_val (zf S p r n 99) (T c)) k = false) (fun o => ∃ M1, o = some (if zh_bar W (fun c => zt_val (zf S p r n 99) (T c)) C = true then 1 else 0, M1) ∧ zf1 84 M M1) C ?_ ?_ N 0 M (by omega) (by omega) ⟨zf1_r _ _, rfl⟩
  · intro g k M1 hk ⟨hf, hW⟩ ih
    obtain ⟨l1, l2, l3, l4, l5⟩ := zyL_1 (by omega) hf hL
    obtain ⟨d1, d2, d3⟩ := l5 k hk
    obtain ⟨g1, g2, g3, g4, g5, g6, g7, g8, g9⟩ := h5 k hk
    unfold b_X11_isBarred_6
    rw [l4 N, q99]
    simp (disch := omega) only [zl_0, zl_1, zl_2, zl_3, zl_4, zl_5, zl_6, zn_ck, zn_ix, zn_add, zn_sub, zn_mul, zn_le, zn_lt, zn_eq, zn_plc1, zn_shl, zn_or, zn_bitc, Option.bind_some, zq_p, zq_b, Nat.one_mul, Nat.zero_add, Nat.add_zero, d1]
    rw [if_neg (by omega)]
    by_cases c1 : W k = 1
    · rw [if_neg (fun h => h c1)]
      obtain ⟨k1, k2, k3, k4⟩ := d3 (by omega)
      obtain ⟨M2, m1, m2⟩ := zt_hM (N := N) (ci := b + k) (n := n) (t := 99) hN hS l1 (by omega) hp hr hn (by omega) (g8 (by omega)) (by omega) k1 k2 k3 k4
      rw [m1]
      simp only [Option.bind_some, zq_p]
      cases hb : zt_val (zf S p r n 99) (T k) with
      | false =>
        rw [if_pos (by rfl)]
        exact ih M2 ⟨zf1_t hf m2, zs_any_f hW (by simp [hb])⟩
      | true =>
        rw [if_neg (by decide)]
        have : zh_bar W (fun c => zt_val (zf S p r n 99) (T c)) C = true := zs_any_iff.mpr ⟨k, hk, by simp [c1, hb]⟩
        rw [if_pos this]
        exact ⟨M2, rfl, zf1_t hf m2⟩
    · rw [if_pos c1]
      exact ih M1 ⟨hf, zs_any_f hW (by simp [c1])⟩
  · intro g M1 ⟨hf, hW⟩
    obtain ⟨l1, l2, l3, l4, l5⟩ := zyL_1 (by omega) hf hL
    unfold b_X11_isBarred_6
    rw [l4 N]
    simp (disch := omega) only [zl_0, zl_1, zl_2, zl_3, zl_4, zl_5, zl_6, zn_ck, zn_ix, zn_add, zn_sub, zn_mul, zn_le, zn_lt, zn_eq, zn_plc1, zn_shl, zn_or, zn_bitc, Option.bind_some, zq_p, zq_b, Nat.one_mul, Nat.zero_add, Nat.add_zero]
    rw [if_pos (by omega), if_neg (by rw [hW]; decide)]
    exact ⟨M1, rfl, hf⟩
theorem zh_set {N j p r n t : Nat} {X : zq_M} {S : Nat → Nat → Nat} (hS : zyB S) (hX : zyX S X) (hp : p < 5) (hr : r < 4) : ∃ X1, f_X6_setFacts N j X (zn p) (zn r) (zn n) (zn t) = some X1 ∧ zf1 36 X X1 ∧ zt_fx (zf S p r n t) X1 := by
  have l2 := hS.2.2.2.1 p hp
  have r3 : (zn r = 3) = (r = 3) := zn_eq (b := 3) (by omega) (by omega)
  have q10 : (10 : Int32) = zn 10 := rfl
  have z0 : zq_ix (0 : Int32) = 0 := rfl
  have z1 : zq_ix (1 : Int32) = 1 := rfl
  have z2 : zq_ix (2 : Int32) = 2 := rfl
  have z3 : zq_ix (3 : Int32) = 3 := rfl
  have z4 : zq_ix (4 : Int32) = 4 := rfl
  have z5 : zq_ix (5 : Int32) = 5 := rfl
  have k0 : ∀ {ρ : Type} (o : Option ρ), zq_ck (0 : Int32) 6 o = o := fun o => zn_ck (a := 0) (by omega) (by omega)
  have k1 : ∀ {ρ : Type} (o : Option ρ), zq_ck (1 : Int32) 6 o = o := fun o => zn_ck (a := 1) (by omega) (by omega)
  have k2 : ∀ {ρ : Type} (o : Option ρ), zq_ck (2 : Int32) 6 o = o := fun o => zn_ck (a := 2) (by omega) (by omega)
  have k3 : ∀ {ρ : Type} (o : Option ρ), zq_ck (3 : Int32) 6 o = o := fun o => zn_ck (a := 3) (by omega) (by omega)
  have k4 : ∀ {ρ : Type} (o : Option ρ), zq_ck (4 : Int32) 6 o = o := fun o => zn_ck (a := 4) (by omega) (by omega)
  have k5 : ∀ {ρ : Type} (o : Option ρ), zq_ck (5 : Int32) 6 o = o := fun o => zn_ck (a := 5) (by omega) (by omega)
  have kp : ∀ {ρ : Type} (o : Option ρ), zq_ck (zn p) 5 o = o := fun o => zn_ck (by omega) (by omega)
  unfold f_X6_setFacts j_X6_setFacts_63
  simp only [k0, k1, k2, k3, k4, k5, kp, z0, z1, z2, z3, z4, z5, zq_b]
  have e2 : (zq_u1 (zq_u1 X 36 0 (zn p)) 36 1 (zn r)).1 2 (zq_ix (zn p)) / 10 = zn (S 1 p / 10) := by
    rw [zn_ix (by omega), zq_un (by omega), zq_un (by omega), hX.2.2.1 p hp, q10, zn_div (by omega) (by omega)]
  rw [e2]
  have fin : ∀ v, v = (if r = 3 then 9 else S 5 r) → zf1 36 X (zq_u1 (zq_u1 (zq_u1 (zq_u1 (zq_u1 (zq_u1 X 36 0 (zn p)) 36 1 (zn r)) 36 2 (zn (S 1 p / 10))) 36 3 (zn n)) 36 4 (zn v)) 36 5 (zn t)) ∧ zt_fx (zf S p r n t) (zq_u1 (zq_u1 (zq_u1 (zq_u1 (zq_u1 (zq_u1 X 36 0 (zn p)) 36 1 (zn r)) 36 2 (zn (S 1 p / 10))) 36 3 (zn n)) 36 4 (zn v)) 36 5 (zn t)) := by
    intro v hv
    refine ⟨zf1_u (zf1_u (zf1_u (zf1_u (zf1_u (zf1_u (zf1_r _ _)))))), ?_⟩
    intro i hi
    have hi6 : i = 0 ∨ i = 1 ∨ i = 2 ∨ i = 3 ∨ i = 4 ∨ i = 5 := by omega
    rcases hi6 with rfl | rfl | rfl | rfl | rfl | rfl <;> simp [zq_g1, zf, hv]
  by_cases c : r = 3
  · rw [if_neg (by rw [r3]; exact fun h => h c)]
    obtain ⟨f1, f2⟩ := fin 9 (by rw [if_pos c])
    exact ⟨_, rfl, f1, f2⟩
  · rw [if_pos (by rw [r3]; exact c), zn_ck (by omega) (by omega), zn_ix (by omega)]
    have e6 : (zq_u1 (zq_u1 (zq_u1 (zq_u1 X 36 0 (zn p)) 36 1 (zn r)) 36 2 (zn (S 1 p / 10))) 36 3 (zn n)).1 6 r = zn (S 5 r) := by
      rw [zq_un (by omega), zq_un (by omega), zq_un (by omega), zq_un (by omega), hX.2.2.2.2.2.2.1 r (by omega)]
    rw [e6]
    obtain ⟨f1, f2⟩ := fin (S 5 r) (by rw [if_neg c])
    exact ⟨_, rfl, f1, f2⟩
def zp_pr (S : Nat → Nat → Nat) (W U : Nat → Nat) (T : Nat → List Nat) (C p r n : Nat) : Nat := 1 + zh_sum W U (fun c => zt_val (zf S p r n 99) (T c)) 0 C
def zp_ba (S : Nat → Nat → Nat) (W : Nat → Nat) (T : Nat → List Nat) (C p r n : Nat) : Bool := zh_bar W (fun c => zt_val (zf S p r n 99) (T c)) C
def zp_wo (S : Nat → Nat → Nat) (W U : Nat → Nat) (T : Nat → List Nat) (C p r n t : Nat) : Nat := zh_sum W U (fun c => zt_val (zf S p r n t) (T c)) 2 C
theorem zp_prl {S : Nat → Nat → Nat} {W U E : Nat → Nat} {T : Nat → List Nat} {C h p r n : Nat} {X : zq_M} (hx : zh_x X h C W U E T) : zp_pr S W U T C p r n ≤ 1001 := by
  have := zh_suml (W := W) (v := fun c => zt_val (zf S p r n 99) (T c)) (w := 0) C (fun c hc => (hx.2.2.2.2 c hc).2.1)
  have := hx.1
  unfold zp_pr
  omega
theorem zp_wol {S : Nat → Nat → Nat} {W U E : Nat → Nat} {T : Nat → List Nat} {C h p r n t : Nat} {X : zq_M} (hx : zh_x X h C W U E T) : zp_wo S W U T C p r n t ≤ 1000 := by
  have := zh_suml (W := W) (v := fun c => zt_val (zf S p r n t) (T c)) (w := 2) C (fun c hc => (hx.2.2.2.2 c hc).2.1)
  have := hx.1
  unfold zp_wo
  omega
theorem zh_prX {N j h C p r n : Nat} {X : zq_M} {S : Nat → Nat → Nat} {W U E : Nat → Nat} {T : Nat → List Nat} (hN : 120 < N) (hS : zyB S) (hK : zyK j X S h C W U E T) (hp : p < 5) (hr : r < 4) (hn : n < 10) : ∃ X1, f_X6_priceOf N j X (zn p) (zn r) (zn n) = some (zn (zp_pr S W U T C p r n), X1) ∧ zf1 36 X X1 := by
  have q99 : (99 : Int32) = zn 99 := rfl
  obtain ⟨X1, e1, e2, e3⟩ := zh_set (N := N) (j := j) (n := n) (t := 99) hS hK.1 hp hr
  obtain ⟨a1, a2, a3, a4, a5⟩ := zyK_1 (by omega) e2 hK
  refine ⟨X1, ?_, e2⟩
  unfold f_X6_priceOf zp_pr
  rw [q99, e1]
  simp only [Option.bind_some, a2, zq_nn, a3, if_true]
  rw [zl_0, zh_tog hN a5 (by omega) e3 (zf_l hS hp hr hn (by omega))]
  simp only [Option.bind_some]
  rw [zl_1, zn_add]
theorem zh_baX {N j h C p r n : Nat} {X : zq_M} {S : Nat → Nat → Nat} {W U E : Nat → Nat} {T : Nat → List Nat} (hN : 120 < N) (hS : zyB S) (hK : zyK j X S h C W U E T) (hp : p < 5) (hr : r < 4) (hn : n < 10) : ∃ X1, f_X6_isBarred N j X (zn p) (zn r) (zn n) = some (if zp_ba S W T C p r n = true then 1 else 0, X1) ∧ zf1 36 X X1 := by
  have q99 : (99 : Int32) = zn 99 := rfl
  obtain ⟨X1, e1, e2, e3⟩ := zh_set (N := N) (j := j) (n := n) (t := 99) hS hK.1 hp hr
  obtain ⟨a1, a2, a3, a4, a5⟩ := zyK_1 (by omega) e2 hK
  refine ⟨X1, ?_, e2⟩
  unfold f_X6_isBarred zp_ba
  rw [q99, e1]
  simp only [Option.bind_some, a2, zq_nn, a3, if_true]
  rw [zh_hasb hN a5 e3 (zf_l hS hp hr hn (by omega))]
  cases zh_bar W (fun c => zt_val (zf S p r n 99) (T c)) C <;> rfl
