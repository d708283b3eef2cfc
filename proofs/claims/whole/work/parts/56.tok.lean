def zt_tst (f : Nat → Nat) (t : Nat) : Bool := if t / 6 % 3 = 0 then decide (f (t % 6) < t / 18) else if t / 6 % 3 = 1 then f (t % 6) == t / 18 else decide (t / 18 < f (t % 6))
def zt_st (f : Nat → Nat) (k : Nat) (s : List Bool) : List Bool :=
  if k = 0 then (match s with
    | b :: s => (!b) :: s
    | [] => [])
  else if k = 1 then (match s with
    | b :: a :: s => (a && b) :: s
    | s => s)
  else if k = 2 then (match s with
    | b :: a :: s => (a || b) :: s
    | s => s)
  else zt_tst f (k - 3) :: s
def zt_ev (f : Nat → Nat) : List Nat → List Bool → List Bool
  | [], s => s
  | k :: l, s => zt_ev f l (zt_st f k s)
def zt_val (f : Nat → Nat) (T : List Nat) : Bool := (zt_ev f T []).headD false
def zt_nb : List Bool → Nat
  | [] => 0
  | b :: s => 2 * zt_nb s + (if b = true then 1 else 0)
theorem zt_nbl (s : List Bool) : zt_nb s < 2 ^ s.length := by
  induction s with
  | nil => exact Nat.one_pos
  | cons b s ih =>
    show 2 * zt_nb s + (if b = true then 1 else 0) < 2 ^ (s.length + 1)
    rw [Nat.pow_succ]
    split <;> omega
theorem zt_n12 {s : List Bool} (h : s.length ≤ 12) : zt_nb s < 4096 := by
  have h1 := zt_nbl s
  have h2 : 2 ^ s.length ≤ 2 ^ 12 := Nat.pow_le_pow_right (by omega) h
  omega
theorem zt_xnotd : ∀ x : Nat, x < 4 → ∀ y : Nat, y < 1024 → zn (1024 * x + y) ^^^ (1 : Int32) = zn (if (1024 * x + y) % 2 = 0 then 1024 * x + y + 1 else 1024 * x + y - 1) := by decide +kernel
theorem zt_xandd : ∀ x : Nat, x < 4 → ∀ y : Nat, y < 1024 → (zq_shr (zn (1024 * x + y)) (1 : Int32)) &&& (zn (1024 * x + y) ||| (-2 : Int32)) = zn (if (1024 * x + y) % 2 = 1 then (1024 * x + y) / 2 else (1024 * x + y) / 2 - (1024 * x + y) / 2 % 2) := by decide +kernel
theorem zt_xord : ∀ x : Nat, x < 4 → ∀ y : Nat, y < 1024 → (zq_shr (zn (1024 * x + y)) (1 : Int32)) ||| (zn (1024 * x + y) &&& (1 : Int32)) = zn (if (1024 * x + y) % 2 = 1 ∧ (1024 * x + y) / 2 % 2 = 0 then (1024 * x + y) / 2 + 1 else (1024 * x + y) / 2) := by decide +kernel
theorem zt_xnot (a : Nat) (h : a < 4096) : zn a ^^^ (1 : Int32) = zn (if a % 2 = 0 then a + 1 else a - 1) := by
  have := zt_xnotd (a / 1024) (by omega) (a % 1024) (by omega)
  rw [Nat.div_add_mod] at this
  exact this
theorem zt_xand (a : Nat) (h : a < 4096) : (zq_shr (zn a) (1 : Int32)) &&& (zn a ||| (-2 : Int32)) = zn (if a % 2 = 1 then a / 2 else a / 2 - a / 2 % 2) := by
  have := zt_xandd (a / 1024) (by omega) (a % 1024) (by omega)
  rw [Nat.div_add_mod] at this
  exact this
theorem zt_xor (a : Nat) (h : a < 4096) : (zq_shr (zn a) (1 : Int32)) ||| (zn a &&& (1 : Int32)) = zn (if a % 2 = 1 ∧ a / 2 % 2 = 0 then a / 2 + 1 else a / 2) := by
  have := zt_xord (a / 1024) (by omega) (a % 1024) (by omega)
  rw [Nat.div_add_mod] at this
  exact this
theorem zt_xsh0 {a : Nat} (h : a < 4096) : (zq_shl (zn a) (1 : Int32)) ||| (0 : Int32) = zn (2 * a + 0) := by
  rw [zl_1, zl_0, zn_shl (by omega), zn_or, Nat.or_zero]
  congr 1; omega
theorem zt_xsh1 {a : Nat} (h : a < 4096) : (zq_shl (zn a) (1 : Int32)) ||| (1 : Int32) = zn (2 * a + 1) := by
  rw [zl_1, zn_shl (by omega), zn_or]
  have := Nat.two_pow_add_eq_or_of_lt (i := 1) (b := 1) (by omega) a
  rw [Nat.mul_comm a, ← this]
def zt_fx (f : Nat → Nat) (X : zq_M) : Prop := ∀ i, i < 6 → X.1 36 i = zn (f i)
theorem zt_test {N j t : Nat} {X : zq_M} {f : Nat → Nat} (ht : t < 1800) (hf : zt_fx f X) (hl : ∀ i, i < 6 → f i < 1000) : f_X2_testHolds N j X (zn t) = some (if zt_tst f t = true then 1 else 0) := by
  have q6 : (6 : Int32) = zn 6 := rfl
  have q3 : (3 : Int32) = zn 3 := rfl
  have e1 : zq_irem (zn t) (zn 6) = zn (t % 6) := zn_irem (by omega) (by omega)
  have e2 : zn t / zn 6 = zn (t / 6) := zn_div (by omega) (by omega)
  have e3 : zq_irem (zn (t / 6)) (zn 3) = zn (t / 6 % 3) := zn_irem (by omega) (by omega)
  have e4 : zn (t / 6) / zn 3 = zn (t / 18) := by rw [zn_div (by omega) (by omega), Nat.div_div_eq_div_mul]
  have l6 : t % 6 < 6 := Nat.mod_lt _ (by omega)
  have h1 := hf (t % 6) l6
  have h2 := hl (t % 6) l6
  unfold f_X2_testHolds
  rw [q6, q3, e1, e2, e3, e4, zn_ck (by omega) (by omega), zn_ix (by omega), h1]
  have c0 : (zn (t / 6 % 3) = 0) = (t / 6 % 3 = 0) := zn_eq (b := 0) (by omega) (by omega)
  have c1 : (zn (t / 6 % 3) = 1) = (t / 6 % 3 = 1) := zn_eq (b := 1) (by omega) (by omega)
  have c2 : (zn (t / 18) ≤ zn (f (t % 6))) = (t / 18 ≤ f (t % 6)) := zn_le (by omega) (by omega)
  have c3 : (zn (f (t % 6)) = zn (t / 18)) = (f (t % 6) = t / 18) := zn_eq (by omega) (by omega)
  have c4 : (zn (f (t % 6)) ≤ zn (t / 18)) = (f (t % 6) ≤ t / 18) := zn_le (by omega) (by omega)
  simp only [c0, c1, c2, c3, c4]
  unfold zt_tst
  by_cases d0 : t / 6 % 3 = 0
  · rw [if_pos d0, if_pos d0]
    by_cases d : f (t % 6) < t / 18
    · rw [if_neg (by omega), if_pos (decide_eq_true d)]
    · rw [if_pos (by omega), if_neg (by simpa using d)]
  rw [if_neg d0, if_neg d0]
  by_cases d1 : t / 6 % 3 = 1
  · rw [if_pos d1, if_pos d1]
    by_cases d : f (t % 6) = t / 18
    · rw [if_neg (fun h => h d), if_pos (by simpa using d)]
    · rw [if_pos d, if_neg (by simpa using d)]
  rw [if_neg d1, if_neg d1]
  by_cases d : t / 18 < f (t % 6)
  · rw [if_neg (by omega), if_pos (decide_eq_true d)]
  · rw [if_pos (by omega), if_neg (by simpa using d)]
theorem zt_cxn : ∀ k : Nat, k < 1803 → (zt_cx k = -1 ↔ k = 0) ∧ (zt_cx k = -2 ↔ k = 1) ∧ (zt_cx k = -3 ↔ k = 2) := by decide +kernel
theorem zt_cmn : ∀ k : Nat, k < 1803 → (zt_cm k = -33 ↔ k = 0) ∧ (zt_cm k = -38 ↔ k = 1) ∧ (0 ≤ zt_cm k ↔ 3 ≤ k) := by decide +kernel
theorem zt_runk {k : Nat} {l : List Nat} {d r : Nat} (h : zt_run (k :: l) d = some r) : k < 1803 ∧ (k = 0 ∧ 1 ≤ d ∧ zt_run l d = some r ∨ (k = 1 ∨ k = 2) ∧ 2 ≤ d ∧ zt_run l (d - 1) = some r ∨ 3 ≤ k ∧ d < 12 ∧ zt_run l (d + 1) = some r) := by
  unfold zt_run at h
  by_cases h0 : k = 0
  · rw [if_pos h0] at h
    by_cases h1 : 1 ≤ d
    · rw [if_pos h1] at h; exact ⟨by omega, Or.inl ⟨h0, h1, h⟩⟩
    · rw [if_neg h1] at h; cases h
  · rw [if_neg h0] at h
    by_cases h2 : k ≤ 2
    · rw [if_pos h2] at h
      by_cases h1 : 2 ≤ d
      · rw [if_pos h1] at h; exact ⟨by omega, Or.inr (Or.inl ⟨by omega, h1, h⟩)⟩
      · rw [if_neg h1] at h; cases h
    · rw [if_neg h2] at h
      by_cases h1 : d < 12 ∧ k < 1803
      · rw [if_pos h1] at h; exact ⟨h1.2, Or.inr (Or.inr ⟨by omega, h1.1, h⟩)⟩
      · rw [if_neg h1] at h; cases h
theorem zt_hx {N j h c : Nat} {X : zq_M} {T : List Nat} {e0 : Nat} {f : Nat → Nat} (hN : 120 < N) (hc : c < 10) (hT : zt_run T 0 = some 1) (hl : e0 + T.length ≤ 100) (he : X.1 (h + 3) c = zn (e0 + T.length)) (hs : ∀ t k, T[t]? = some k → X.1 (h + 4) (e0 + t) = zt_cx k) (hf : zt_fx f X) (hfl : ∀ i, i < 6 → f i < 1000) : j_X2_holdsIn_18 N j X h (zn c) (zn e0) = some (if zt_val f T = true then 1 else 0) := by
  unfold j_X2_holdsIn_18
  refine zL (α := Int32 → Int32 → Option Int32) (fun (q : List Nat × List Bool) k f => f (zn (zt_nb q.2)) (zn (e0 + k))) (fun k q => T.drop k = q.1 ∧ zt_run q.1 q.2.length = some 1 ∧ zt_ev f q.1 q.2 = zt_ev f T [] ∧ q.2.length ≤ 12) (fun o => o = some (if zt_val f T = true then 1 else 0)) T.length ?_ ?_ N 0 (T, []) (by omega) (by omega) ⟨by simp, hT, rfl, by simp⟩
  · rintro g k ⟨l, s⟩ hk ⟨e1, e2, e3, e4⟩ ih
    dsimp only at e1 e2 e3 e4 ih ⊢
    cases l with
    | nil =>
      have := congrArg List.length e1
      simp at this; omega
    | cons tk l =>
      have e5 : T[k]? = some tk := by
        have := congrArg (fun l => l[0]?) e1
        simpa [List.getElem?_drop] using this
      have e6 : T.drop (k + 1) = l := by
        have := congrArg List.tail e1
        simpa [List.tail_drop] using this
      have hsk := hs k tk e5
      obtain ⟨hk2, hcase⟩ := zt_runk e2
      obtain ⟨x1, x2, x3⟩ := zt_cxn tk hk2
      have hn := zt_n12 e4
      unfold b_X2_holdsIn_20
      have q1 : (zn (e0 + k) + 1 : Int32) = zn (e0 + k + 1) := zn_add _ 1
      have q2 : (zn (e0 + T.length) ≤ zn (e0 + k)) = (e0 + T.length ≤ e0 + k) := zn_le (by omega) (by omega)
      rw [zn_ck (by omega) (by omega), zn_ix (by omega), he, zn_ck (by omega) (by omega), zn_ix (by omega), hsk, q1]
      simp only [q2, x1, x2, x3, zq_b]
      rw [if_neg (by omega)]
      have next : ∀ s2 : List Bool, zt_st f tk s = s2 → zt_run l s2.length = some 1 → s2.length ≤ 12 → g (zn (zt_nb s2)) (zn (e0 + k + 1)) = some (if zt_val f T = true then 1 else 0) := by
        intro s2 h1 h2 h3
        exact ih (l, s2) ⟨e6, h2, by rw [← h1]; exact e3, h3⟩
      rcases hcase with ⟨rfl, d1, d2⟩ | ⟨hk12, d1, d2⟩ | ⟨h3, d1, d2⟩
      · rw [if_neg (by omega), zt_xnot _ hn]
        cases s with
        | nil => simp at d1
        | cons b s =>
          have := next ((!b) :: s) rfl d2 e4
          have e : zt_nb ((!b) :: s) = if zt_nb (b :: s) % 2 = 0 then zt_nb (b :: s) + 1 else zt_nb (b :: s) - 1 := by
            have e1 : zt_nb (b :: s) = 2 * zt_nb s + (if b = true then 1 else 0) := rfl
            have e2 : zt_nb ((!b) :: s) = 2 * zt_nb s + (if (!b) = true then 1 else 0) := rfl
            rw [e1, e2]
            generalize zt_nb s = y
            cases b <;> simp <;> omega
          rw [← e]
          exact this
      · match s, d1 with
        | b :: a :: s, _ =>
          have d2' : zt_run l (s.length + 1) = some 1 := d2
          simp only [List.length_cons] at e4
          have eb : zt_nb (b :: a :: s) = 2 * (2 * zt_nb s + (if a = true then 1 else 0)) + (if b = true then 1 else 0) := rfl
          rcases hk12 with rfl | rfl
          · rw [if_pos (by omega), if_neg (by omega), zt_xand _ hn]
            have := next ((a && b) :: s) rfl d2' (by simp; omega)
            have e : zt_nb ((a && b) :: s) = if zt_nb (b :: a :: s) % 2 = 1 then zt_nb (b :: a :: s) / 2 else zt_nb (b :: a :: s) / 2 - zt_nb (b :: a :: s) / 2 % 2 := by
              have e2 : zt_nb ((a && b) :: s) = 2 * zt_nb s + (if (a && b) = true then 1 else 0) := rfl
              rw [eb, e2]
              generalize zt_nb s = y
              cases a <;> cases b <;> simp <;> (try split) <;> omega
            rw [← e]
            exact this
          · rw [if_pos (by omega), if_pos (by omega), if_neg (by omega), zt_xor _ hn]
            have := next ((a || b) :: s) rfl d2' (by simp; omega)
            have e : zt_nb ((a || b) :: s) = if zt_nb (b :: a :: s) % 2 = 1 ∧ zt_nb (b :: a :: s) / 2 % 2 = 0 then zt_nb (b :: a :: s) / 2 + 1 else zt_nb (b :: a :: s) / 2 := by
              have e2 : zt_nb ((a || b) :: s) = 2 * zt_nb s + (if (a || b) = true then 1 else 0) := rfl
              rw [eb, e2]
              generalize zt_nb s = y
              cases a <;> cases b <;> simp <;> (try split) <;> omega
            rw [← e]
            exact this
      · rw [if_pos (by omega), if_pos (by omega), if_pos (by omega)]
        have hcx : zt_cx tk = zn (tk - 3) := by unfold zt_cx; rw [if_neg (by omega), if_neg (by omega), if_neg (by omega)]
        rw [hcx, zt_test (by omega) hf hfl]
        simp only [Option.bind_some]
        have hst : zt_st f tk s = zt_tst f (tk - 3) :: s := by unfold zt_st; rw [if_neg (by omega), if_neg (by omega), if_neg (by omega)]
        have := next _ hst d2 (by simp; omega)
        rw [zt_xsh0 hn, zt_xsh1 hn]
        cases hb : zt_tst f (tk - 3) with
        | false => rw [hb] at this; exact this
        | true => rw [hb] at this; exact this
  · rintro g ⟨l, s⟩ ⟨e1, e2, e3, e4⟩
    dsimp only at e1 e2 e3 e4 ⊢
    rw [List.drop_length] at e1
    subst e1
    have hs1 : s.length = 1 := by simpa [zt_run] using e2
    match s, hs1 with
    | [b], _ =>
      have hv : zt_val f T = b := by unfold zt_val; rw [← e3]; rfl
      unfold b_X2_holdsIn_20 k_X2_holdsIn_115_2
      rw [zn_ck (by omega) (by omega), zn_ix (by omega), he, if_pos (by rw [zn_le (by omega) (by omega)]; omega), hv]
      cases b <;> rfl
