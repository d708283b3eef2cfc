def zf (S : Nat → Nat → Nat) (p r n t : Nat) : Nat → Nat := fun i => if i = 0 then p else if i = 1 then r else if i = 2 then S 1 p / 10 else if i = 3 then n else if i = 4 then (if r = 3 then 9 else S 5 r) else t
theorem zf_l {S : Nat → Nat → Nat} (hS : zyB S) {p r n t : Nat} (hp : p < 5) (hr : r < 4) (hn : n < 10) (ht : t < 100) : ∀ i, i < 6 → zf S p r n t i < 1000 := by
  intro i hi
  have h1 := hS.2.2.2.1 p hp
  unfold zf
  repeat' split
  all_goals first
    | omega
    | (have := hS.2.2.2.2.2.2.2.1 r (by omega); omega)
theorem zf_M {N p r n t i : Nat} {S : Nat → Nat → Nat} {M : zq_M} (hS : zyB S) (hM : zyM S M) (hp : p < 5) (hr : r < 4) (hi : i < 6) : f_X11_factOf N M (zn i) (zn p) (zn r) (zn n) (zn t) = some (zn (zf S p r n t i)) := by
  have h1 := hS.2.2.2.1 p hp
  unfold f_X11_factOf
  have i0 : (zn i = 0) = (i = 0) := zn_eq (b := 0) (by omega) (by omega)
  have i1 : (zn i = 1) = (i = 1) := zn_eq (b := 1) (by omega) (by omega)
  have i2 : (zn i = 2) = (i = 2) := zn_eq (b := 2) (by omega) (by omega)
  have i3 : (zn i = 3) = (i = 3) := zn_eq (b := 3) (by omega) (by omega)
  have i4 : (zn i = 4) = (i = 4) := zn_eq (b := 4) (by omega) (by omega)
  have r3 : (zn r = 3) = (r = 3) := zn_eq (b := 3) (by omega) (by omega)
  have q10 : (10 : Int32) = zn 10 := rfl
  rw [zn_ck (by omega) (by omega), zn_ix (by omega), hM.2.2.2.1 p hp, q10, zn_div (by omega) (by omega)]
  simp only [i0, i1, i2, i3, i4, r3]
  unfold zf
  by_cases c0 : i = 0
  · rw [if_pos c0, if_pos c0]
  by_cases c1 : i = 1
  · rw [if_neg c0, if_pos c1, if_neg c0, if_pos c1]
  by_cases c2 : i = 2
  · rw [if_neg c0, if_neg c1, if_pos c2, if_neg c0, if_neg c1, if_pos c2]
  by_cases c3 : i = 3
  · rw [if_neg c0, if_neg c1, if_neg c2, if_pos c3, if_neg c0, if_neg c1, if_neg c2, if_pos c3]
  by_cases c4 : i = 4
  · rw [if_neg c0, if_neg c1, if_neg c2, if_neg c3, if_pos c4, if_neg c0, if_neg c1, if_neg c2, if_neg c3, if_pos c4]
    by_cases c : r = 3
    · rw [if_neg (fun h => h c), if_pos c]; rfl
    · rw [if_pos c, if_neg c, zn_ck (by omega) (by omega), zn_ix (by omega), hM.2.2.2.2.2.2.1 r (by omega)]
  · rw [if_neg c0, if_neg c1, if_neg c2, if_neg c3, if_neg c4, if_neg c0, if_neg c1, if_neg c2, if_neg c3, if_neg c4]
def zt_pile (M : zq_M) (s : List Bool) : Prop := ∀ i b, s[i]? = some b → M.1 84 (s.length - 1 - i) = if b = true then 1 else 0
theorem zt_push {M : zq_M} {s : List Bool} (b : Bool) (h : zt_pile M s) : zt_pile (zq_u1 M 84 s.length (if b = true then 1 else 0)) (b :: s) := by
  intro i c hi
  cases i with
  | zero =>
    simp at hi; subst hi
    rw [zq_g1, if_pos ⟨rfl, by simp⟩]
  | succ i =>
    simp at hi
    have hl : i < s.length := (List.getElem?_eq_some_iff.mp hi).1
    simp only [List.length_cons]
    rw [zq_us1 (by omega)]
    rw [show s.length + 1 - 1 - (i + 1) = s.length - 1 - i by omega]
    exact h i c hi
theorem zt_top {M : zq_M} {s : List Bool} {b : Bool} (h : zt_pile M (b :: s)) : M.1 84 s.length = (if b = true then 1 else 0) ∧ zt_pile M s := by
  refine ⟨?_, ?_⟩
  · have := h 0 b rfl
    rw [← this]
    congr 1
  · intro i c hi
    have hl : i < s.length := (List.getElem?_eq_some_iff.mp hi).1
    have := h (i + 1) c (by simpa using hi)
    rw [List.length_cons, show s.length + 1 - 1 - (i + 1) = s.length - 1 - i by omega] at this
    exact this
theorem zt_nar (b : Bool) : vp_nar .boolean (if b = true then (1 : Int32) else 0) = if b = true then 1 else 0 := by cases b <;> rfl
theorem zt_nar0 : vp_nar .boolean (0 : Int32) = 0 := rfl
theorem zt_nar1 : vp_nar .boolean (1 : Int32) = 1 := rfl
theorem zn_m1 {d : Nat} (h : 1 ≤ d) : zn d + (-1 : Int32) = zn (d - 1) := by
  have := zn_sub h
  rw [← this, Int32.sub_eq_add_neg]
  rfl
theorem zt_hM {N ci : Nat} {M : zq_M} {T : List Nat} {F p r n t : Nat} {S : Nat → Nat → Nat} (hN : 120 < N) (hS : zyB S) (hM : zyM S M) (hci : ci < 60) (hp : p < 5) (hr : r < 4) (hn : n < 10) (ht : t < 100) (hT : zt_run T 0 = some 1) (hlen : T.length ≤ 100) (hl : F + T.length ≤ 600) (h79 : M.1 79 ci = zn F) (h80 : M.1 80 ci = zn (F + T.length)) (hs : ∀ t k, T[t]? = some k → M.1 81 (F + t) = zt_cm k) : ∃ M1, f_X11_holds N M (zn ci) (zn p) (zn r) (zn n) (zn t) = some (if zt_val (zf S p r n t) T = true then 1 else 0, M1) ∧ zf1 84 M M1 := by
  unfold f_X11_holds
  rw [zn_ck (by omega) (by omega), zn_ix (by omega), h79]
  refine zL (α := Int32 → Int32 → zq_M → Option (Int32 × zq_M)) (fun (q : List Nat × List Bool × zq_M) k f => f (zn q.2.1.length) (zn (F + k)) q.2.2) (fun k q => T.drop k = q.1 ∧ zt_run q.1 q.2.1.length = some 1 ∧ zt_ev (zf S p r n t) q.1 q.2.1 = zt_ev (zf S p r n t) T [] ∧ q.2.1.length ≤ 12 ∧ zf1 84 M q.2.2 ∧ zt_pile q.2.2 q.2.1) (fun o => ∃ M1, o = some (if zt_val (zf S p r n t) T = true then 1 else 0, M1) ∧ zf1 84 M M1) T.length ?_ ?_ N 0 (T, [], M) (by omega) (by omega) ⟨by simp, hT, rfl, by simp, zf1_r _ _, fun i b h => by simp at h⟩
  · rintro g k ⟨l, s, M1⟩ hk ⟨e1, e2, e3, e4, e7, e8⟩ ih
    dsimp only at e1 e2 e3 e4 e7 e8 ih ⊢
    cases l with
    | nil =>
      have := congrArg List.length e1
      simp at this; omega
    | cons tk l =>
      have e5 : T[k]? = some tk := by
        have := congrArg (fun l => l[0]?) e1
        simpa [List.getElem?_drop] using this
      have e6 : T.drop (k + 1) = l := by
        have := congrArg List.tail e1
        simpa [List.tail_drop] using this
      have hsk := hs k tk e5
      obtain ⟨hk2, hcase⟩ := zt_runk e2
      obtain ⟨x1, x2, x3⟩ := zt_cmn tk hk2
      have g79 : M1.1 80 ci = zn (F + T.length) := by rw [e7.2 80 (by omega)]; exact h80
      have g81 : M1.1 81 (F + k) = zt_cm tk := by rw [e7.2 81 (by omega)]; exact hsk
      have hM1 : zyM S M1 := zyM_fr (fun k _ => congrFun (e7.2 69 (by omega)) k) (fun c _ _ => e7.2 c (by omega)) hM
      unfold b_X11_holds_11
      have q1 : (zn (F + k) + 1 : Int32) = zn (F + k + 1) := zn_add _ 1
      have q2 : (zn (F + T.length) ≤ zn (F + k)) = (F + T.length ≤ F + k) := zn_le (by omega) (by omega)
      rw [zn_ck (by omega) (by omega), zn_ix (by omega), g79, zn_ck (by omega) (by omega), zn_ix (by omega), g81]
      simp only [q2, x1, x2, x3, zq_b]
      rw [if_neg (by omega)]
      have next : ∀ (s2 : List Bool) (M2 : zq_M), zt_st (zf S p r n t) tk s = s2 → zt_run l s2.length = some 1 → s2.length ≤ 12 → zf1 84 M M2 → zt_pile M2 s2 → (∃ M1, g (zn s2.length) (zn (F + k + 1)) M2 = some (if zt_val (zf S p r n t) T = true then 1 else 0, M1) ∧ zf1 84 M M1) := by
        intro s2 M2 h1 h2 h3 h4 h5
        exact ih (l, s2, M2) ⟨e6, h2, by rw [← h1]; exact e3, h3, h4, h5⟩
      rcases hcase with ⟨rfl, d1, d2⟩ | ⟨hk12, d1, d2⟩ | ⟨h3, d1, d2⟩
      · rw [if_neg (by omega)]
        cases s with
        | nil => simp at d1
        | cons b s =>
          obtain ⟨t1, t2⟩ := zt_top e8
          simp only [List.length_cons] at e4 d2 ⊢
          have := next ((!b) :: s) (zq_u1 M1 84 s.length (if (!b) = true then 1 else 0)) rfl d2 e4 (zf1_u e7) (zt_push _ t2)
          unfold j_X11_holds_63
          rw [zl_1, zn_sub (by omega), Nat.add_sub_cancel, zn_ck (by omega) (by omega), zn_ck (by omega) (by omega), zn_ck (by omega) (by omega), zn_ix (by omega), t1, ← zl_1, q1]
          simp only [zq_b]
          cases b with
          | false => rw [if_neg (by decide), zt_nar1]; exact this
          | true => rw [if_pos (by decide), zt_nar0]; exact this
      · match s, d1 with
        | b :: a :: s, _ =>
          have d2' : zt_run l (s.length + 1) = some 1 := d2
          obtain ⟨t1, t2⟩ := zt_top e8
          obtain ⟨t3, t4⟩ := zt_top t2
          simp only [List.length_cons] at e4 t1 ⊢
          unfold j_X11_holds_147
          have i1 : zn (s.length + 1 + 1) + (-1 : Int32) = zn (s.length + 1) := zn_m1 (by omega)
          have i2 : zn (s.length + 1) - (1 : Int32) = zn s.length := by
            have := zn_sub (a := s.length + 1) (b := 1) (by omega)
            exact this
          rw [i1, i2, q1, zn_ix (by omega), zn_ix (by omega), t1, t3]
          simp only [zq_b]
          repeat rw [zn_ck (by omega) (by omega)]
          rcases hk12 with rfl | rfl
          · rw [if_pos (by omega), if_neg (by omega), if_neg (by omega)]
            have := next ((a && b) :: s) _ rfl d2' (by simp; omega) (zf1_u e7) (zt_push (a && b) t4)
            cases a with
            | false => rw [if_pos (by decide), zt_nar0]; exact this
            | true =>
              rw [if_neg (by decide)]
              cases b with
              | false => rw [if_pos (by decide), zt_nar0]; exact this
              | true => rw [if_neg (by decide), zt_nar1]; exact this
          · rw [if_pos (by omega), if_neg (by omega), if_pos (by omega)]
            have := next ((a || b) :: s) _ rfl d2' (by simp; omega) (zf1_u e7) (zt_push (a || b) t4)
            cases a with
            | true => rw [if_pos (by decide), zt_nar1]; exact this
            | false =>
              rw [if_neg (by decide)]
              cases b with
              | false => rw [if_pos (by decide), zt_nar0]; exact this
              | true => rw [if_neg (by decide), zt_nar1]; exact this
      · rw [if_pos (by omega), if_pos (by omega)]
        have hcx : zt_cm tk = zn (1000 * ((tk - 3) % 6) + 100 * ((tk - 3) / 6 % 3) + (tk - 3) / 18) := by unfold zt_cm; rw [if_neg (by omega), if_neg (by omega), if_neg (by omega)]
        have hst : zt_st (zf S p r n t) tk s = zt_tst (zf S p r n t) (tk - 3) :: s := by unfold zt_st; rw [if_neg (by omega), if_neg (by omega), if_neg (by omega)]
        have hnx := next _ _ hst d2 (by simp; omega) (zf1_u e7) (zt_push _ e8)
        have m6 : (tk - 3) % 6 < 6 := Nat.mod_lt _ (by omega)
        have m3 : (tk - 3) / 6 % 3 < 3 := Nat.mod_lt _ (by omega)
        have m18 : (tk - 3) / 18 < 100 := by omega
        have q1000 : (1000 : Int32) = zn 1000 := rfl
        have q100 : (100 : Int32) = zn 100 := rfl
        have q10 : (10 : Int32) = zn 10 := rfl
        have hfl := zf_l hS (n := n) (t := t) hp hr hn ht ((tk - 3) % 6) m6
        rw [hcx, q1000, q100, q10, zn_div (by omega) (by omega), zn_div (by omega) (by omega), zn_irem (by omega) (by omega), zn_irem (by omega) (by omega)]
        unfold zt_tst at hnx
        generalize (tk - 3) % 6 = a6 at *
        generalize (tk - 3) / 6 % 3 = a3 at *
        generalize (tk - 3) / 18 = a18 at *
        rw [show (1000 * a6 + 100 * a3 + a18) / 1000 = a6 by omega, show (1000 * a6 + 100 * a3 + a18) / 100 % 10 = a3 by omega, show (1000 * a6 + 100 * a3 + a18) % 100 = a18 by omega]
        rw [zf_M hS hM1 hp hr m6]
        simp only [Option.bind_some]
        have c0 : (zn a3 = 0) = (a3 = 0) := zn_eq (b := 0) (by omega) (by omega)
        have c1 : (zn a3 = 1) = (a3 = 1) := zn_eq (b := 1) (by omega) (by omega)
        have c2 : (zn a18 ≤ zn (zf S p r n t a6)) = (a18 ≤ zf S p r n t a6) := zn_le (by omega) (by omega)
        have c3 : (zn (zf S p r n t a6) = zn a18) = (zf S p r n t a6 = a18) := zn_eq (by omega) (by omega)
        have c4 : (zn (zf S p r n t a6) ≤ zn a18) = (zf S p r n t a6 ≤ a18) := zn_le (by omega) (by omega)
        have lp : (zn s.length + 1 : Int32) = zn (s.length + 1) := zn_add _ 1
        unfold j_X11_holds_247
        simp only [c0, c1, c2, c3, c4, zq_b]
        rw [q1, lp, zn_ix (by omega)]
        repeat rw [zn_ck (by omega) (by omega)]
        rw [zt_nar0, zt_nar1]
        simp only [List.length_cons] at hnx
        by_cases w0 : a3 = 0
        · rw [if_neg (fun h => h w0)]
          rw [if_pos w0] at hnx
          by_cases d : zf S p r n t a6 < a18
          · rw [if_neg (by omega)]; rw [decide_eq_true d] at hnx; exact hnx
          · rw [if_pos (by omega)]; rw [decide_eq_false d] at hnx; exact hnx
        rw [if_pos w0]
        rw [if_neg w0] at hnx
        by_cases w1 : a3 = 1
        · rw [if_neg (fun h => h w1)]
          rw [if_pos w1] at hnx
          by_cases d : zf S p r n t a6 = a18
          · rw [if_neg (fun h => h d)]; rw [show (zf S p r n t a6 == a18) = true by simpa using d] at hnx; exact hnx
          · rw [if_pos d]; rw [show (zf S p r n t a6 == a18) = false by simpa using d] at hnx; exact hnx
        rw [if_pos w1]
        rw [if_neg w1] at hnx
        by_cases d : a18 < zf S p r n t a6
        · rw [if_neg (by omega)]; rw [decide_eq_true d] at hnx; exact hnx
        · rw [if_pos (by omega)]; rw [decide_eq_false d] at hnx; exact hnx
  · rintro g ⟨l, s, M1⟩ ⟨e1, e2, e3, e4, e7, e8⟩
    dsimp only at e1 e2 e3 e4 e7 e8 ⊢
    rw [List.drop_length] at e1
    subst e1
    have hs1 : s.length = 1 := by simpa [zt_run] using e2
    match s, hs1 with
    | [b], _ =>
      have hv : zt_val (zf S p r n t) T = b := by unfold zt_val; rw [← e3]; rfl
      have t1 := (zt_top e8).1
      have g79 : M1.1 80 ci = zn (F + T.length) := by rw [e7.2 80 (by omega)]; exact h80
      unfold b_X11_holds_11
      rw [zn_ck (by omega) (by omega), zn_ix (by omega), g79, if_pos (by rw [zn_le (by omega) (by omega)]; omega), hv]
      have t1 : M1.1 84 (zq_ix 0) = if b = true then 1 else 0 := t1
      rw [t1]
      refine ⟨M1, ?_, e7⟩
      cases b <;> rfl
