def zf1 (c0 : Nat) (X X1 : zq_M) : Prop := X1.2 = X.2 ∧ ∀ c, c ≠ c0 → X1.1 c = X.1 c
theorem zf1_r (c0 : Nat) (X : zq_M) : zf1 c0 X X := ⟨rfl, fun _ _ => rfl⟩
theorem zf1_t {c0 : Nat} {X Y Z : zq_M} (h : zf1 c0 X Y) (g : zf1 c0 Y Z) : zf1 c0 X Z := ⟨g.1.trans h.1, fun c hc => (g.2 c hc).trans (h.2 c hc)⟩
theorem zf1_u {c0 k : Nat} {v : Int32} {X Y : zq_M} (h : zf1 c0 X Y) : zf1 c0 X (zq_u1 Y c0 k v) := ⟨h.1, fun c hc => (zq_un hc).trans (h.2 c hc)⟩
def zk_ins (s : Nat → Nat) (w : Nat) : List Nat → List Nat
  | [] => [w]
  | x :: R => if s w < s x then x :: zk_ins s w R else w :: x :: R
def zk_line (s : Nat → Nat) (T : Nat → Bool) : Nat → List Nat
  | 0 => []
  | w + 1 => if T w = true then zk_ins s w (zk_line s T w) else zk_line s T w
def zk_lt (s : Nat → Nat) (p y : Nat) : Bool := decide (s y < s p) || (s y == s p && decide (y < p))
def zk_rk (s : Nat → Nat) (T : Nat → Bool) (n p : Nat) : Nat := zs_cnt (fun q => T q && zk_lt s p q) n
theorem zk_insA (s : Nat → Nat) (w : Nat) (A B : List Nat) (h : ∀ x ∈ A, s w < s x) : zk_ins s w (A ++ B) = A ++ zk_ins s w B := by
  induction A with
  | nil => rfl
  | cons x A ih =>
    show (if s w < s x then x :: zk_ins s w (A ++ B) else _) = _
    rw [if_pos (h x (List.mem_cons_self)), ih (fun y hy => h y (List.mem_cons_of_mem _ hy))]
    rfl
theorem zk_insm (s : Nat → Nat) (w : Nat) (R : List Nat) (y : Nat) : y ∈ zk_ins s w R ↔ y = w ∨ y ∈ R := by
  induction R with
  | nil => simp [zk_ins]
  | cons x R ih =>
    unfold zk_ins
    by_cases h : s w < s x
    · rw [if_pos h, List.mem_cons, ih, List.mem_cons]
      constructor
      · rintro (a | a | a)
        · exact Or.inr (Or.inl a)
        · exact Or.inl a
        · exact Or.inr (Or.inr a)
      · rintro (a | a | a)
        · exact Or.inr (Or.inl a)
        · exact Or.inl a
        · exact Or.inr (Or.inr a)
    · rw [if_neg h, List.mem_cons]
theorem zk_insc (s : Nat → Nat) (w : Nat) (R : List Nat) (f : Nat → Bool) : (zk_ins s w R).countP f = R.countP f + if f w = true then 1 else 0 := by
  induction R with
  | nil =>
    show List.countP f [w] = _
    rw [List.countP_cons]
  | cons x R ih =>
    unfold zk_ins
    by_cases h : s w < s x
    · rw [if_pos h, List.countP_cons, ih, List.countP_cons]; omega
    · rw [if_neg h, List.countP_cons]
theorem zk_linec (s : Nat → Nat) (T : Nat → Bool) (f : Nat → Bool) (n : Nat) : (zk_line s T n).countP f = zs_cnt (fun q => T q && f q) n := by
  induction n with
  | zero => rfl
  | succ n ih =>
    unfold zk_line
    by_cases h : T n = true
    · rw [if_pos h, zk_insc, ih]
      by_cases h2 : f n = true
      · rw [if_pos h2, zs_ct (by simp [h, h2])]
      · rw [if_neg h2, zs_cf (by simp [h2])]; rfl
    · rw [if_neg h, zs_cf (by simp [h]), ih]
theorem zk_linem (s : Nat → Nat) (T : Nat → Bool) (n p : Nat) : p ∈ zk_line s T n ↔ p < n ∧ T p = true := by
  induction n with
  | zero => simp [zk_line]
  | succ n ih =>
    unfold zk_line
    by_cases h : T n = true
    · rw [if_pos h, zk_insm, ih]
      constructor
      · rintro (a | a)
        · subst a; exact ⟨by omega, h⟩
        · exact ⟨by omega, a.2⟩
      · rintro ⟨a, b⟩
        by_cases e : p = n
        · exact Or.inl e
        · exact Or.inr ⟨by omega, b⟩
    · rw [if_neg h, ih]
      constructor
      · rintro ⟨a, b⟩; exact ⟨by omega, b⟩
      · rintro ⟨a, b⟩
        by_cases e : p = n
        · subst e; exact absurd b h
        · exact ⟨by omega, b⟩
theorem zk_linel (s : Nat → Nat) (T : Nat → Bool) (n : Nat) : (zk_line s T n).length = zs_cnt T n := by
  have := zk_linec s T (fun _ => true) n
  rw [List.countP_true] at this
  rw [this]
  exact zs_ccg (fun k _ => by simp)
theorem zk_insp (s : Nat → Nat) (w : Nat) (R : List Nat) (hw : ∀ x ∈ R, x < w) (h : R.Pairwise (fun x y => zk_lt s x y = true)) : (zk_ins s w R).Pairwise (fun x y => zk_lt s x y = true) := by
  induction R with
  | nil => exact List.pairwise_singleton _ _
  | cons x R ih =>
    have hx := hw x (List.mem_cons_self)
    rw [List.pairwise_cons] at h
    unfold zk_ins
    by_cases hs : s w < s x
    · rw [if_pos hs, List.pairwise_cons]
      refine ⟨?_, ih (fun y hy => hw y (List.mem_cons_of_mem _ hy)) h.2⟩
      intro y hy
      rw [zk_insm] at hy
      rcases hy with rfl | hy
      · simp [zk_lt, hs]
      · exact h.1 y hy
    · rw [if_neg hs, List.pairwise_cons, List.pairwise_cons]
      refine ⟨?_, h⟩
      intro y hy
      rw [List.mem_cons] at hy
      have e : zk_lt s w x = true := by
        simp only [zk_lt, Bool.or_eq_true, decide_eq_true_eq, Bool.and_eq_true, beq_iff_eq]; omega
      rcases hy with rfl | hy
      · exact e
      · have e2 := h.1 y hy
        have e3 := hw y (List.mem_cons_of_mem _ hy)
        simp only [zk_lt, Bool.or_eq_true, decide_eq_true_eq, Bool.and_eq_true, beq_iff_eq] at e e2 ⊢
        omega
theorem zk_linep (s : Nat → Nat) (T : Nat → Bool) (n : Nat) : (zk_line s T n).Pairwise (fun x y => zk_lt s x y = true) := by
  induction n with
  | zero => exact List.Pairwise.nil
  | succ n ih =>
    unfold zk_line
    by_cases h : T n = true
    · rw [if_pos h]
      exact zk_insp s n _ (fun x hx => ((zk_linem s T n x).mp hx).1) ih
    · rw [if_neg h]; exact ih
theorem zk_cp (s : Nat → Nat) (R : List Nat) : ∀ (i p : Nat), R.Pairwise (fun x y => zk_lt s x y = true) → R[i]? = some p → R.countP (zk_lt s p) = R.length - 1 - i := by
  induction R with
  | nil => intro i p _ h; simp at h
  | cons x R ih =>
    intro i p hp h
    rw [List.pairwise_cons] at hp
    cases i with
    | zero =>
      simp at h
      subst h
      rw [List.countP_cons, List.countP_eq_length.mpr (fun y hy => hp.1 y hy), if_neg (by simp [zk_lt])]
      simp
    | succ i =>
      simp at h
      have hm : p ∈ R := List.mem_of_getElem? h
      have hl : i < R.length := (List.getElem?_eq_some_iff.mp h).1
      have e := hp.1 p hm
      rw [List.countP_cons, ih i p hp.2 h, if_neg]
      · simp; omega
      · simp only [zk_lt, Bool.or_eq_true, decide_eq_true_eq, Bool.and_eq_true, beq_iff_eq] at e ⊢
        omega
theorem zk_pos {s : Nat → Nat} {T : Nat → Bool} {n i p : Nat} (h : (zk_line s T n)[i]? = some p) : (zk_line s T n).length - 1 - i = zk_rk s T n p := by
  rw [← zk_cp s _ i p (zk_linep s T n) h, zk_linec]
  rfl
def zk_row (X : zq_M) (c : Nat) (R : List Nat) : Prop := ∀ i p, R[i]? = some p → X.1 c (R.length - 1 - i) = zn p
theorem zk_at {X : zq_M} {c n k : Nat} {s : Nat → Nat} {T : Nat → Bool} (h : zk_row X c (zk_line s T n)) (hk : k < zs_cnt T n) : ∃ p, p < n ∧ T p = true ∧ zk_rk s T n p = k ∧ X.1 c k = zn p := by
  rw [← zk_linel s T n] at hk
  have hi : (zk_line s T n).length - 1 - k < (zk_line s T n).length := by omega
  obtain ⟨p, hp⟩ : ∃ p, (zk_line s T n)[(zk_line s T n).length - 1 - k]? = some p := ⟨_, List.getElem?_eq_getElem hi⟩
  have h1 := h _ _ hp
  have h2 := zk_pos hp
  have h3 := (zk_linem s T n p).mp (List.mem_of_getElem? hp)
  rw [show (zk_line s T n).length - 1 - ((zk_line s T n).length - 1 - k) = k by omega] at h1 h2
  exact ⟨p, h3.1, h3.2, h2.symm, h1⟩
theorem zk_at2 {X : zq_M} {c n p : Nat} {s : Nat → Nat} {T : Nat → Bool} (h : zk_row X c (zk_line s T n)) (hp : p < n) (ht : T p = true) : zk_rk s T n p < zs_cnt T n ∧ X.1 c (zk_rk s T n p) = zn p := by
  have hm := (zk_linem s T n p).mpr ⟨hp, ht⟩
  obtain ⟨i, hi⟩ := List.getElem?_of_mem hm
  have hl : i < (zk_line s T n).length := (List.getElem?_eq_some_iff.mp hi).1
  have h1 := h _ _ hi
  rw [zk_pos hi] at h1
  have h2 := zk_pos hi
  rw [← zk_linel s T n]
  exact ⟨by omega, h1⟩
theorem zy_ins {α : Type} (Q : α → Prop) {N a2 w : Nat} {X : zq_M} {s : Nat → Nat} {R : List Nat} {rc : Int32 → Int32 → zq_M → Option (Int32 × zq_M)} {g : Option (Int32 × zq_M) → α} (hN : 7 < N) (h2 : a2 ≠ 37) (hw : w < 5) (hR : ∀ x ∈ R, x < w) (hRl : R.length ≤ w) (hs : ∀ i, i < 5 → X.1 a2 i = zn (s i)) (hsl : ∀ i, i < 5 → s i < 100) (hr : zk_row X 37 R)
    (K : ∀ X1, zf1 37 X X1 → zk_row X1 37 (zk_ins s w R) → Q (g (rc (zn (R.length + 1)) (zn (w + 1)) X1))) : Q (g (zq_loop (fun _ _ => none) (b_X6_lineUp_30 a2 (zn R.length) (zn w) rc) N (zn R.length) X)) := by
  have fin : ∀ (A B : List Nat) (X1 : zq_M), R = A ++ B → (∀ x ∈ A, s w < s x) → zk_ins s w B = w :: B → zf1 37 X X1 → (∀ i p, A[i]? = some p → X1.1 37 (A.length + B.length - i) = zn p) → (∀ i p, B[i]? = some p → X1.1 37 (B.length - 1 - i) = zn p) → Q (g (j_X6_lineUp_75 (zn R.length) (zn w) rc (zn B.length) X1)) := by
    intro A B X1 e1 e2 e3 e4 e5 e6
    have hl : R.length = A.length + B.length := by rw [e1, List.length_append]
    unfold j_X6_lineUp_75
    simp (disch := omega) only [zl_0, zl_1, zl_2, zl_3, zl_4, zl_5, zl_6, zn_ck, zn_ix, zn_add, zn_sub, zn_mul, zn_le, zn_lt, zn_eq, zn_plc1, zn_shl, zn_or, zn_bitc, Option.bind_some, zq_p, zq_b, Nat.one_mul, Nat.zero_add, Nat.add_zero]
    refine K _ (zf1_u e4) ?_
    rw [e1, zk_insA s w A B e2, e3]
    intro i p hi
    rw [List.getElem?_append] at hi
    simp only [List.length_append, List.length_cons]
    by_cases h : i < A.length
    · rw [if_pos h] at hi
      rw [zq_us1 (by omega)]
      have t := e5 i p hi
      rw [show A.length + (B.length + 1) - 1 - i = A.length + B.length - i by omega]
      exact t
    · rw [if_neg h] at hi
      by_cases h3 : i - A.length = 0
      · rw [h3] at hi
        simp at hi
        rw [zq_g1, if_pos ⟨rfl, by omega⟩, hi]
      · obtain ⟨d, hd⟩ : ∃ d, i - A.length = d + 1 := ⟨i - A.length - 1, by omega⟩
        rw [hd] at hi
        simp at hi
        have hdl : d < B.length := (List.getElem?_eq_some_iff.mp hi).1
        rw [zq_us1 (by omega)]
        rw [show A.length + (B.length + 1) - 1 - i = B.length - 1 - d by omega]
        exact e6 d p hi
  refine zL (α := Int32 → zq_M → Option (Int32 × zq_M)) (fun (q : List Nat × List Nat × zq_M) _ f => f (zn q.2.1.length) q.2.2) (fun k q => q.1.length = k ∧ R = q.1 ++ q.2.1 ∧ (∀ x ∈ q.1, s w < s x) ∧ zf1 37 X q.2.2 ∧ (∀ i p, q.1[i]? = some p → q.2.2.1 37 (q.1.length + q.2.1.length - i) = zn p) ∧ (∀ i p, q.2.1[i]? = some p → q.2.2.1 37 (q.2.1.length - 1 - i) = zn p)) (fun o => Q (g o)) R.length ?_ ?_ N 0 ([], R, X) (by omega) (by omega) ⟨rfl, rfl, (fun x hx => by cases hx), zf1_r _ _, (fun i p h => by simp at h), hr⟩
  · rintro f k ⟨A, B, X1⟩ hk ⟨e0, e1, e2, e4, e5, e6⟩ ih
    dsimp only at e0 e1 e2 e4 e5 e6 ih ⊢
    have hl : R.length = A.length + B.length := by rw [e1, List.length_append]
    cases B with
    | nil => simp at hl; omega
    | cons x B =>
      have hx : x < w := hR x (by rw [e1]; simp)
      have hlx := e6 0 x rfl
      simp only [List.length_cons] at hl hlx e5 e6 ⊢
      rw [show B.length + 1 - 1 - 0 = B.length by omega] at hlx
      have hf := e4.2 a2 h2
      have s1 := hs x (by omega)
      have s2 := hs w (by omega)
      have l1 := hsl x (by omega)
      have l2 := hsl w (by omega)
      unfold b_X6_lineUp_30
      simp (disch := omega) only [zl_0, zl_1, zl_2, zl_3, zl_4, zl_5, zl_6, zn_ck, zn_ix, zn_add, zn_sub, zn_mul, zn_le, zn_lt, zn_eq, zn_plc1, zn_shl, zn_or, zn_bitc, Option.bind_some, zq_p, zq_b, Nat.one_mul, Nat.zero_add, Nat.add_zero, hlx, hf, s1, s2]
      rw [if_neg (by omega)]
      simp (disch := omega) only [zl_0, zl_1, zl_2, zl_3, zl_4, zl_5, zl_6, zn_ck, zn_ix, zn_add, zn_sub, zn_mul, zn_le, zn_lt, zn_eq, zn_plc1, zn_shl, zn_or, zn_bitc, Option.bind_some, zq_p, zq_b, Nat.one_mul, Nat.zero_add, Nat.add_zero, Nat.add_sub_cancel, hlx, hf, s1, s2]
      by_cases hc : s x ≤ s w
      · rw [if_pos hc]
        exact fin A (x :: B) X1 e1 e2 (by unfold zk_ins; rw [if_neg (by omega)]) e4 e5 e6
      · rw [if_neg hc]
        have en : zn (B.length + 1) + (-(zn 1)) = zn B.length := by
          have := zn_sub (a := B.length + 1) (b := 1) (by omega)
          rw [Nat.add_sub_cancel] at this
          rw [← this, Int32.sub_eq_add_neg]
        rw [en]
        refine ih (A ++ [x], B, zq_u1 X1 37 (B.length + 1) (zn x)) ⟨?_, ?_, ?_, zf1_u e4, ?_, ?_⟩
        · simp; omega
        · rw [e1]; simp
        · intro y hy
          rw [List.mem_append] at hy
          rcases hy with hy | hy
          · exact e2 y hy
          · simp at hy; subst hy; omega
        · intro i p hi
          dsimp only at hi ⊢
          simp only [List.length_append, List.length_cons, List.length_nil] at *
          rw [List.getElem?_append] at hi
          by_cases h : i < A.length
          · rw [if_pos h] at hi
            rw [zq_us1 (by omega)]
            rw [show A.length + (0 + 1) + B.length - i = A.length + (B.length + 1) - i by omega]
            exact e5 i p hi
          · rw [if_neg h] at hi
            have h3 : i - A.length = 0 := by
              have := (List.getElem?_eq_some_iff.mp hi).1
              simp at this; omega
            rw [h3] at hi
            simp at hi
            rw [zq_g1, if_pos ⟨rfl, by omega⟩, hi]
        · intro i p hi
          dsimp only at hi ⊢
          have hdl : i < B.length := (List.getElem?_eq_some_iff.mp hi).1
          rw [zq_us1 (by omega)]
          rw [show B.length - 1 - i = B.length + 1 - 1 - (i + 1) by omega]
          exact e6 (i + 1) p (by simpa using hi)
  · rintro f ⟨A, B, X1⟩ ⟨e0, e1, e2, e4, e5, e6⟩
    dsimp only at e0 e1 e2 e4 e5 e6 ⊢
    have hl : R.length = A.length + B.length := by rw [e1, List.length_append]
    have hB : B = [] := List.eq_nil_of_length_eq_zero (by omega)
    subst hB
    unfold b_X6_lineUp_30
    rw [if_pos (by decide)]
    exact fin A [] X1 e1 e2 rfl e4 e5 e6
theorem zy_line {N j a2 t n : Nat} {X : zq_M} {s : Nat → Nat} (hN : 7 < N) (h0 : X.1 1 0 = zn n) (hn : n ≤ 5) (h2 : a2 ≠ 37) (ht : t < 1024) (hs : ∀ i, i < 5 → X.1 a2 i = zn (s i)) (hsl : ∀ i, i < 5 → s i < 100) : ∃ X1, f_X6_lineUp N j X (zn t) a2 = some (zn (zs_cnt (zs_bit t) n), X1) ∧ zf1 37 X X1 ∧ zk_row X1 37 (zk_line s (zs_bit t) n) := by
  unfold f_X6_lineUp
  refine zL (α := Int32 → Int32 → zq_M → Option (Int32 × zq_M)) (fun (X1 : zq_M) k f => f (zn (zk_line s (zs_bit t) k).length) (zn k) X1) (fun k X1 => zf1 37 X X1 ∧ zk_row X1 37 (zk_line s (zs_bit t) k)) (fun o => ∃ X1, o = some (zn (zs_cnt (zs_bit t) n), X1) ∧ zf1 37 X X1 ∧ zk_row X1 37 (zk_line s (zs_bit t) n)) n ?_ ?_ N 0 X (by omega) (by omega) ⟨zf1_r _ _, fun i p h => by simp [zk_line] at h⟩
  · intro f k X1 hk ⟨e1, e2⟩ ih
    have hf := e1.2 1 (by omega)
    unfold b_X6_lineUp_5
    simp (disch := omega) only [zl_0, zl_1, zl_2, zl_3, zl_4, zl_5, zl_6, zn_ck, zn_ix, zn_add, zn_sub, zn_mul, zn_le, zn_lt, zn_eq, zn_plc1, zn_shl, zn_or, zn_bitc, Option.bind_some, zq_p, zq_b, Nat.one_mul, Nat.zero_add, Nat.add_zero, hf, h0]
    rw [if_neg (by omega)]
    by_cases hc : zs_bit t k = true
    · simp only [hc, not_true, if_false]
      have hrw : zk_line s (zs_bit t) (k + 1) = zk_ins s k (zk_line s (zs_bit t) k) := by
        show (if _ then _ else _) = _
        rw [if_pos hc]
      have hle : (zk_line s (zs_bit t) (k + 1)).length = (zk_line s (zs_bit t) k).length + 1 := by
        rw [zk_linel, zk_linel, zs_ct hc]
      refine zy_ins (g := id) (fun o => ∃ X1, o = some (zn (zs_cnt (zs_bit t) n), X1) ∧ zf1 37 X X1 ∧ zk_row X1 37 (zk_line s (zs_bit t) n)) hN h2 (by omega) (fun x hx => ((zk_linem s _ k x).mp hx).1) (by rw [zk_linel]; exact zs_cle _ _) (fun i hi => by rw [e1.2 a2 h2]; exact hs i hi) hsl e2 ?_
      intro X2 g1 g2
      have := ih X2 ⟨zf1_t e1 g1, by rw [hrw]; exact g2⟩
      rw [hle] at this
      exact this
    · simp only [hc, not_false_iff, if_true]
      have hrw : zk_line s (zs_bit t) (k + 1) = zk_line s (zs_bit t) k := by
        show (if _ then _ else _) = _
        rw [if_neg hc]
      have := ih X1 ⟨e1, by rw [hrw]; exact e2⟩
      rw [hrw] at this
      exact this
  · intro f X1 ⟨e1, e2⟩
    have hf := e1.2 1 (by omega)
    unfold b_X6_lineUp_5
    simp (disch := omega) only [zl_0, zl_1, zl_2, zl_3, zl_4, zl_5, zl_6, zn_ck, zn_ix, zn_add, zn_sub, zn_mul, zn_le, zn_lt, zn_eq, zn_plc1, zn_shl, zn_or, zn_bitc, Option.bind_some, zq_p, zq_b, Nat.one_mul, Nat.zero_add, Nat.add_zero, hf, h0]
    rw [if_pos (by omega)]
    exact ⟨X1, by rw [zk_linel], e1, e2⟩
