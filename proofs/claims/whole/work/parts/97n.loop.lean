def zD_r (i h : Nat) (W U E : Nat → Nat) (T : Nat → List Nat) (X M : zq_M) (c : Nat) : Prop := W c < 4 ∧ U c < 100 ∧ X.1 (h + 1) c = zn (W c) ∧ X.1 (h + 2) c = zn (U c) ∧ X.1 (h + 3) c = zn (E (c + 1)) ∧ E (c + 1) = E c + (T c).length ∧ (W c ≠ 3 → zt_run (T c) 0 = some 1) ∧ (∀ t k, (T c)[t]? = some k → X.1 (h + 4) (E c + t) = zt_cx k) ∧ M.1 77 (10 * i + c) = zn (W c) ∧ (W c ≠ 1 → M.1 78 (10 * i + c) = zn (U c)) ∧ (W c ≠ 3 → M.1 79 (10 * i + c) = zn (100 * i + E c) ∧ M.1 80 (10 * i + c) = zn (100 * i + E c + (T c).length) ∧ ∀ t k, (T c)[t]? = some k → M.1 81 (100 * i + E c + t) = zt_cm k)
def zDx (h : Nat) (X0 X : zq_M) : Prop := X.2 = X0.2 ∧ ∀ c, c ≠ 28 ∧ c ≠ h ∧ c ≠ h + 1 ∧ c ≠ h + 2 ∧ c ≠ h + 3 ∧ c ≠ h + 4 → X.1 c = X0.1 c
def zDm (i : Nat) (M0 M : zq_M) : Prop := M.2 = M0.2 ∧ (∀ c, c ≠ 69 ∧ (c < 76 ∨ 82 < c) → M.1 c = M0.1 c) ∧ (∀ k, k ≠ 13 ∧ k ≠ 14 ∧ k ≠ 23 ∧ k ≠ 24 ∧ k ≠ 25 → M.1 69 k = M0.1 69 k) ∧ (∀ k, k < 100 * i → M.1 81 k = M0.1 81 k) ∧ (∀ c k, 77 ≤ c → c ≤ 80 → k < 10 * i → M.1 c k = M0.1 c k) ∧ ∀ k, k ≠ i → M.1 76 k = M0.1 76 k
theorem zDx_g {h B n : Nat} {X0 X X1 : zq_M} (f : zDx h X0 X) (g : zXg h B n X X1) : zDx h X0 X1 := ⟨g.1.trans f.1, fun c hc => (g.2.1 c hc).trans (f.2 c hc)⟩
theorem zDm_g {i B n : Nat} {M0 M M1 : zq_M} (f : zDm i M0 M) (g : zCf (100 * i + B) (10 * i + n) M M1) : zDm i M0 M1 := by
  obtain ⟨f1, f2, f3, f4, f5, f6⟩ := f
  obtain ⟨g1, g2, g3, g4, g5⟩ := g
  exact ⟨g1.trans f1, fun c hc => (g2 c (by omega)).trans (f2 c hc), fun k hk => (g3 k hk).trans (f3 k hk), fun k hk => (g4 k (by omega)).trans (f4 k hk), fun c k h7 h8 hk => (g5 c k h7 h8 (by omega)).trans (f5 c k h7 h8 hk), fun k hk => by rw [g2 76 (by omega)]; exact f6 k hk⟩
theorem zDm_76 {i : Nat} {M0 M : zq_M} {v : Int32} (f : zDm i M0 M) : zDm i M0 (zq_u1 M 76 i v) := by
  obtain ⟨f1, f2, f3, f4, f5, f6⟩ := f
  refine ⟨f1, fun c hc => ?_, fun k hk => ?_, fun k hk => ?_, fun c k h7 h8 hk => ?_, fun k hk => ?_⟩
  · rw [zq_un (by omega)]; exact f2 c hc
  · rw [zq_un (by omega)]; exact f3 k hk
  · rw [zq_un (by omega)]; exact f4 k hk
  · rw [zq_un (by omega)]; exact f5 c k h7 h8 hk
  · rw [zq_us1 (by omega)]; exact f6 k hk
theorem zDm_13 {i : Nat} {M0 M : zq_M} {v : Int32} (f : zDm i M0 M) : zDm i M0 (zq_u1 M 69 13 v) := by
  obtain ⟨f1, f2, f3, f4, f5, f6⟩ := f
  refine ⟨f1, fun c hc => ?_, fun k hk => ?_, fun k hk => ?_, fun c k h7 h8 hk => ?_, fun k hk => ?_⟩
  · rw [zq_un (by omega)]; exact f2 c hc
  · rw [zq_us1 (by omega)]; exact f3 k hk
  · rw [zq_un (by omega)]; exact f4 k hk
  · rw [zq_un (by omega)]; exact f5 c k h7 h8 hk
  · rw [zq_un (by omega)]; exact f6 k hk
theorem zDx_28 {h : Nat} {X0 X : zq_M} {v : Int32} (f : zDx h X0 X) : zDx h X0 (zq_u1 X 28 2 v) := ⟨f.1, fun c hc => by rw [zq_un (by omega)]; exact f.2 c hc⟩
def zD_S (j h : Nat) (t : Nat → Nat) (L i : Nat) (X0 M0 : zq_M) (n p : Nat) (W U E : Nat → Nat) (T : Nat → List Nat) (X M : zq_M) : Prop := zXM j h t L p X ∧ zDx h X0 X ∧ X.1 h 0 = zn n ∧ X.1 h 5 = zn (E n) ∧ X.1 h 6 = zn (zh_same W U n) ∧ zRM t L p M ∧ zDm i M0 M ∧ M.1 69 23 = zn (100 * i + E n) ∧ zC_lt M ∧ E 0 = 0 ∧ E n ≤ p ∧ ∀ c, c < n → E (c + 1) ≤ E n ∧ zD_r i h W U E T X M c
theorem zD_rf {i h n b c : Nat} {W U E W1 U1 E1 : Nat → Nat} {T T1 : Nat → List Nat} {X M X1 M1 : zq_M} (hr : zD_r i h W U E T X M c) (hc : c < n) (hE : E (c + 1) ≤ b) (w : W1 c = W c) (u : U1 c = U c) (e : E1 c = E c) (e1 : E1 (c + 1) = E (c + 1)) (tt : T1 c = T c) (x1 : ∀ k, k ≠ n → X1.1 (h + 1) k = X.1 (h + 1) k ∧ X1.1 (h + 2) k = X.1 (h + 2) k ∧ X1.1 (h + 3) k = X.1 (h + 3) k) (x4 : ∀ k, k < b → X1.1 (h + 4) k = X.1 (h + 4) k) (m : ∀ d k, 77 ≤ d → d ≤ 80 → k ≠ 10 * i + n → M1.1 d k = M.1 d k) (m81 : ∀ k, k < 100 * i + b → M1.1 81 k = M.1 81 k) : zD_r i h W1 U1 E1 T1 X1 M1 c := by
  unfold zD_r at hr ⊢
  rw [w, u, e, e1, tt]
  obtain ⟨r1, r2, r3, r4, r5, r6, r7, r8, r9, r10, r11⟩ := hr
  obtain ⟨y1, y2, y3⟩ := x1 c (by omega)
  have lt : ∀ t k, (T c)[t]? = some k → t < (T c).length := by
    intro t k h
    by_cases h2 : t < (T c).length
    · exact h2
    · rw [List.getElem?_eq_none (by omega)] at h; cases h
  refine ⟨r1, r2, y1.trans r3, y2.trans r4, y3.trans r5, r6, r7, fun t k hk => ?_, ?_, fun hw => ?_, fun hw => ?_⟩
  · have := lt t k hk
    rw [x4 _ (by omega)]; exact r8 t k hk
  · rw [m 77 _ (by omega) (by omega) (by omega)]; exact r9
  · rw [m 78 _ (by omega) (by omega) (by omega)]; exact r10 hw
  · obtain ⟨z1, z2, z3⟩ := r11 hw
    refine ⟨?_, ?_, fun t k hk => ?_⟩
    · rw [m 79 _ (by omega) (by omega) (by omega)]; exact z1
    · rw [m 80 _ (by omega) (by omega) (by omega)]; exact z2
    · have := lt t k hk
      rw [m81 _ (by omega)]; exact z3 t k hk
theorem zh_same_c {W U W1 U1 : Nat → Nat} : ∀ n, (∀ c, c < n → W1 c = W c ∧ U1 c = U c) → zh_same W1 U1 n = zh_same W U n
  | 0, _ => rfl
  | n + 1, h => by
    unfold zh_same
    rw [(h n (by omega)).1, (h n (by omega)).2, zh_same_c n (fun c hc => h c (by omega))]
def zD_up {α : Type} (f : Nat → α) (n : Nat) (v : α) : Nat → α := fun c => if c = n then v else f c
theorem zD_u1 {α : Type} {f : Nat → α} {n : Nat} {v : α} : zD_up f n v n = v := by unfold zD_up; rw [if_pos rfl]
theorem zD_u2 {α : Type} {f : Nat → α} {n c : Nat} {v : α} (h : c ≠ n) : zD_up f n v c = f c := by unfold zD_up; rw [if_neg h]
theorem zD_step {j h L i n p q w u : Nat} {t : Nat → Nat} {X0 M0 X M X1 M1 : zq_M} {W U E : Nat → Nat} {T : Nat → List Nat} {T1 : List Nat} (hs : zD_S j h t L i X0 M0 n p W U E T X M) (hx : zC_G j h t L (E n) n X q w u T1 X1) (hm : zC_H t L (100 * i + E n) (10 * i + n) M q w u T1 M1) (f1 : w < 4) (f2 : u < 100) (f3 : w ≠ 3 → zt_run T1 0 = some 1) (f4 : p + T1.length < q) : zD_S j h t L i X0 M0 (n + 1) q (zD_up W n w) (zD_up U n u) (zD_up E (n + 1) (E n + T1.length)) (zD_up T n T1) X1 (zq_u1 M1 76 i (zn (n + 1))) := by
  obtain ⟨s1, s2, s3, s4, s5, s6, s7, s8, s9, s10, s11, s12⟩ := hs
  obtain ⟨x1, x2, x3, x4, x5, x6, x7, x8, x9⟩ := hx
  obtain ⟨m1, m2, m3, m4, m5, m6⟩ := hm
  refine ⟨x1, zDx_g s2 x2, x3, ?_, ?_, zC_77 (by omega) m1, zDm_76 (zDm_g s7 m2), ?_, fun k hk => ?_, ?_, ?_, fun c hc => ?_⟩
  · rw [x4, zD_u1]
  · unfold zh_same
    rw [x5, s5, zD_u1, zD_u1, zh_same_c (W := W) (U := U) n (fun c hc => ⟨zD_u2 (by omega), zD_u2 (by omega)⟩)]
    by_cases c : w = 3
    · rw [if_pos c, if_pos c]
    · rw [if_neg c, if_neg c]
  · rw [zq_un (by omega), m3, zD_u1, Nat.add_assoc]
  · rw [zq_un (by omega), m2.2.1 83 (by omega)]; exact s9 k hk
  · rw [zD_u2 (by omega)]; exact s10
  · rw [zD_u1]; omega
  · rw [zD_u1]
    by_cases cn : c = n
    · subst cn
      refine ⟨by rw [zD_u1]; omega, ?_⟩
      unfold zD_r
      rw [zD_u1, zD_u1, zD_u1, zD_u1, zD_u2 (by omega)]
      refine ⟨f1, f2, x6, x7, x8, rfl, f3, x9, ?_, fun hw => ?_, fun hw => ?_⟩
      · rw [zq_un (by omega)]; exact m4
      · rw [zq_un (by omega)]; exact m5 hw
      · rw [zq_un (by omega), zq_un (by omega), zq_un (by omega)]; exact m6 hw
    · obtain ⟨k1, k2⟩ := s12 c (by omega)
      refine ⟨by rw [zD_u2 (by omega)]; omega, ?_⟩
      refine zD_rf (n := n) (b := E n) k2 (by omega) k1 (zD_u2 (by omega)) (zD_u2 (by omega)) (zD_u2 (by omega)) (zD_u2 (by omega)) (zD_u2 (by omega)) x2.2.2.2.2 x2.2.2.2.1 (fun d k h7 h8 hk => ?_) (fun k hk => ?_)
      · rw [zq_un (by omega)]; exact m2.2.2.2.2 d k h7 h8 hk
      · rw [zq_un (by omega)]; exact m2.2.2.2.1 k hk
theorem zD_loop {N j h L i : Nat} {t : Nat → Nat} {X0 M0 : zq_M} (hN : 200 < N) (hi : i < 6) : ∀ g n F1 F2 p W U E T X M, n + g = 10 → 0 < g → g < F1 → g < F2 → zD_S j h t L i X0 M0 n p W U E T X M →
    (∃ X1 M1 q, zq_loop (fun _ _ => none) (b_X3_readInto_35 N j) F1 (zn n) X = some (zn q, X1) ∧ zq_loop (fun _ _ => none) (b_X11_goesText_15 N (zn i)) F2 (zn n) M = some (0, M1) ∧ zDx h X0 X1 ∧ zDm i M0 M1 ∧ M1.1 69 13 = zn q ∧ q < 200) ∨
    (∃ X1 M1 n1 p1 W1 U1 E1 T1, zq_loop (fun _ _ => none) (b_X3_readInto_35 N j) F1 (zn n) X = some (-1, X1) ∧ zq_loop (fun _ _ => none) (b_X11_goesText_15 N (zn i)) F2 (zn n) M = some (1, M1) ∧ zD_S j h t L i X0 M0 n1 p1 W1 U1 E1 T1 X1 M1 ∧ n1 ≤ 10 ∧ M1.1 76 i = zn n1) := by
  intro g
  induction g with
  | zero => intro n F1 F2 p W U E T X M _ h0; omega
  | succ g ih =>
    intro n F1 F2 p W U E T X M hn _ hF1 hF2 hs
    obtain ⟨F1, rfl⟩ : ∃ G, F1 = G + 1 := ⟨F1 - 1, by omega⟩
    obtain ⟨F2, rfl⟩ : ∃ G, F2 = G + 1 := ⟨F2 - 1, by omega⟩
    have ih := ih (n + 1) F1 F2
    show (∃ X1 M1 q, b_X3_readInto_35 N j (zq_loop (fun _ _ => none) (b_X3_readInto_35 N j) F1) (zn n) X = _ ∧ b_X11_goesText_15 N (zn i) (zq_loop (fun _ _ => none) (b_X11_goesText_15 N (zn i)) F2) (zn n) M = _ ∧ _) ∨ (∃ X1 M1 n1 p1 W1 U1 E1 T1, b_X3_readInto_35 N j (zq_loop (fun _ _ => none) (b_X3_readInto_35 N j) F1) (zn n) X = _ ∧ b_X11_goesText_15 N (zn i) (zq_loop (fun _ _ => none) (b_X11_goesText_15 N (zn i)) F2) (zn n) M = _ ∧ _)
    generalize zq_loop (fun _ _ => none) (b_X3_readInto_35 N j) F1 = rx at ih ⊢
    generalize zq_loop (fun _ _ => none) (b_X11_goesText_15 N (zn i)) F2 = rm at ih ⊢
    obtain ⟨s1, s2, s3, s4, s5, s6, s7, s8, s9, s10, s11, s12⟩ := id hs
    have hL : L ≤ 100 := s1.1
    have hpL : p ≤ L := s1.2.1
    obtain ⟨a1, a2⟩ := zC_x (N := N) (by omega) (show n < 10 by omega) s1 s3 s4 s11
    obtain ⟨b1, b2⟩ := zC_m (N := N) (a := 10 * i + n) hN (by omega) s6 s9 s8 (by omega)
    unfold b_X3_readInto_35 b_X11_goesText_15
    rw [if_neg (show ¬ (10 : Int32) ≤ zn n by rw [show (10 : Int32) = zn 10 from rfl, zn_le (by omega) (by omega)]; omega), show (10 : Int32) * zn i + zn n = zn (10 * i + n) by rw [show (10 : Int32) = zn 10 from rfl, zn_mul, zn_add]]
    by_cases c1 : (zC_c t L p).1 = true
    · obtain ⟨X1, e1, g1⟩ := a2 c1
      obtain ⟨M1, e2, g2⟩ := b2 c1
      obtain ⟨f1, f2, f3, f4, f5⟩ := zC_fact c1
      have hs1 := zD_step hs g1 g2 f1 f2 f3 f5
      generalize (zC_c t L p).2.1 = q at *
      rw [e1, e2, Option.bind_some, Option.bind_some, zq_pe]
      rw [if_pos (show ¬ (1 : Int32) = 0 by decide), zq_pe, if_pos (show ¬ (1 : Int32) = 0 by decide), zn_ck (show i < 6 from hi) (by omega), zn_ix (by omega), zn_s]
      simp only [zq_b]
      have v76 : (zq_u1 M1 76 i (zn (n + 1))).1 76 i = zn (n + 1) := by rw [zq_g1, if_pos ⟨rfl, rfl⟩]
      generalize zq_u1 M1 76 i (zn (n + 1)) = M2 at *
      have H1 := hs1.1
      have H2 := hs1.2.2.2.2.2.1
      have hq := H1.2.1
      rw [H1.2.2.1, H1.2.2.2.1, H2.2.2.1, H2.2.2.2.1]
      have eq : (zn q = zn L) = (q = L) := zn_eq (by omega) (by omega)
      by_cases c2 : q = L
      · rw [if_neg (show ¬ ¬ zn q = zn L from fun h => h (eq.mpr c2)), if_neg (show ¬ ¬ zn q = zn L from fun h => h (eq.mpr c2))]
        exact Or.inr ⟨X1, M2, n + 1, q, _, _, _, _, rfl, rfl, hs1, by omega, v76⟩
      · rw [if_pos (show ¬ zn q = zn L from fun h => c2 (eq.mp h)), if_pos (show ¬ zn q = zn L from fun h => c2 (eq.mp h))]
        have e9 : (zn n = (9 : Int32)) = (n = 9) := zn_eq (b := 9) (by omega) (by omega)
        have e10 : (zn (n + 1) = (10 : Int32)) = (n + 1 = 10) := zn_eq (b := 10) (by omega) (by omega)
        by_cases c3 : n = 9
        · rw [if_pos (e9.mpr c3), if_pos (e10.mpr (by omega))]
          exact Or.inl ⟨X1, M2, q, rfl, rfl, hs1.2.1, hs1.2.2.2.2.2.2.1, H2.2.2.2.1, by omega⟩
        · rw [if_neg (show ¬ zn n = (9 : Int32) from fun h => c3 (e9.mp h)), if_neg (show ¬ zn (n + 1) = (10 : Int32) from fun h => c3 (by have := e10.mp h; omega))]
          rw [show (59 : Int32) = zn 59 from rfl, zX_eat H1 (by omega), zR_takes H2 (by omega), Option.bind_some, Option.bind_some]
          by_cases c4 : zX_nx t L q = 59
          · have p1 := zX_pp (t := t) (L := L) (p := q) (by omega)
            simp only [if_pos c4]
            rw [zq_pe, zq_pe, if_pos (show ¬ (1 : Int32) = 0 by decide), if_pos (show ¬ (1 : Int32) = 0 by decide)]
            refine ih (q + 1) _ _ _ _ _ _ (by omega) (by omega) (by omega) (by omega) (?_ : zD_S j h t L i X0 M0 (n + 1) (q + 1) (zD_up W n (zC_c t L p).2.2.1) (zD_up U n (zC_c t L p).2.2.2.1) (zD_up E (n + 1) (E n + (zC_c t L p).2.2.2.2.length)) (zD_up T n (zC_c t L p).2.2.2.2) _ _)
            obtain ⟨w1, w2, w3, w4, w5, w6, w7, w8, w9, w10, w11, w12⟩ := hs1
            have h111 : 111 ≤ h := w1.2.2.2.2.2.2.2.1
            refine ⟨zX_at w1 (by omega), zDx_28 w2, ?_, ?_, ?_, zR_at w6 (by omega), zDm_13 w7, ?_, fun k hk => ?_, w10, by omega, fun c hc => ⟨(w12 c hc).1, ?_⟩⟩
            · rw [zq_un (by omega)]; exact w3
            · rw [zq_un (by omega)]; exact w4
            · rw [zq_un (by omega)]; exact w5
            · rw [zq_us1 (by omega)]; exact w8
            · rw [zq_un (by omega)]; exact w9 k hk
            · have k2 := (w12 c hc).2
              unfold zD_r at k2 ⊢
              rw [zq_un (by omega), zq_un (by omega), zq_un (by omega), zq_un (by omega), zq_un (by omega), zq_un (by omega), zq_un (by omega), zq_un (by omega), zq_un (by omega)]
              exact k2
          · simp only [if_neg c4]
            rw [zq_pe, zq_pe, if_neg (show ¬ ¬ (0 : Int32) = 0 by decide), if_neg (show ¬ ¬ (0 : Int32) = 0 by decide), H1.2.2.2.1]
            exact Or.inl ⟨X1, M2, q, rfl, rfl, hs1.2.1, hs1.2.2.2.2.2.2.1, H2.2.2.2.1, by omega⟩
    · obtain ⟨X1, e1, g1, g3⟩ := a1 (Bool.eq_false_iff.mpr c1)
      obtain ⟨M1, e2, g2, g4⟩ := b1 (Bool.eq_false_iff.mpr c1)
      generalize (zC_c t L p).2.1 = q at *
      have hq := g1.2.1
      rw [e1, e2, Option.bind_some, Option.bind_some, zq_pe]
      rw [if_neg (show ¬ ¬ (0 : Int32) = 0 by decide), zq_pe, if_neg (show ¬ ¬ (0 : Int32) = 0 by decide), g1.2.2.2.1]
      exact Or.inl ⟨X1, M1, q, rfl, rfl, zDx_g s2 g3, zDm_g s7 g4, g2.2.2.2.1, by omega⟩
