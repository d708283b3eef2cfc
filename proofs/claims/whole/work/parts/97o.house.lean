theorem zv_sc_14 {X X1 : zq_M} {s q hc hc1 : Nat} (h : ∀ c, s + 1 ≤ c → c ≤ s + 9 → X1.1 c = X.1 c) (h0 : ∀ k, k ≠ 14 → X1.1 s k = X.1 s k) (h14 : X1.1 s 14 = -1 ∨ zv_bd X1 s 14 hc1) (hs : zv_sc X s q hc) : zv_sc X1 s q hc1 := by
  have e1 := h (s + 1) (by omega) (by omega)
  have e2 := h (s + 2) (by omega) (by omega)
  have e3 := h (s + 3) (by omega) (by omega)
  have e4 := h (s + 4) (by omega) (by omega)
  have e5 := h (s + 5) (by omega) (by omega)
  have e6 := h (s + 6) (by omega) (by omega)
  have e7 := h (s + 7) (by omega) (by omega)
  have e8 := h (s + 8) (by omega) (by omega)
  have e9 := h (s + 9) (by omega) (by omega)
  have d0 := h0 0 (by omega)
  have d7 := h0 7 (by omega)
  have d8 := h0 8 (by omega)
  have d11 := h0 11 (by omega)
  have d13 := h0 13 (by omega)
  unfold zv_sc zv_bd zx at hs ⊢
  unfold zv_bd at h14
  rw [e1, e2, e3, e4, e5, e6, e7, e8, e9, d0, d7, d8, d11, d13]
  obtain ⟨a1, a2, a3, a4, a5, a6, a7, a8, a9, a10, a11, a12, a13, a14, a15, a16, a17⟩ := hs
  exact ⟨a1, a2, a3, a4, a5, a6, a7, a8, a9, a10, a11, a12, a13, a14, h14, a16, a17⟩
theorem zE_fin {q j a a1 : Nat} {X M X1 M1 : zq_M} (hI : zI q j X M) (x : ∀ c, c ≠ 0 ∧ c ≠ 1 ∧ c ≠ 28 ∧ c < 111 → X1.1 c = X.1 c) (x0 : ∀ k, k ≠ 4 ∧ k ≠ 6 → X1.1 0 k = X.1 0 k) (x04 : X1.1 0 4 = 0) (x1 : ∀ k, k ≠ 14 → X1.1 1 k = X.1 1 k) (x2 : ∀ c, c < 111 → X1.2.1 c = X.2.1 c) (x56 : X1.2.2 56 = X.2.2 56) (m : ∀ c, c ≠ 69 ∧ (c < 76 ∨ 82 < c) → M1.1 c = M.1 c) (m69 : ∀ k, k ≠ 10 ∧ k ≠ 11 ∧ k ≠ 12 ∧ k ≠ 13 ∧ k ≠ 14 ∧ k ≠ 23 ∧ k ≠ 24 ∧ k ≠ 25 → M1.1 69 k = M.1 69 k) (m12 : M1.1 69 12 = 0) (m2 : M1.2 = M.2) (h06 : X.1 0 6 = zn a) (h16 : X1.1 0 6 = zn a1) (haa : a ≤ a1) (ha7 : a1 < 7) (the : M1.1 69 11 = X1.1 1 14) (the2 : X1.1 1 14 = -1 ∨ zv_bd X1 1 14 a1) (hh : zv_hou j X1 M1) : zI (q + 1) j X1 M1 := by
  obtain ⟨⟨n1, n2⟩, g2, g3, g4, g5, g6⟩ := hI
  have z0 : zx X 0 6 = a := by unfold zx; rw [h06, zn_ix (by omega)]
  have z1 : zx X1 0 6 = a1 := by unfold zx; rw [h16, zn_ix (by omega)]
  refine ⟨⟨?_, ?_⟩, ?_, ?_, ?_, ?_, hh⟩
  · rw [z1]
    exact zv_sc_mono (zv_sc_14 (fun c _ _ => x c (by omega)) x1 the2 n1)
  · unfold zv_eq zx at n2 ⊢
    rw [x1 0 (by omega), x (1 + 1) (by omega), x (1 + 2) (by omega), x (1 + 3) (by omega), x (1 + 4) (by omega), x (1 + 5) (by omega), x (1 + 6) (by omega), x (1 + 7) (by omega), x (1 + 8) (by omega), x (1 + 9) (by omega), x1 7 (by omega), x1 8 (by omega), x1 11 (by omega), x1 13 (by omega), m69 0 (by omega), m69 1 (by omega), m69 2 (by omega), m69 3 (by omega), m69 36 (by omega), m69 42 (by omega), m 70 (by omega), m 71 (by omega), m 72 (by omega), m 73 (by omega), m 74 (by omega), m 93 (by omega), m 94 (by omega), m 96 (by omega)]
    obtain ⟨b1, b2, b3, b4, b5, b6⟩ := n2
    exact ⟨b1, b2, b3, b4, the, b6⟩
  · unfold zv_img at g2 ⊢
    rw [z0] at g2
    rw [z1, x0 2 (by omega), m69 45 (by omega)]
    rcases g2 with g2 | ⟨i1, i2, i3, i4⟩
    · exact Or.inl g2
    · refine Or.inr ⟨i1, i2, zv_sc_mono (zv_sc_14 (fun c _ _ => x c (by omega)) (fun k _ => by rw [x 11 (by omega)]) ?_ i3), ?_⟩
      · have e := i3.2.2.2.2.2.2.2.2.2.2.2.2.2.2.1
        rw [x 11 (by omega)]
        rcases e with e | e
        · exact Or.inl e
        · refine Or.inr ?_
          unfold zv_bd at e ⊢
          obtain ⟨b, hb, e⟩ := e
          exact ⟨b, by omega, by rw [x 11 (by omega)]; exact e⟩
      · unfold zv_eq zx at i4 ⊢
        rw [x 11 (by omega), x (11 + 1) (by omega), x (11 + 2) (by omega), x (11 + 3) (by omega), x (11 + 4) (by omega), x (11 + 5) (by omega), x (11 + 6) (by omega), x (11 + 7) (by omega), x (11 + 8) (by omega), x (11 + 9) (by omega), m69 47 (by omega), m69 48 (by omega), m69 49 (by omega), m69 50 (by omega), m69 46 (by omega), m69 51 (by omega), m69 52 (by omega), m 98 (by omega), m 99 (by omega), m 100 (by omega), m 101 (by omega), m 102 (by omega), m 103 (by omega), m 104 (by omega), m 105 (by omega)]
        exact i4
  · obtain ⟨t1, t2, t3⟩ := g3
    refine ⟨⟨0, by omega, x04⟩, m12.trans x04.symm, fun i hi => ?_⟩
    unfold zv_bd
    rw [x 21 (by omega), m 75 (by omega)]
    exact t3 i hi
  · exact zv_act_fr (congrFun (x 54 (by omega)) 1) (x 55 (by omega)) (m69 61 (by omega)) (m 106 (by omega)) g4
  · exact zv_tap_fr (fun c _ _ => x c (by omega)) (fun c _ _ => x2 c (by omega)) x56 (m 107 (by omega)) (m 108 (by omega)) (by rw [m2]) g5
def zDn (a : Nat) (M M1 : zq_M) : Prop := (∀ k, k < 100 * a → M1.1 81 k = M.1 81 k) ∧ (∀ c k, 77 ≤ c → c ≤ 80 → k < 10 * a → M1.1 c k = M.1 c k) ∧ ∀ k, k ≠ a → M1.1 76 k = M.1 76 k
theorem zE_old {i a h C : Nat} {W U F : Nat → Nat} {T : Nat → List Nat} {M M1 : zq_M} (hm : zDn a M M1) (hi : i < a) (hC : C ≤ 10) (hh : zh_m M i C W U F T) : zh_m M1 i C W U F T := by
  obtain ⟨f4, f5, f6⟩ := hm
  obtain ⟨h1, h2, h3⟩ := hh
  refine ⟨h1, (f6 i (by omega)).trans h2, fun c hc => ?_⟩
  obtain ⟨r1, r2, r3⟩ := h3 c hc
  refine ⟨(f5 77 _ (by omega) (by omega) (by omega)).trans r1, fun hw => (f5 78 _ (by omega) (by omega) (by omega)).trans (r2 hw), fun hw => ?_⟩
  obtain ⟨s1, s2, s3, s4⟩ := r3 hw
  refine ⟨s1, (f5 79 _ (by omega) (by omega) (by omega)).trans s2, (f5 80 _ (by omega) (by omega) (by omega)).trans s3, fun t k hk => ?_⟩
  have ht : t < (T c).length := by
    by_cases h2 : t < (T c).length
    · exact h2
    · rw [List.getElem?_eq_none (by omega)] at hk; cases hk
  exact (f4 _ (by omega)).trans (s4 t k hk)
theorem zE_hou {j a : Nat} {X M X1 M1 : zq_M} (h06 : X.1 0 6 = zn a) (ha : a < 7) (hh : zv_hou j X M) (x : ∀ c, 110 < c → c < 111 + 5 * a → X1.1 c = X.1 c) (x22 : ∀ i, X1.2.2 22 i = X.2.2 22 i) (hm : zDn a M M1) : ∀ i, i < a → ∃ h : Nat, h < j ∧ X1.2.2 22 i = some (111 + 5 * h) ∧ zv_hh X1 M1 (111 + 5 * h) i := by
  intro i hi
  obtain ⟨_, _, _, _, _, a5, a6, a7⟩ := hh
  obtain ⟨h, b1, b2, C, W, U, E, F, T, b3, b4⟩ := a5 i (by unfold zx; rw [h06, zn_ix (by omega)]; exact hi)
  have hhi : h = i := by
    have e := b2.symm.trans (a7 i (by omega))
    have e2 : 111 + 5 * h = 111 + 5 * i := Option.some.inj e
    omega
  subst hhi
  exact ⟨h, by omega, (x22 h).trans b2, C, W, U, E, F, T, zh_x_fr (fun c c1 c2 => x c (by omega) (by omega)) b3, zE_old (h := h) hm hi b3.1 b4⟩
theorem zE_new {j h t L i n p} {X0 M0 : zq_M} {W U E : Nat → Nat} {T : Nat → List Nat} {X M : zq_M} (hi : i < 6) (hn : n ≤ 10) (hs : zD_S j h t L i X0 M0 n p W U E T X M) (h76 : M.1 76 i = zn n) : zv_hh X M h i := by
  obtain ⟨s1, s2, s3, s4, s5, s6, s7, s8, s9, s10, s11, s12⟩ := hs
  have hL := s1.1
  have hpL := s1.2.1
  refine ⟨n, W, U, E, fun c => 100 * i + E c, T, ⟨hn, s3, s5, s10, fun c hc => ?_⟩, hi, h76, fun c hc => ?_⟩
  · obtain ⟨k1, r1, r2, r3, r4, r5, r6, r7, r8, r9⟩ := s12 c hc
    exact ⟨r1, r2, r3, r4, r5, r6, by omega, r7, r8⟩
  · obtain ⟨k1, r1, r2, r3, r4, r5, r6, r7, r8, r9, r10, r11⟩ := s12 c hc
    refine ⟨r9, r10, fun hw => ?_⟩
    obtain ⟨z1, z2, z3⟩ := r11 hw
    exact ⟨by show 100 * i + E c + (T c).length ≤ _; omega, z1, z2, z3⟩
def zE_Y (h : Nat) (X : zq_M) : zq_M := zq_u1 (zq_u1 (zq_u1 X h 0 0) h 5 0) h 6 0
theorem zE_ini (h : Nat) (X : zq_M) : (∀ c, c ≠ h → (zE_Y h X).1 c = X.1 c ∧ (zE_Y h X).2.1 c = X.2.1 c ∧ (zE_Y h X).2.2 c = X.2.2 c) ∧ (zE_Y h X).1 h 0 = 0 ∧ (zE_Y h X).1 h 5 = 0 ∧ (zE_Y h X).1 h 6 = 0 := by
  unfold zE_Y
  refine ⟨fun c hc => ⟨?_, rfl, rfl⟩, ?_, ?_, ?_⟩
  · rw [zq_un hc, zq_un hc, zq_un hc]
  · rw [zq_us1 (by omega), zq_us1 (by omega), zq_g1, if_pos ⟨rfl, rfl⟩]
  · rw [zq_us1 (by omega), zq_g1, if_pos ⟨rfl, rfl⟩]
  · rw [zq_g1, if_pos ⟨rfl, rfl⟩]
theorem zE_begin {N j h L : Nat} {X : zq_M} (hh : zq_ho (zq_shX j) h = true) : f_X3_readInto N j X h (zn L) = zq_loop (fun _ _ => none) (b_X3_readInto_35 N j) N (zn 0) (zq_u1 (zq_u1 (zq_u3 (zq_u3 (zE_Y h X) 28 3 (some h)) 28 0 (some 21)) 28 1 (if (100 : Int32) < zn L then (100 : Int32) else zn L)) 28 2 (zn 0)) := by
  unfold f_X3_readInto
  simp only [zq_b]
  have e : (zq_u3 X 28 3 (some h)).2.2 28 3 = some h := by
    show (if 28 = 28 ∧ 3 = 3 then some h else X.2.2 28 3) = some h
    exact if_pos ⟨rfl, rfl⟩
  rw [e, zX_nh hh]
  rfl
theorem zE_bm {N a : Nat} {M : zq_M} : f_X11_goesText N M (zn a) = zq_loop (fun _ _ => none) (b_X11_goesText_15 N (zn a)) N (zn 0) (zq_u1 (zq_u1 M 69 13 (zn 0)) 69 23 (zn (100 * a))) := by
  unfold f_X11_goesText
  simp only [zq_b]
  rw [show (100 : Int32) = zn 100 from rfl, zn_mul]
  rfl
theorem zE_start {j h L a : Nat} {t : Nat → Nat} {X M : zq_M} (hL : L ≤ 100) (hh : zq_ho (zq_shX j) h = true) (h111 : 111 ≤ h) (ht : ∀ i, i < 100 → t i < 128 ∧ X.1 21 i = zn (t i)) (h0 : X.1 h 0 = 0 ∧ X.1 h 5 = 0 ∧ X.1 h 6 = 0) (m12 : M.1 69 12 = zn L) (hl : zC_lt M) (m75 : ∀ i, i < 100 → M.1 75 i = zn (t i)) : zD_S j h t L a (zq_u1 (zq_u1 (zq_u3 (zq_u3 X 28 3 (some h)) 28 0 (some 21)) 28 1 (zn L)) 28 2 (zn 0)) M 0 0 (fun _ => 0) (fun _ => 0) (fun _ => 0) (fun _ => []) (zq_u1 (zq_u1 (zq_u3 (zq_u3 X 28 3 (some h)) 28 0 (some 21)) 28 1 (zn L)) 28 2 (zn 0)) (zq_u1 (zq_u1 M 69 13 (zn 0)) 69 23 (zn (100 * a))) := by
  have e : (zq_u1 (zq_u1 (zq_u3 (zq_u3 X 28 3 (some h)) 28 0 (some 21)) 28 1 (zn L)) 28 2 (zn 0)).1 h = X.1 h := by
    rw [zq_un (by omega), zq_un (by omega)]; rfl
  refine ⟨⟨hL, by omega, ?_, ?_, ?_, ?_, hh, h111, fun i hi => ?_⟩, ⟨rfl, fun _ _ => rfl⟩, ?_, ?_, ?_, ⟨hL, by omega, ?_, ?_, fun i hi => ?_⟩, ⟨rfl, fun c hc => ?_, fun k hk => ?_, fun k hk => ?_, fun c k _ _ hk => ?_, fun k hk => ?_⟩, ?_, fun i hi => ?_, rfl, Nat.le_refl 0, fun c hc => absurd hc (by omega)⟩
  · rw [zq_us1 (by omega), zq_g1, if_pos ⟨rfl, rfl⟩]
  · rw [zq_g1, if_pos ⟨rfl, rfl⟩]
  · rfl
  · rfl
  · rw [zq_un (by omega), zq_un (by omega)]; exact ht i hi
  · rw [e]; exact h0.1
  · rw [e]; exact h0.2.1
  · rw [e]; exact h0.2.2
  · rw [zq_us1 (by omega), zq_us1 (by omega)]; exact m12
  · rw [zq_us1 (by omega), zq_g1, if_pos ⟨rfl, rfl⟩]
  · rw [zq_un (by omega), zq_un (by omega)]; exact ⟨(ht i hi).1, m75 i hi⟩
  · rw [zq_un (by omega), zq_un (by omega)]
  · rw [zq_us1 (by omega), zq_us1 (by omega)]
  · rw [zq_un (by omega), zq_un (by omega)]
  · rw [zq_un (by omega), zq_un (by omega)]
  · rw [zq_un (by omega), zq_un (by omega)]
  · rw [zq_g1, if_pos ⟨rfl, rfl⟩]; rfl
  · rw [zq_un (by omega), zq_un (by omega)]; exact hl i hi
theorem zI_house {N : Nat} (hN : 200 < N) : zq_op_house N zI := by
  intro q j X M hq hI
  have hI0 := hI
  obtain ⟨⟨n1, n2⟩, g2, ⟨⟨L, hL, l1⟩, l2, l3⟩, g4, g5, ⟨⟨a, ha7, h06⟩, o2, o3, o4, o5, o6, o7, o8⟩⟩ := hI
  have hh0 := hI0.2.2.2.2.2
  unfold f_X10_house f_X11_house
  rw [o2, h06]
  have e6 : (zn a = (6 : Int32)) = (a = 6) := zn_eq (b := 6) (by omega) (by omega)
  by_cases c6 : a = 6
  · rw [if_neg (show ¬ zn a < (6 : Int32) by rw [zl_6, zn_lt (by omega) (by omega)]; omega), if_neg (show ¬ ¬ zn a = (6 : Int32) from fun h => h (e6.mpr c6))]
    exact ⟨_, _, _, rfl, rfl, zI_idle q j X M hI0⟩
  rw [if_pos (show zn a < (6 : Int32) by rw [zl_6, zn_lt (by omega) (by omega)]; omega), if_pos (show ¬ zn a = (6 : Int32) from fun h => c6 (e6.mp h))]
  have hho : zq_ho (zq_shX j) (111 + 5 * a) = true := zq_hno j a (by omega)
  obtain ⟨y2, y3⟩ := zE_ini (111 + 5 * a) X
  simp only [zq_b]
  rw [zn_ck (by omega) (by omega), zn_ix (by omega), o8 a (by omega), zX_nh hho, l1, zE_begin hho, zE_bm, if_neg (show ¬ (100 : Int32) < zn L by rw [show (100 : Int32) = zn 100 from rfl, zn_lt (by omega) (by omega)]; omega)]
  have ht : ∀ i, i < 100 → zx X 21 i < 128 ∧ X.1 21 i = zn (zx X 21 i) := by
    intro i hi
    obtain ⟨b, hb, e⟩ := (l3 i hi).1
    unfold zx
    rw [e, zn_ix (by omega)]
    exact ⟨hb, rfl⟩
  generalize zE_Y (111 + 5 * a) X = Y at *
  have hS := zE_start (a := a) (j := j) (h := 111 + 5 * a) (t := zx X 21) (L := L) (X := Y) (M := M) (by omega) hho (by omega) (fun i hi => by rw [(y2 21 (by omega)).1]; exact ht i hi) y3 (l2.trans l1) o5 (fun i hi => by rw [(l3 i hi).2]; exact (ht i hi).2)
  have x3 : ∀ c, c ≠ 28 ∧ c < 111 + 5 * a → (zq_u1 (zq_u1 (zq_u3 (zq_u3 Y 28 3 (some (111 + 5 * a))) 28 0 (some 21)) 28 1 (zn L)) 28 2 (zn 0)).1 c = X.1 c := fun c hc => by
    rw [zq_un (by omega), zq_un (by omega)]; exact (y2 c (by omega)).1
  have x31 : (zq_u1 (zq_u1 (zq_u3 (zq_u3 Y 28 3 (some (111 + 5 * a))) 28 0 (some 21)) 28 1 (zn L)) 28 2 (zn 0)).2.1 = Y.2.1 := rfl
  have x32 : ∀ c, c ≠ 28 → (zq_u1 (zq_u1 (zq_u3 (zq_u3 Y 28 3 (some (111 + 5 * a))) 28 0 (some 21)) 28 1 (zn L)) 28 2 (zn 0)).2.2 c = Y.2.2 c := fun c hc => by
    funext k
    show (if c = 28 ∧ k = 0 then _ else if c = 28 ∧ k = 3 then _ else Y.2.2 c k) = _
    rw [if_neg (by omega), if_neg (by omega)]
  have zl := zD_loop (N := N) (i := a) hN (by omega) 10 0 N N 0 _ _ _ _ _ _ rfl (by omega) (by omega) (by omega) hS
  generalize zq_u1 (zq_u1 (zq_u3 (zq_u3 Y 28 3 (some (111 + 5 * a))) 28 0 (some 21)) 28 1 (zn L)) 28 2 (zn 0) = X3 at *
  generalize zq_u1 (zq_u1 M 69 13 (zn 0)) 69 23 (zn (100 * a)) = M3 at *
  rcases zl with ⟨X4, M4, p, e1, e2, d1, d2, d3, d4⟩ | ⟨X4, M4, n, p, W, U, E, T, e1, e2, d1, d2, d3⟩
  · rw [e1, e2, Option.bind_some, Option.bind_some, zq_pe]
    rw [if_neg (zn_n0 (by omega)), zq_pe, if_neg (show ¬ ¬ (0 : Int32) = 0 by decide), zq_us1 (by omega), d3]
    refine ⟨_, _, _, rfl, rfl, ?_⟩
    have f1 : ∀ c, c ≠ 28 ∧ c < 111 + 5 * a → X4.1 c = X.1 c := fun c hc => (d1.2 c (by omega)).trans (x3 c hc)
    have f22 : ∀ c, c ≠ 28 ∧ c < 111 + 5 * a → X4.2.2 c = X.2.2 c := fun c hc => by rw [d1.1, x32 c hc.1]; exact (y2 c (by omega)).2.2
    obtain ⟨k1, k2, k3, k4, k5, k6⟩ := d2
    refine zE_fin (a := a) (a1 := a) hI0 (fun c hc => ?_) (fun k hk => ?_) ?_ (fun k hk => ?_) (fun c hc => ?_) ?_ (fun c hc => ?_) (fun k hk => ?_) ?_ k1 h06 ?_ (Nat.le_refl a) (by omega) ?_ ?_ ?_
    · rw [zq_un (by omega)]; exact f1 c (by omega)
    · rw [zq_us1 (by omega)]; exact congrFun (f1 0 (by omega)) k
    · rw [zq_g1, if_pos ⟨rfl, rfl⟩]
    · rw [zq_un (by omega)]; exact congrFun (f1 1 (by omega)) k
    · show X4.2.1 c = X.2.1 c
      rw [d1.1, x31]; exact (y2 c (by omega)).2.1
    · exact f22 56 (by omega)
    · rw [zq_un (by omega)]; exact k2 c hc
    · rw [zq_us1 (by omega)]; exact k3 k (by omega)
    · rw [zq_g1, if_pos ⟨rfl, rfl⟩]
    · rw [zq_us1 (by omega), f1 0 (by omega)]; exact h06
    · rw [zq_us1 (by omega), zq_un (by omega), f1 1 (by omega), k3 11 (by omega)]; exact n2.2.2.2.2.1
    · have e := n1.2.2.2.2.2.2.2.2.2.2.2.2.2.2.1
      unfold zv_bd at e ⊢
      rw [zq_un (by omega), f1 1 (by omega)]
      unfold zx at e
      rw [h06, zn_ix (by omega)] at e
      exact e
    · refine ⟨⟨a, ha7, ?_⟩, ?_, ?_, ?_, fun i hi => ?_, fun i hi => ?_, o7, fun i hi => (congrFun (f22 22 (by omega)) i).trans (o8 i hi)⟩
      · rw [zq_us1 (by omega), f1 0 (by omega)]; exact h06
      · rw [zq_us1 (by omega), zq_us1 (by omega), f1 0 (by omega), k3 10 (by omega), h06]; exact o2.trans h06
      · rw [zq_un (by omega), f1 23 (by omega)]; exact o3
      · rw [zq_un (by omega), f1 23 (by omega)]; exact o4
      · rw [zq_un (by omega), k2 83 (by omega)]; exact o5 i hi
      · unfold zx at hi
        rw [zq_us1 (by omega), f1 0 (by omega), h06, zn_ix (by omega)] at hi
        refine zE_hou (X := X) (M := M) h06 ha7 hh0 (fun c c1 c2 => ?_) (fun i => ?_) ⟨fun k hk => ?_, fun c k h7 h8 hk => ?_, fun k hk => ?_⟩ i hi
        · rw [zq_un (by omega)]; exact f1 c (by omega)
        · exact congrFun (f22 22 (by omega)) i
        · rw [zq_un (by omega)]; exact k4 k hk
        · rw [zq_un (by omega)]; exact k5 c k h7 h8 hk
        · rw [zq_un (by omega)]; exact k6 k hk
  · have f1 : ∀ c, c ≠ 28 ∧ c < 111 + 5 * a → X4.1 c = X.1 c := fun c hc => (d1.2.1.2 c (by omega)).trans (x3 c hc)
    have f22 : ∀ c, c ≠ 28 ∧ c < 111 + 5 * a → X4.2.2 c = X.2.2 c := fun c hc => by rw [d1.2.1.1, x32 c hc.1]; exact (y2 c (by omega)).2.2
    have f21 : ∀ c, c < 111 + 5 * a → X4.2.1 c = X.2.1 c := fun c hc => by rw [d1.2.1.1, x31]; exact (y2 c (by omega)).2.1
    obtain ⟨k1, k2, k3, k4, k5, k6⟩ := d1.2.2.2.2.2.2.1
    have hn := zE_new (by omega) d2 d1 d3
    clear d1 hS
    have v1 : (zq_u1 X4 0 4 0).1 0 6 = zn a := by rw [zq_us1 (by omega), f1 0 (by omega)]; exact h06
    have v3 : (zq_u1 (zq_u1 X4 0 4 0) 1 14 (zn a)).1 0 6 = zn a := by rw [zq_un (by omega)]; exact v1
    have w1 : (zq_u1 M4 69 12 0).1 69 10 = zn a := by rw [zq_us1 (by omega), k3 10 (by omega)]; exact o2.trans h06
    have w2 : (zq_u1 (zq_u1 M4 69 12 0) 69 11 (zn a)).1 69 10 = zn a := by rw [zq_us1 (by omega)]; exact w1
    rw [e1, e2, Option.bind_some, Option.bind_some, zq_pe]
    rw [if_pos (show (-1 : Int32) < 0 by decide), zq_pe, if_pos (show ¬ (1 : Int32) = 0 by decide), v1, v3, w1, w2, zn_s]
    refine ⟨zn a, _, _, by rw [zq_us1 (by omega), zq_g1, if_pos ⟨rfl, rfl⟩], by rw [zq_us1 (by omega), zq_g1, if_pos ⟨rfl, rfl⟩], ?_⟩
    have xx : ∀ c, c ≠ 0 ∧ c ≠ 1 → (zq_u1 (zq_u1 (zq_u1 X4 0 4 0) 1 14 (zn a)) 0 6 (zn (a + 1))).1 c = X4.1 c := fun c hc => by
      rw [zq_un (by omega), zq_un (by omega)]
      show (zq_u1 X4 0 4 0).1 c = _
      rw [zq_un (by omega)]
    have x00 : ∀ k, k ≠ 6 → (zq_u1 (zq_u1 (zq_u1 X4 0 4 0) 1 14 (zn a)) 0 6 (zn (a + 1))).1 0 k = (zq_u1 X4 0 4 0).1 0 k := fun k hk => by
      rw [zq_us1 (by omega), zq_un (by omega)]
    have x06 : (zq_u1 (zq_u1 (zq_u1 X4 0 4 0) 1 14 (zn a)) 0 6 (zn (a + 1))).1 0 6 = zn (a + 1) := by rw [zq_g1, if_pos ⟨rfl, rfl⟩]
    have x11 : ∀ k, k ≠ 14 → (zq_u1 (zq_u1 (zq_u1 X4 0 4 0) 1 14 (zn a)) 0 6 (zn (a + 1))).1 1 k = X4.1 1 k := fun k hk => by
      rw [zq_un (by omega), zq_us1 (by omega)]
      show (zq_u1 X4 0 4 0).1 1 k = _
      rw [zq_un (by omega)]
    have x14 : (zq_u1 (zq_u1 (zq_u1 X4 0 4 0) 1 14 (zn a)) 0 6 (zn (a + 1))).1 1 14 = zn a := by rw [zq_un (by omega), zq_g1, if_pos ⟨rfl, rfl⟩]
    have xr : (zq_u1 (zq_u1 (zq_u1 X4 0 4 0) 1 14 (zn a)) 0 6 (zn (a + 1))).2.2 = X4.2.2 := rfl
    have xl : (zq_u1 (zq_u1 (zq_u1 X4 0 4 0) 1 14 (zn a)) 0 6 (zn (a + 1))).2.1 = X4.2.1 := rfl
    have mm : ∀ c, c ≠ 69 → (zq_u1 (zq_u1 (zq_u1 M4 69 12 0) 69 11 (zn a)) 69 10 (zn (a + 1))).1 c = M4.1 c := fun c hc => by
      rw [zq_un (by omega), zq_un (by omega), zq_un (by omega)]
    have m69 : ∀ k, k ≠ 10 ∧ k ≠ 11 ∧ k ≠ 12 → (zq_u1 (zq_u1 (zq_u1 M4 69 12 0) 69 11 (zn a)) 69 10 (zn (a + 1))).1 69 k = M4.1 69 k := fun k hk => by
      rw [zq_us1 (by omega), zq_us1 (by omega), zq_us1 (by omega)]
    have m10 : (zq_u1 (zq_u1 (zq_u1 M4 69 12 0) 69 11 (zn a)) 69 10 (zn (a + 1))).1 69 10 = zn (a + 1) := by rw [zq_g1, if_pos ⟨rfl, rfl⟩]
    have m11 : (zq_u1 (zq_u1 (zq_u1 M4 69 12 0) 69 11 (zn a)) 69 10 (zn (a + 1))).1 69 11 = zn a := by rw [zq_us1 (by omega), zq_g1, if_pos ⟨rfl, rfl⟩]
    have m12 : (zq_u1 (zq_u1 (zq_u1 M4 69 12 0) 69 11 (zn a)) 69 10 (zn (a + 1))).1 69 12 = 0 := by rw [zq_us1 (by omega), zq_us1 (by omega), zq_g1, if_pos ⟨rfl, rfl⟩]
    have mr : (zq_u1 (zq_u1 (zq_u1 M4 69 12 0) 69 11 (zn a)) 69 10 (zn (a + 1))).2 = M4.2 := rfl
    have x04 : (zq_u1 X4 0 4 0).1 0 4 = 0 := by rw [zq_g1, if_pos ⟨rfl, rfl⟩]
    have x05 : ∀ k, k ≠ 4 → (zq_u1 X4 0 4 0).1 0 k = X4.1 0 k := fun k hk => by rw [zq_us1 (by omega)]
    generalize zq_u1 (zq_u1 (zq_u1 X4 0 4 0) 1 14 (zn a)) 0 6 (zn (a + 1)) = X8 at *
    generalize zq_u1 (zq_u1 (zq_u1 M4 69 12 0) 69 11 (zn a)) 69 10 (zn (a + 1)) = M8 at *
    refine zE_fin (a := a) (a1 := a + 1) hI0 (fun c hc => ?_) (fun k hk => ?_) ?_ (fun k hk => ?_) (fun c hc => ?_) ?_ (fun c hc => ?_) (fun k hk => ?_) m12 (mr.trans k1) h06 x06 (by omega) (by omega) (m11.trans x14.symm) (Or.inr ⟨a, by omega, x14⟩) ?_
    · rw [xx c (by omega)]; exact f1 c (by omega)
    · rw [x00 k (by omega), x05 k (by omega)]; exact congrFun (f1 0 (by omega)) k
    · rw [x00 4 (by omega)]; exact x04
    · rw [x11 k hk]; exact congrFun (f1 1 (by omega)) k
    · rw [xl]; exact f21 c (by omega)
    · rw [xr]; exact f22 56 (by omega)
    · rw [mm c (by omega)]; exact k2 c hc
    · rw [m69 k (by omega)]; exact k3 k (by omega)
    · refine ⟨⟨a + 1, by omega, x06⟩, m10.trans x06.symm, ?_, ?_, fun i hi => ?_, fun i hi => ?_, o7, fun i hi => by rw [xr]; exact (congrFun (f22 22 (by omega)) i).trans (o8 i hi)⟩
      · rw [xx 23 (by omega), f1 23 (by omega)]; exact o3
      · rw [xx 23 (by omega), f1 23 (by omega)]; exact o4
      · rw [mm 83 (by omega), k2 83 (by omega)]; exact o5 i hi
      · unfold zx at hi
        rw [x06, zn_ix (by omega)] at hi
        by_cases c : i = a
        · subst c
          exact ⟨i, by omega, by rw [xr]; exact (congrFun (f22 22 (by omega)) i).trans (o8 i (by omega)), zv_hh_fr (fun c c1 c2 => xx c (by omega)) (fun c c1 c2 => mm c (by omega)) hn⟩
        · refine zE_hou (X := X) (M := M) h06 ha7 hh0 (fun c c1 c2 => ?_) (fun i => ?_) ⟨fun k hk => ?_, fun c k h7 h8 hk => ?_, fun k hk => ?_⟩ i (by omega)
          · rw [xx c (by omega)]; exact f1 c (by omega)
          · rw [xr]; exact congrFun (f22 22 (by omega)) i
          · rw [mm 81 (by omega)]; exact k4 k hk
          · rw [mm c (by omega)]; exact k5 c k h7 h8 hk
          · rw [mm 76 (by omega)]; exact k6 k hk
