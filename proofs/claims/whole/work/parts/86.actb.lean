def za_R (X0 M0 : zq_M) (r kk vv n : Nat) (X M : zq_M) : Prop := (X.2 = X0.2 ∧ (∀ c, c ≠ 54 ∧ c ≠ 55 → X.1 c = X0.1 c)) ∧ (M.2 = M0.2 ∧ (∀ c, c ≠ 69 ∧ c ≠ 106 → M.1 c = M0.1 c) ∧ ∀ k, k ≠ 61 → M.1 69 k = M0.1 69 k) ∧ X.1 54 1 = zn n ∧ M.1 69 61 = zn n ∧ (∀ i, i < 20 → M.1 106 i = X.1 55 i) ∧ X.1 54 2 = zn r ∧ X.1 54 3 = zn kk ∧ X.1 54 4 = zn vv ∧ M.1 73 r = zn kk ∧ M.1 74 r = zn vv
def za_S (R : Nat → zq_M → zq_M → Prop) (B : Nat) (fx fm : zq_M → Option (Int32 × zq_M)) : Prop := ∀ n X M, n + B ≤ 1000 → R n X M → ∃ v X1 M1 n1, fx X = some (v, X1) ∧ fm M = some (v, M1) ∧ R n1 X1 M1 ∧ n1 ≤ n + B
theorem za_note {N j r kk vv n : Nat} {X0 M0 X M : zq_M} (b : Int32) (hn : n < 1001) (h : za_R X0 M0 r kk vv n X M) : ∃ X1 M1, f_X0_note N j X b = some X1 ∧ f_X11_body N M b = some M1 ∧ za_R X0 M0 r kk vv (n + 1) X1 M1 := by
  obtain ⟨⟨a1, a2⟩, ⟨b1, b2, b3⟩, c1, c2, c3, c4, c5, c6, c7, c8⟩ := h
  have q20 : (20 : Int32) = zn 20 := rfl
  unfold f_X0_note f_X11_body
  rw [c1, c2]
  by_cases h20 : 20 ≤ n
  · rw [if_pos (by rw [q20, zn_le (by omega) (by omega)]; exact h20), if_pos (by rw [q20, zn_le (by omega) (by omega)]; exact h20)]
    refine ⟨zq_u1 X 54 1 (zn (n + 1)), zq_u1 M 69 61 (zn (n + 1)), ?_, ?_, ⟨a1, fun c hc => ?_⟩, ⟨b1, fun c hc => ?_, fun k hk => ?_⟩, ?_, ?_, fun i hi => ?_, ?_, ?_, ?_, ?_, ?_⟩
    · unfold j_X0_note_19; rw [c1, zl_1, zn_add]; rfl
    · unfold j_X11_body_19; rw [c2, zl_1, zn_add]; rfl
    · rw [zq_un (by omega)]; exact a2 c hc
    · rw [zq_un (by omega)]; exact b2 c hc
    · rw [zq_us1 (by omega)]; exact b3 k hk
    · rw [zq_g1, if_pos ⟨rfl, rfl⟩]
    · rw [zq_g1, if_pos ⟨rfl, rfl⟩]
    · rw [zq_un (by omega), zq_un (by omega)]; exact c3 i hi
    · rw [zq_us1 (by omega)]; exact c4
    · rw [zq_us1 (by omega)]; exact c5
    · rw [zq_us1 (by omega)]; exact c6
    · rw [zq_un (by omega)]; exact c7
    · rw [zq_un (by omega)]; exact c8
  · rw [if_neg (by rw [q20, zn_le (by omega) (by omega)]; exact h20), if_neg (by rw [q20, zn_le (by omega) (by omega)]; exact h20), zn_ck (by omega) (by omega), zn_ck (by omega) (by omega), zn_ix (by omega)]
    refine ⟨zq_u1 (zq_u1 X 55 n b) 54 1 (zn (n + 1)), zq_u1 (zq_u1 M 106 n b) 69 61 (zn (n + 1)), ?_, ?_, ⟨a1, fun c hc => ?_⟩, ⟨b1, fun c hc => ?_, fun k hk => ?_⟩, ?_, ?_, fun i hi => ?_, ?_, ?_, ?_, ?_, ?_⟩
    · unfold j_X0_note_19 zq_b; dsimp only; rw [zq_us1 (by omega), c1, zl_1, zn_add]
    · unfold j_X11_body_19 zq_b; dsimp only; rw [zq_us1 (by omega), c2, zl_1, zn_add]
    · rw [zq_un (by omega), zq_un (by omega)]; exact a2 c hc
    · rw [zq_un (by omega), zq_un (by omega)]; exact b2 c hc
    · rw [zq_us1 (by omega), zq_us1 (by omega)]; exact b3 k hk
    · rw [zq_g1, if_pos ⟨rfl, rfl⟩]
    · rw [zq_g1, if_pos ⟨rfl, rfl⟩]
    · rw [zq_un (c := 69) (by omega), zq_un (c := 54) (by omega), zq_g1, zq_g1]
      by_cases h9 : i = n
      · rw [if_pos ⟨rfl, h9⟩, if_pos ⟨rfl, h9⟩]
      · rw [if_neg (fun h => h9 h.2), if_neg (fun h => h9 h.2)]; exact c3 i hi
    · rw [zq_us1 (by omega), zq_us1 (by omega)]; exact c4
    · rw [zq_us1 (by omega), zq_us1 (by omega)]; exact c5
    · rw [zq_us1 (by omega), zq_us1 (by omega)]; exact c6
    · rw [zq_un (by omega), zq_un (by omega)]; exact c7
    · rw [zq_un (by omega), zq_un (by omega)]; exact c8
def za_t (k a : Nat) : Nat := [10, 11, 12, 10, 20, 12, 30, 11, 12, 10, 11, 40, 50, 51, 12, 30, 11, 60, 71, 70, 40].getD (3 * k + a) 0
theorem za_bf {N j k a : Nat} (X : zq_M) (hN : 12 < N) (hk : k < 7) (ha : a < 3) : f_X0_bodyFrom N j X (zn k) (zn a) = some (zn (za_t k a)) := by
  obtain ⟨M, rfl⟩ : ∃ M, N = M + 8 := ⟨N - 8, by omega⟩
  unfold f_X0_bodyFrom
  rcases (show k = 0 ∨ k = 1 ∨ k = 2 ∨ k = 3 ∨ k = 4 ∨ k = 5 ∨ k = 6 by omega) with rfl | rfl | rfl | rfl | rfl | rfl | rfl <;> rcases (show a = 0 ∨ a = 1 ∨ a = 2 by omega) with rfl | rfl | rfl <;> rfl
theorem za_b10 {N j : Nat} (rc : Int32 → Int32 → Int32 → Int32 → zq_M → Option (Int32 × zq_M)) {k a x d : Int32} {X X2 : zq_M} (hb : f_X0_bodyFrom N j X k a = some (zn 10)) (hd : d ≤ 40) (hn : f_X0_note N j X (zn 10) = some X2) : B_X0_doFrom N j rc k a x d X = some (x + X2.1 54 2, X2) := by
  unfold B_X0_doFrom
  rw [hb, Option.bind_some, if_neg (by decide), if_pos hd, hn]
  rfl
theorem za_b11 {N j : Nat} (rc : Int32 → Int32 → Int32 → Int32 → zq_M → Option (Int32 × zq_M)) {k a x d : Int32} {X X2 : zq_M} (hb : f_X0_bodyFrom N j X k a = some (zn 11)) (hd : d ≤ 40) (hn : f_X0_note N j X (zn 11) = some X2) : B_X0_doFrom N j rc k a x d X = (rc (X2.1 54 3) 0 x (d + 1) X2).bind (zq_p (fun v X3 => some (v - X3.1 54 4, X3))) := by
  unfold B_X0_doFrom
  rw [hb, Option.bind_some, if_neg (by decide), if_pos hd, hn]
  rfl
theorem za_b12 {N j : Nat} (rc : Int32 → Int32 → Int32 → Int32 → zq_M → Option (Int32 × zq_M)) {k a x d : Int32} {X X2 : zq_M} (hb : f_X0_bodyFrom N j X k a = some (zn 12)) (hd : d ≤ 40) (hn : f_X0_note N j X (zn 12) = some X2) : B_X0_doFrom N j rc k a x d X = (rc (X2.1 54 3) 1 x (d + 1) X2).bind (zq_p (fun v X3 => some (v * 2, X3))) := by
  unfold B_X0_doFrom
  rw [hb, Option.bind_some, if_neg (by decide), if_pos hd, hn]
  rfl
theorem za_b20 {N j : Nat} (rc : Int32 → Int32 → Int32 → Int32 → zq_M → Option (Int32 × zq_M)) {k a x d : Int32} {X X2 : zq_M} (hb : f_X0_bodyFrom N j X k a = some (zn 20)) (hd : d ≤ 40) (hn : f_X0_note N j X (zn 20) = some X2) : B_X0_doFrom N j rc k a x d X = (rc (zn 0) 1 x (d + 1) X2).bind (zq_p (fun v X3 => some (v ^^^ 6, X3))) := by
  unfold B_X0_doFrom
  rw [hb, Option.bind_some, if_neg (by decide), if_pos hd, hn]
  rfl
theorem za_b30 {N j : Nat} (rc : Int32 → Int32 → Int32 → Int32 → zq_M → Option (Int32 × zq_M)) {k a x d : Int32} {X X2 : zq_M} (hb : f_X0_bodyFrom N j X k a = some (zn 30)) (hd : d ≤ 40) (hn : f_X0_note N j X (zn 30) = some X2) : B_X0_doFrom N j rc k a x d X = (rc (zn 0) 0 (x * 3) (d + 1) X2).bind (zq_p (fun v X3 => some (v, X3))) := by
  unfold B_X0_doFrom
  rw [hb, Option.bind_some, if_neg (by decide), if_pos hd, hn]
  rfl
theorem za_b40 {N j : Nat} (rc : Int32 → Int32 → Int32 → Int32 → zq_M → Option (Int32 × zq_M)) {k a x d : Int32} {X X2 : zq_M} (hb : f_X0_bodyFrom N j X k a = some (zn 40)) (hd : d ≤ 40) (hn : f_X0_note N j X (zn 40) = some X2) : B_X0_doFrom N j rc k a x d X = (rc (zn 0) 2 x (d + 1) X2).bind (zq_p (fun v X3 => (rc (X3.1 54 3) 1 1 (d + 1) X3).bind (zq_p (fun v1 X4 => some (v + v1, X4))))) := by
  unfold B_X0_doFrom
  rw [hb, Option.bind_some, if_neg (by decide), if_pos hd, hn]
  rfl
theorem za_b50 {N j : Nat} (rc : Int32 → Int32 → Int32 → Int32 → zq_M → Option (Int32 × zq_M)) {k a x d : Int32} {X X2 : zq_M} (hb : f_X0_bodyFrom N j X k a = some (zn 50)) (hd : d ≤ 40) (hn : f_X0_note N j X (zn 50) = some X2) : B_X0_doFrom N j rc k a x d X = (rc (zn 1) 0 x (d + 1) X2).bind (zq_p (fun v X3 => some (-v, X3))) := by
  unfold B_X0_doFrom
  rw [hb, Option.bind_some, if_neg (by decide), if_pos hd, hn]
  rfl
theorem za_b51 {N j : Nat} (rc : Int32 → Int32 → Int32 → Int32 → zq_M → Option (Int32 × zq_M)) {k a x d : Int32} {X X2 : zq_M} (hb : f_X0_bodyFrom N j X k a = some (zn 51)) (hd : d ≤ 40) (hn : f_X0_note N j X (zn 51) = some X2) : B_X0_doFrom N j rc k a x d X = (rc (zn 1) 1 (x + 1) (d + 1) X2).bind (zq_p (fun v X3 => some (v, X3))) := by
  unfold B_X0_doFrom
  rw [hb, Option.bind_some, if_neg (by decide), if_pos hd, hn]
  rfl
theorem za_b60 {N j : Nat} (rc : Int32 → Int32 → Int32 → Int32 → zq_M → Option (Int32 × zq_M)) {k a x d : Int32} {X X2 : zq_M} (hb : f_X0_bodyFrom N j X k a = some (zn 60)) (hd : d ≤ 40) (hn : f_X0_note N j X (zn 60) = some X2) : B_X0_doFrom N j rc k a x d X = (rc (zn 2) 2 (x - X2.1 54 2) (d + 1) X2).bind (zq_p (fun v X3 => some (v, X3))) := by
  unfold B_X0_doFrom
  rw [hb, Option.bind_some, if_neg (by decide), if_pos hd, hn]
  rfl
theorem za_b70 {N j : Nat} (rc : Int32 → Int32 → Int32 → Int32 → zq_M → Option (Int32 × zq_M)) {k a x d : Int32} {X X2 : zq_M} (hb : f_X0_bodyFrom N j X k a = some (zn 70)) (hd : d ≤ 40) (hn : f_X0_note N j X (zn 70) = some X2) : B_X0_doFrom N j rc k a x d X = (rc (zn 3) 1 x (d + 1) X2).bind (zq_p (fun v X3 => (rc (zn 3) 0 2 (d + 1) X3).bind (zq_p (fun v1 X4 => some (v + v1, X4))))) := by
  unfold B_X0_doFrom
  rw [hb, Option.bind_some, if_neg (by decide), if_pos hd, hn]
  rfl
theorem za_b71 {N j : Nat} (rc : Int32 → Int32 → Int32 → Int32 → zq_M → Option (Int32 × zq_M)) {k a x d : Int32} {X X2 : zq_M} (hb : f_X0_bodyFrom N j X k a = some (zn 71)) (hd : d ≤ 40) (hn : f_X0_note N j X (zn 71) = some X2) : B_X0_doFrom N j rc k a x d X = (rc (zn 3) 0 x (d + 1) X2).bind (zq_p (fun v X3 => some (v ^^^ X3.1 54 4, X3))) := by
  unfold B_X0_doFrom
  rw [hb, Option.bind_some, if_neg (by decide), if_pos hd, hn]
  rfl
theorem za_h0 {N r : Nat} {M : zq_M} {x : Int32} (hr : r < 3) (h : M.1 73 r = zn 0) : f_X11_hearsAct N M (zn r) x = j_X11_hearsAct_89 N M (zn r) x := by
  unfold f_X11_hearsAct
  rw [zn_ck hr (by omega), zn_ix (by omega), h]
  rfl
theorem za_h1 {N r : Nat} {M : zq_M} {x : Int32} (hr : r < 3) (h : M.1 73 r = zn 1) : f_X11_hearsAct N M (zn r) x = j_X11_hearsAct_89 N M (zn r) x := by
  unfold f_X11_hearsAct
  rw [zn_ck hr (by omega), zn_ix (by omega), h]
  rfl
theorem za_h3 {N r : Nat} {M : zq_M} {x : Int32} (hr : r < 3) (h : M.1 73 r = zn 3) : f_X11_hearsAct N M (zn r) x = j_X11_hearsAct_89 N M (zn r) x := by
  unfold f_X11_hearsAct
  rw [zn_ck hr (by omega), zn_ix (by omega), h]
  rfl
theorem za_h2 {N r : Nat} {M : zq_M} {x : Int32} (hr : r < 3) (h : M.1 73 r = zn 2) : f_X11_hearsAct N M (zn r) x = j_X11_hearsAct_40 N M (zn r) x := by
  unfold f_X11_hearsAct
  rw [zn_ck hr (by omega), zn_ix (by omega), h]
  rfl
theorem za_h5 {N r : Nat} {M : zq_M} {x : Int32} (hr : r < 3) (h : M.1 73 r = zn 5) : f_X11_hearsAct N M (zn r) x = j_X11_hearsAct_40 N M (zn r) x := by
  unfold f_X11_hearsAct
  rw [zn_ck hr (by omega), zn_ix (by omega), h]
  rfl
theorem za_h4 {N r : Nat} {M : zq_M} {x : Int32} (hr : r < 3) (h : M.1 73 r = zn 4) : f_X11_hearsAct N M (zn r) x = (f_X11_body N M (zn 50)).bind (fun X9 => (f_X11_roomHears N X9 (zn r) x).bind (zq_p (fun v10 X11 => some (-v10, X11)))) := by
  unfold f_X11_hearsAct
  rw [zn_ck hr (by omega), zn_ix (by omega), h]
  rfl
theorem za_h6 {N r : Nat} {M : zq_M} {x : Int32} (hr : r < 3) (h : M.1 73 r = zn 6) : f_X11_hearsAct N M (zn r) x = (f_X11_body N M (zn 71)).bind (fun X6 => (f_X11_roomHears N X6 (zn r) x).bind (zq_p (fun v7 X8 => zq_ck (zn r) 3 (some (v7 ^^^ X8.1 74 (zq_ix (zn r)), X8))))) := by
  unfold f_X11_hearsAct
  rw [zn_ck hr (by omega), zn_ix (by omega), h]
  rfl
theorem za_s0 {N r : Nat} {M : zq_M} {x : Int32} (hr : r < 3) (h : M.1 73 r = zn 0) : f_X11_speaksAct N M (zn r) x = (f_X11_roomSpeaks N M (zn r) x).bind (zq_p (fun v1 X2 => some (v1, X2))) := by
  unfold f_X11_speaksAct
  rw [zn_ck hr (by omega), zn_ix (by omega), h]
  rfl
theorem za_s2 {N r : Nat} {M : zq_M} {x : Int32} (hr : r < 3) (h : M.1 73 r = zn 2) : f_X11_speaksAct N M (zn r) x = (f_X11_roomSpeaks N M (zn r) x).bind (zq_p (fun v1 X2 => some (v1, X2))) := by
  unfold f_X11_speaksAct
  rw [zn_ck hr (by omega), zn_ix (by omega), h]
  rfl
theorem za_s3 {N r : Nat} {M : zq_M} {x : Int32} (hr : r < 3) (h : M.1 73 r = zn 3) : f_X11_speaksAct N M (zn r) x = (f_X11_roomSpeaks N M (zn r) x).bind (zq_p (fun v1 X2 => some (v1, X2))) := by
  unfold f_X11_speaksAct
  rw [zn_ck hr (by omega), zn_ix (by omega), h]
  rfl
theorem za_s5 {N r : Nat} {M : zq_M} {x : Int32} (hr : r < 3) (h : M.1 73 r = zn 5) : f_X11_speaksAct N M (zn r) x = (f_X11_roomSpeaks N M (zn r) x).bind (zq_p (fun v1 X2 => some (v1, X2))) := by
  unfold f_X11_speaksAct
  rw [zn_ck hr (by omega), zn_ix (by omega), h]
  rfl
theorem za_s1 {N r : Nat} {M : zq_M} {x : Int32} (hr : r < 3) (h : M.1 73 r = zn 1) : f_X11_speaksAct N M (zn r) x = (f_X11_lowerSpeaks N M (zn r) x).bind (zq_p (fun v1 X2 => some (v1, X2))) := by
  unfold f_X11_speaksAct
  rw [zn_ck hr (by omega), zn_ix (by omega), h]
  rfl
theorem za_s4 {N r : Nat} {M : zq_M} {x : Int32} (hr : r < 3) (h : M.1 73 r = zn 4) : f_X11_speaksAct N M (zn r) x = (f_X11_body N M (zn 51)).bind (fun X8 => (f_X11_lowerSpeaks N X8 (zn r) (x + 1)).bind (zq_p (fun v9 X10 => some (v9, X10)))) := by
  unfold f_X11_speaksAct
  rw [zn_ck hr (by omega), zn_ix (by omega), h]
  rfl
theorem za_s6 {N r : Nat} {M : zq_M} {x : Int32} (hr : r < 3) (h : M.1 73 r = zn 6) : f_X11_speaksAct N M (zn r) x = (f_X11_body N M (zn 70)).bind (fun X3 => (f_X11_roomSpeaks N X3 (zn r) x).bind (zq_p (fun v4 X5 => (f_X11_roomHears N X5 (zn r) 2).bind (zq_p (fun v6 X7 => some (v4 + v6, X7)))))) := by
  unfold f_X11_speaksAct
  rw [zn_ck hr (by omega), zn_ix (by omega), h]
  rfl
theorem za_t0 {N r : Nat} {M : zq_M} {x : Int32} (hr : r < 3) (h : M.1 73 r = zn 0) : f_X11_tellsAct N M (zn r) x = j_X11_tellsAct_73 N M (zn r) x := by
  unfold f_X11_tellsAct
  rw [zn_ck hr (by omega), zn_ix (by omega), h]
  rfl
theorem za_t1 {N r : Nat} {M : zq_M} {x : Int32} (hr : r < 3) (h : M.1 73 r = zn 1) : f_X11_tellsAct N M (zn r) x = j_X11_tellsAct_73 N M (zn r) x := by
  unfold f_X11_tellsAct
  rw [zn_ck hr (by omega), zn_ix (by omega), h]
  rfl
theorem za_t2 {N r : Nat} {M : zq_M} {x : Int32} (hr : r < 3) (h : M.1 73 r = zn 2) : f_X11_tellsAct N M (zn r) x = j_X11_tellsAct_73 N M (zn r) x := by
  unfold f_X11_tellsAct
  rw [zn_ck hr (by omega), zn_ix (by omega), h]
  rfl
theorem za_t4 {N r : Nat} {M : zq_M} {x : Int32} (hr : r < 3) (h : M.1 73 r = zn 4) : f_X11_tellsAct N M (zn r) x = j_X11_tellsAct_73 N M (zn r) x := by
  unfold f_X11_tellsAct
  rw [zn_ck hr (by omega), zn_ix (by omega), h]
  rfl
theorem za_t3 {N r : Nat} {M : zq_M} {x : Int32} (hr : r < 3) (h : M.1 73 r = zn 3) : f_X11_tellsAct N M (zn r) x = j_X11_tellsAct_36 N M (zn r) x := by
  unfold f_X11_tellsAct
  rw [zn_ck hr (by omega), zn_ix (by omega), h]
  rfl
theorem za_t6 {N r : Nat} {M : zq_M} {x : Int32} (hr : r < 3) (h : M.1 73 r = zn 6) : f_X11_tellsAct N M (zn r) x = j_X11_tellsAct_36 N M (zn r) x := by
  unfold f_X11_tellsAct
  rw [zn_ck hr (by omega), zn_ix (by omega), h]
  rfl
theorem za_t5 {N r : Nat} {M : zq_M} {x : Int32} (hr : r < 3) (h : M.1 73 r = zn 5) : f_X11_tellsAct N M (zn r) x = (f_X11_body N M (zn 60)).bind (fun X8 => (f_X11_roomTells N X8 (zn r) (x - zn r)).bind (zq_p (fun v9 X10 => some (v9, X10)))) := by
  unfold f_X11_tellsAct
  rw [zn_ck hr (by omega), zn_ix (by omega), h]
  rfl
