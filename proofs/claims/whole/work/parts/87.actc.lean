theorem za_c {v : Int32} {X : zq_M} {o : Option (Int32 × zq_M)} {f : Int32 × zq_M → Option (Int32 × zq_M)} {r : Option (Int32 × zq_M)} (ho : o = some (v, X)) (h : f (v, X) = r) : o.bind f = r := by
  rw [ho]; exact h
theorem za_nb {X : zq_M} {o : Option zq_M} {f : zq_M → Option (Int32 × zq_M)} {r : Option (Int32 × zq_M)} (ho : o = some X) (h : f X = r) : o.bind f = r := by
  rw [ho]; exact h
theorem za_d {e : Nat} (he : e ≤ 40) : zn e ≤ (40 : Int32) := by
  rw [show (40 : Int32) = zn 40 from rfl, zn_le (by omega) (by omega)]; exact he
theorem za_e (e : Nat) : zn e + 1 = zn (e + 1) := zn_add e 1
abbrev za_F (N j m : Nat) : Int32 → Int32 → Int32 → Int32 → zq_M → Option (Int32 × zq_M) := zq_loop (fun _ _ _ _ _ => none) (B_X0_doFrom N j) m
theorem za_H10 {N j r kk vv k e m : Nat} {X0 M0 : zq_M} (x : Int32) (hN : 12 < N) (hk : k < 7) (ht : za_t k 0 = 10) (he : e ≤ 40) : za_S (za_R X0 M0 r kk vv) 1 (fun X => za_F N j (m + 1) (zn k) 0 x (zn e) X) (fun M => f_X11_roomHears N M (zn r) x) := by
  intro n X M hn hR
  obtain ⟨X1, M1, e1, e2, R1⟩ := za_note (N := N) (j := j) (zn 10) (by omega) hR
  have hb := za_bf (N := N) (j := j) X hN hk (show 0 < 3 by omega)
  rw [ht] at hb
  refine ⟨x + zn r, X1, M1, n + 1, ?_, za_nb e2 rfl, R1, by omega⟩
  refine (za_b10 _ hb (za_d he) e1).trans ?_
  rw [R1.2.2.2.2.2.1]
theorem za_VH {N j r kk vv e : Nat} {X0 M0 : zq_M} (m : Nat) (x : Int32) (hN : 12 < N) (hr : r < 3) (hkk : kk < 7) (he : e ≤ 39) : za_S (za_R X0 M0 r kk vv) 2 (fun X => za_F N j (m + 2) (zn kk) 0 x (zn e) X) (fun M => f_X11_hearsAct N M (zn r) x) := by
  intro n X M hn hR
  have h7 := hR.2.2.2.2.2.2.2.2.1
  rcases (show kk = 0 ∨ kk = 1 ∨ kk = 2 ∨ kk = 3 ∨ kk = 4 ∨ kk = 5 ∨ kk = 6 by omega) with rfl | rfl | rfl | rfl | rfl | rfl | rfl
  · obtain ⟨v, X2, M2, n2, e1, e2, R2, e4⟩ := za_H10 (N := N) (j := j) (m := m + 1) (k := 0) (e := e) x hN (by omega) rfl (by omega) n X M (by omega) hR
    exact ⟨v, X2, M2, n2, e1, (za_h0 hr h7).trans (za_c e2 rfl), R2, by omega⟩
  · obtain ⟨v, X2, M2, n2, e1, e2, R2, e4⟩ := za_H10 (N := N) (j := j) (m := m + 1) (k := 1) (e := e) x hN (by omega) rfl (by omega) n X M (by omega) hR
    exact ⟨v, X2, M2, n2, e1, (za_h1 hr h7).trans (za_c e2 rfl), R2, by omega⟩
  · obtain ⟨X1, M1, f1, f2, R1⟩ := za_note (N := N) (j := j) (zn 30) (by omega) hR
    have hb := za_bf (N := N) (j := j) X hN (show 2 < 7 by omega) (show 0 < 3 by omega)
    obtain ⟨v2, X2, M2, n2, c2, m2, R2, l2⟩ := za_H10 (N := N) (j := j) (m := m) (k := 0) (e := e + 1) (x * 3) hN (by omega) rfl (by omega) (n + 1) X1 M1 (by omega) R1
    refine ⟨v2, X2, M2, n2, ?_, ?_, R2, by omega⟩
    · refine (za_b30 _ hb (za_d (by omega)) f1).trans ?_
      rw [za_e]
      refine za_c c2 ?_
      rfl
    · refine (za_h2 hr h7).trans ?_
      refine za_nb f2 ?_
      refine za_c m2 ?_
      rfl
  · obtain ⟨v, X2, M2, n2, e1, e2, R2, e4⟩ := za_H10 (N := N) (j := j) (m := m + 1) (k := 3) (e := e) x hN (by omega) rfl (by omega) n X M (by omega) hR
    exact ⟨v, X2, M2, n2, e1, (za_h3 hr h7).trans (za_c e2 rfl), R2, by omega⟩
  · obtain ⟨X1, M1, f1, f2, R1⟩ := za_note (N := N) (j := j) (zn 50) (by omega) hR
    have hb := za_bf (N := N) (j := j) X hN (show 4 < 7 by omega) (show 0 < 3 by omega)
    obtain ⟨v2, X2, M2, n2, c2, m2, R2, l2⟩ := za_H10 (N := N) (j := j) (m := m) (k := 1) (e := e + 1) x hN (by omega) rfl (by omega) (n + 1) X1 M1 (by omega) R1
    refine ⟨-v2, X2, M2, n2, ?_, ?_, R2, by omega⟩
    · refine (za_b50 _ hb (za_d (by omega)) f1).trans ?_
      rw [za_e]
      refine za_c c2 ?_
      rfl
    · refine (za_h4 hr h7).trans ?_
      refine za_nb f2 ?_
      refine za_c m2 ?_
      rfl
  · obtain ⟨X1, M1, f1, f2, R1⟩ := za_note (N := N) (j := j) (zn 30) (by omega) hR
    have hb := za_bf (N := N) (j := j) X hN (show 5 < 7 by omega) (show 0 < 3 by omega)
    obtain ⟨v2, X2, M2, n2, c2, m2, R2, l2⟩ := za_H10 (N := N) (j := j) (m := m) (k := 0) (e := e + 1) (x * 3) hN (by omega) rfl (by omega) (n + 1) X1 M1 (by omega) R1
    refine ⟨v2, X2, M2, n2, ?_, ?_, R2, by omega⟩
    · refine (za_b30 _ hb (za_d (by omega)) f1).trans ?_
      rw [za_e]
      refine za_c c2 ?_
      rfl
    · refine (za_h5 hr h7).trans ?_
      refine za_nb f2 ?_
      refine za_c m2 ?_
      rfl
  · obtain ⟨X1, M1, f1, f2, R1⟩ := za_note (N := N) (j := j) (zn 71) (by omega) hR
    have hb := za_bf (N := N) (j := j) X hN (show 6 < 7 by omega) (show 0 < 3 by omega)
    obtain ⟨v2, X2, M2, n2, c2, m2, R2, l2⟩ := za_H10 (N := N) (j := j) (m := m) (k := 3) (e := e + 1) x hN (by omega) rfl (by omega) (n + 1) X1 M1 (by omega) R1
    refine ⟨v2 ^^^ zn vv, X2, M2, n2, ?_, ?_, R2, by omega⟩
    · refine (za_b71 _ hb (za_d (by omega)) f1).trans ?_
      rw [za_e]
      refine za_c c2 ?_
      show some (v2 ^^^ X2.1 54 4, X2) = _; rw [R2.2.2.2.2.2.2.2.1]
    · refine (za_h6 hr h7).trans ?_
      refine za_nb f2 ?_
      refine za_c m2 ?_
      show zq_ck (zn r) 3 (some (v2 ^^^ M2.1 74 (zq_ix (zn r)), M2)) = _; rw [zn_ck (by omega) (by omega), zn_ix (by omega), R2.2.2.2.2.2.2.2.2.2]
theorem za_S11 {N j r kk vv k e : Nat} {X0 M0 : zq_M} (m : Nat) (x : Int32) (hN : 12 < N) (hr : r < 3) (hkk : kk < 7) (hk : k < 7) (ht : za_t k 1 = 11) (he : e ≤ 38) : za_S (za_R X0 M0 r kk vv) 3 (fun X => za_F N j (m + 3) (zn k) 1 x (zn e) X) (fun M => f_X11_roomSpeaks N M (zn r) x) := by
  intro n X M hn hR
  have h7 := hR.2.2.2.2.2.2.2.2.1
  obtain ⟨X1, M1, f1, f2, R1⟩ := za_note (N := N) (j := j) (zn 11) (by omega) hR
  have hb := za_bf (N := N) (j := j) X hN (show k < 7 by omega) (show 1 < 3 by omega)
  rw [ht] at hb
  obtain ⟨v2, X2, M2, n2, c2, m2, R2, l2⟩ := za_VH (N := N) (j := j) (e := e + 1) (m) x hN hr (by omega) (by omega) (n + 1) X1 M1 (by omega) R1
  refine ⟨v2 - zn vv, X2, M2, n2, ?_, ?_, R2, by omega⟩
  · refine (za_b11 _ hb (za_d (by omega)) f1).trans ?_
    rw [R1.2.2.2.2.2.2.1]
    rw [za_e]
    refine za_c c2 ?_
    show some (v2 - X2.1 54 4, X2) = _; rw [R2.2.2.2.2.2.2.2.1]
  · refine za_nb f2 ?_
    refine za_c m2 ?_
    show zq_ck (zn r) 3 (some (v2 - M2.1 74 (zq_ix (zn r)), M2)) = _; rw [zn_ck (by omega) (by omega), zn_ix (by omega), R2.2.2.2.2.2.2.2.2.2]
theorem za_S20 {N j r kk vv e : Nat} {X0 M0 : zq_M} (m : Nat) (x : Int32) (hN : 12 < N) (hr : r < 3) (hkk : kk < 7) (he : e ≤ 37) : za_S (za_R X0 M0 r kk vv) 4 (fun X => za_F N j (m + 4) (zn 1) 1 x (zn e) X) (fun M => f_X11_lowerSpeaks N M (zn r) x) := by
  intro n X M hn hR
  have h7 := hR.2.2.2.2.2.2.2.2.1
  obtain ⟨X1, M1, f1, f2, R1⟩ := za_note (N := N) (j := j) (zn 20) (by omega) hR
  have hb := za_bf (N := N) (j := j) X hN (show 1 < 7 by omega) (show 1 < 3 by omega)
  obtain ⟨v2, X2, M2, n2, c2, m2, R2, l2⟩ := za_S11 (N := N) (j := j) (k := 0) (e := e + 1) (m) x hN hr (by omega) (by omega) rfl (by omega) (n + 1) X1 M1 (by omega) R1
  refine ⟨v2 ^^^ 6, X2, M2, n2, ?_, ?_, R2, by omega⟩
  · refine (za_b20 _ hb (za_d (by omega)) f1).trans ?_
    rw [za_e]
    refine za_c c2 ?_
    rfl
  · refine za_nb f2 ?_
    refine za_c m2 ?_
    rfl
theorem za_VS {N j r kk vv e : Nat} {X0 M0 : zq_M} (m : Nat) (x : Int32) (hN : 12 < N) (hr : r < 3) (hkk : kk < 7) (he : e ≤ 36) : za_S (za_R X0 M0 r kk vv) 5 (fun X => za_F N j (m + 5) (zn kk) 1 x (zn e) X) (fun M => f_X11_speaksAct N M (zn r) x) := by
  intro n X M hn hR
  have h7 := hR.2.2.2.2.2.2.2.2.1
  rcases (show kk = 0 ∨ kk = 1 ∨ kk = 2 ∨ kk = 3 ∨ kk = 4 ∨ kk = 5 ∨ kk = 6 by omega) with rfl | rfl | rfl | rfl | rfl | rfl | rfl
  · obtain ⟨v, X2, M2, n2, e1, e2, R2, e4⟩ := za_S11 (N := N) (j := j) (k := 0) (e := e) (m + 2) x hN hr (by omega) (by omega) rfl (by omega) n X M (by omega) hR
    exact ⟨v, X2, M2, n2, e1, (za_s0 hr h7).trans (za_c e2 rfl), R2, by omega⟩
  · obtain ⟨v, X2, M2, n2, e1, e2, R2, e4⟩ := za_S20 (N := N) (j := j) (e := e) (m + 1) x hN hr (by omega) (by omega) n X M (by omega) hR
    exact ⟨v, X2, M2, n2, e1, (za_s1 hr h7).trans (za_c e2 rfl), R2, by omega⟩
  · obtain ⟨v, X2, M2, n2, e1, e2, R2, e4⟩ := za_S11 (N := N) (j := j) (k := 2) (e := e) (m + 2) x hN hr (by omega) (by omega) rfl (by omega) n X M (by omega) hR
    exact ⟨v, X2, M2, n2, e1, (za_s2 hr h7).trans (za_c e2 rfl), R2, by omega⟩
  · obtain ⟨v, X2, M2, n2, e1, e2, R2, e4⟩ := za_S11 (N := N) (j := j) (k := 3) (e := e) (m + 2) x hN hr (by omega) (by omega) rfl (by omega) n X M (by omega) hR
    exact ⟨v, X2, M2, n2, e1, (za_s3 hr h7).trans (za_c e2 rfl), R2, by omega⟩
  · obtain ⟨X1, M1, f1, f2, R1⟩ := za_note (N := N) (j := j) (zn 51) (by omega) hR
    have hb := za_bf (N := N) (j := j) X hN (show 4 < 7 by omega) (show 1 < 3 by omega)
    obtain ⟨v2, X2, M2, n2, c2, m2, R2, l2⟩ := za_S20 (N := N) (j := j) (e := e + 1) (m) (x + 1) hN hr (by omega) (by omega) (n + 1) X1 M1 (by omega) R1
    refine ⟨v2, X2, M2, n2, ?_, ?_, R2, by omega⟩
    · refine (za_b51 _ hb (za_d (by omega)) f1).trans ?_
      rw [za_e]
      refine za_c c2 ?_
      rfl
    · refine (za_s4 hr h7).trans ?_
      refine za_nb f2 ?_
      refine za_c m2 ?_
      rfl
  · obtain ⟨v, X2, M2, n2, e1, e2, R2, e4⟩ := za_S11 (N := N) (j := j) (k := 5) (e := e) (m + 2) x hN hr (by omega) (by omega) rfl (by omega) n X M (by omega) hR
    exact ⟨v, X2, M2, n2, e1, (za_s5 hr h7).trans (za_c e2 rfl), R2, by omega⟩
  · obtain ⟨X1, M1, f1, f2, R1⟩ := za_note (N := N) (j := j) (zn 70) (by omega) hR
    have hb := za_bf (N := N) (j := j) X hN (show 6 < 7 by omega) (show 1 < 3 by omega)
    obtain ⟨v2, X2, M2, n2, c2, m2, R2, l2⟩ := za_S11 (N := N) (j := j) (k := 3) (e := e + 1) (m + 1) x hN hr (by omega) (by omega) rfl (by omega) (n + 1) X1 M1 (by omega) R1
    obtain ⟨v3, X3, M3, n3, c3, m3, R3, l3⟩ := za_H10 (N := N) (j := j) (m := m + 3) (k := 3) (e := e + 1) 2 hN (by omega) rfl (by omega) (n2) X2 M2 (by omega) R2
    refine ⟨v2 + v3, X3, M3, n3, ?_, ?_, R3, by omega⟩
    · refine (za_b70 _ hb (za_d (by omega)) f1).trans ?_
      rw [za_e]
      refine za_c c2 ?_
      refine za_c c3 ?_
      rfl
    · refine (za_s6 hr h7).trans ?_
      refine za_nb f2 ?_
      refine za_c m2 ?_
      refine za_c m3 ?_
      rfl
theorem za_T12 {N j r kk vv k e : Nat} {X0 M0 : zq_M} (m : Nat) (x : Int32) (hN : 12 < N) (hr : r < 3) (hkk : kk < 7) (hk : k < 7) (ht : za_t k 2 = 12) (he : e ≤ 35) : za_S (za_R X0 M0 r kk vv) 6 (fun X => za_F N j (m + 6) (zn k) 2 x (zn e) X) (fun M => f_X11_roomTells N M (zn r) x) := by
  intro n X M hn hR
  have h7 := hR.2.2.2.2.2.2.2.2.1
  obtain ⟨X1, M1, f1, f2, R1⟩ := za_note (N := N) (j := j) (zn 12) (by omega) hR
  have hb := za_bf (N := N) (j := j) X hN (show k < 7 by omega) (show 2 < 3 by omega)
  rw [ht] at hb
  obtain ⟨v2, X2, M2, n2, c2, m2, R2, l2⟩ := za_VS (N := N) (j := j) (e := e + 1) (m) x hN hr (by omega) (by omega) (n + 1) X1 M1 (by omega) R1
  refine ⟨v2 * 2, X2, M2, n2, ?_, ?_, R2, by omega⟩
  · refine (za_b12 _ hb (za_d (by omega)) f1).trans ?_
    rw [R1.2.2.2.2.2.2.1]
    rw [za_e]
    refine za_c c2 ?_
    rfl
  · refine za_nb f2 ?_
    refine za_c m2 ?_
    rfl
theorem za_VT {N j r kk vv e : Nat} {X0 M0 : zq_M} (m : Nat) (x : Int32) (hN : 12 < N) (hr : r < 3) (hkk : kk < 7) (he : e ≤ 34) : za_S (za_R X0 M0 r kk vv) 12 (fun X => za_F N j (m + 7) (zn kk) 2 x (zn e) X) (fun M => f_X11_tellsAct N M (zn r) x) := by
  intro n X M hn hR
  have h7 := hR.2.2.2.2.2.2.2.2.1
  rcases (show kk = 0 ∨ kk = 1 ∨ kk = 2 ∨ kk = 3 ∨ kk = 4 ∨ kk = 5 ∨ kk = 6 by omega) with rfl | rfl | rfl | rfl | rfl | rfl | rfl
  · obtain ⟨v, X2, M2, n2, e1, e2, R2, e4⟩ := za_T12 (N := N) (j := j) (k := 0) (e := e) (m + 1) x hN hr (by omega) (by omega) rfl (by omega) n X M (by omega) hR
    exact ⟨v, X2, M2, n2, e1, (za_t0 hr h7).trans (za_c e2 rfl), R2, by omega⟩
  · obtain ⟨v, X2, M2, n2, e1, e2, R2, e4⟩ := za_T12 (N := N) (j := j) (k := 1) (e := e) (m + 1) x hN hr (by omega) (by omega) rfl (by omega) n X M (by omega) hR
    exact ⟨v, X2, M2, n2, e1, (za_t1 hr h7).trans (za_c e2 rfl), R2, by omega⟩
  · obtain ⟨v, X2, M2, n2, e1, e2, R2, e4⟩ := za_T12 (N := N) (j := j) (k := 2) (e := e) (m + 1) x hN hr (by omega) (by omega) rfl (by omega) n X M (by omega) hR
    exact ⟨v, X2, M2, n2, e1, (za_t2 hr h7).trans (za_c e2 rfl), R2, by omega⟩
  · obtain ⟨X1, M1, f1, f2, R1⟩ := za_note (N := N) (j := j) (zn 40) (by omega) hR
    have hb := za_bf (N := N) (j := j) X hN (show 3 < 7 by omega) (show 2 < 3 by omega)
    obtain ⟨v2, X2, M2, n2, c2, m2, R2, l2⟩ := za_T12 (N := N) (j := j) (k := 0) (e := e + 1) (m) x hN hr (by omega) (by omega) rfl (by omega) (n + 1) X1 M1 (by omega) R1
    obtain ⟨v3, X3, M3, n3, c3, m3, R3, l3⟩ := za_VS (N := N) (j := j) (e := e + 1) (m + 1) 1 hN hr (by omega) (by omega) (n2) X2 M2 (by omega) R2
    refine ⟨v2 + v3, X3, M3, n3, ?_, ?_, R3, by omega⟩
    · refine (za_b40 _ hb (za_d (by omega)) f1).trans ?_
      rw [za_e]
      refine za_c c2 ?_
      show (za_F N j _ (X2.1 54 3) 1 1 (zn (e + 1)) X2).bind _ = _
      rw [R2.2.2.2.2.2.2.1]
      refine za_c c3 ?_
      rfl
    · refine (za_t3 hr h7).trans ?_
      refine za_nb f2 ?_
      refine za_c m2 ?_
      refine za_c m3 ?_
      rfl
  · obtain ⟨v, X2, M2, n2, e1, e2, R2, e4⟩ := za_T12 (N := N) (j := j) (k := 4) (e := e) (m + 1) x hN hr (by omega) (by omega) rfl (by omega) n X M (by omega) hR
    exact ⟨v, X2, M2, n2, e1, (za_t4 hr h7).trans (za_c e2 rfl), R2, by omega⟩
  · obtain ⟨X1, M1, f1, f2, R1⟩ := za_note (N := N) (j := j) (zn 60) (by omega) hR
    have hb := za_bf (N := N) (j := j) X hN (show 5 < 7 by omega) (show 2 < 3 by omega)
    obtain ⟨v2, X2, M2, n2, c2, m2, R2, l2⟩ := za_T12 (N := N) (j := j) (k := 2) (e := e + 1) (m) (x - zn r) hN hr (by omega) (by omega) rfl (by omega) (n + 1) X1 M1 (by omega) R1
    refine ⟨v2, X2, M2, n2, ?_, ?_, R2, by omega⟩
    · refine (za_b60 _ hb (za_d (by omega)) f1).trans ?_
      rw [R1.2.2.2.2.2.1]
      rw [za_e]
      refine za_c c2 ?_
      rfl
    · refine (za_t5 hr h7).trans ?_
      refine za_nb f2 ?_
      refine za_c m2 ?_
      rfl
  · obtain ⟨X1, M1, f1, f2, R1⟩ := za_note (N := N) (j := j) (zn 40) (by omega) hR
    have hb := za_bf (N := N) (j := j) X hN (show 6 < 7 by omega) (show 2 < 3 by omega)
    obtain ⟨v2, X2, M2, n2, c2, m2, R2, l2⟩ := za_T12 (N := N) (j := j) (k := 0) (e := e + 1) (m) x hN hr (by omega) (by omega) rfl (by omega) (n + 1) X1 M1 (by omega) R1
    obtain ⟨v3, X3, M3, n3, c3, m3, R3, l3⟩ := za_VS (N := N) (j := j) (e := e + 1) (m + 1) 1 hN hr (by omega) (by omega) (n2) X2 M2 (by omega) R2
    refine ⟨v2 + v3, X3, M3, n3, ?_, ?_, R3, by omega⟩
    · refine (za_b40 _ hb (za_d (by omega)) f1).trans ?_
      rw [za_e]
      refine za_c c2 ?_
      show (za_F N j _ (X2.1 54 3) 1 1 (zn (e + 1)) X2).bind _ = _
      rw [R2.2.2.2.2.2.2.1]
      refine za_c c3 ?_
      rfl
    · refine (za_t6 hr h7).trans ?_
      refine za_nb f2 ?_
      refine za_c m2 ?_
      refine za_c m3 ?_
      rfl
