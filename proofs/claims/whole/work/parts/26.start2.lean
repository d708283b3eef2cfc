set_option maxRecDepth 20000 in
set_option maxHeartbeats 8000000 in
theorem zl_start {p : Program} {e : Env} {s : State} {m : MethodId} {below : List Frame} {meth : Method} {c : Code} (l : Launch) {b L : Nat} {xs : Nat → Int32} (hL : L ≤ 3072) (C0 : lw_At p s m meth c b L xs) {N : Nat} {I : Nat → Nat → zq_M → zq_M → Prop} (hok : zq_ok N I) : W p l e room_1 s m #[Value.ref b] below meth c s.heap [] 0 0 (lw_Z below #[Value.ref b] s) (entryFrame m ([Value.ref b] : List Value).toArray 4) := by
  obtain ⟨G, hG1, hG2, hK, hE⟩ := zq_begin l C0
  have JC : zq_JC p s m meth c b L xs G := ⟨C0, hG2, hK, hE⟩
  subst hG1
  rw [lg_entry_eq]
  have key : zq_J p e s m below meth c b G 0 0 0 [(0, .ref b)] [] (fun _ => none) (fun _ _ => 0, fun _ _ => 0, fun _ _ => none) (fun _ => none) (fun _ _ => 0, fun _ _ => 0, fun _ _ => none) (zq_ad G 0) := by
    obtain ⟨X1, M1, hx, hm, hI⟩ := hok.1
    refine zj_Nx JC (pc := 0) (d := 0) (ks := [3, 3, 0, 3, 0, 3, 0, 3, 3, 3, 3, 3, 3, 3, 3, 3]) (zq_d eLH 0 rfl) (q := (RX10, TX10, 16)) rfl (zq_m1 22 rfl rfl) (zq_m1 23 rfl rfl) (zq_m1 1 rfl rfl) (zw_10 G) rfl (by decide) (by decide) rfl ?_
    refine zj_dup JC (pc := 3) (zq_d eLH 1 rfl) rfl ?_
    refine zj_Ix JC (pc := 4) (r1 := X1) (zq_d eLH 2 rfl) (s_X10_init G _) hx zd_X10_init rfl rfl zl_law_9 rfl (Nat.le_of_ble_eq_true rfl) (Nat.le_of_ble_eq_true rfl) (by decide) ⟨(by decide), (by decide)⟩ (fun d x y h => by cases h) ?_
    refine zj_astore_n JC (pc := 7) (lo2 := [(1, .ref (zq_ad G 0)), (0, .ref b)]) (zq_d eLH 3 rfl) rfl (by decide) rfl ?_
    refine zj_Nm JC (pc := 8) (d := 69) (ks := [0, 0, 0, 0, 3, 3, 3, 3, 3, 0, 0, 0, 0, 0, 0, 3, 3, 3, 3, 3, 3, 3, 3, 0, 0, 0, 3, 3, 3, 3, 3, 3, 3, 3, 3, 3, 0, 3, 3, 3, 1, 1, 0, 3, 3, 0, 0, 0, 0, 0, 0, 0, 0, 3, 3, 3, 3, 3, 3, 3, 3, 0, 3, 3, 3, 3, 3]) (zq_d eLH 4 rfl) (q := (RX11, TX11, 67)) rfl (zq_m5 117 rfl rfl) (zq_m5 118 rfl rfl) (zq_m1 12 rfl rfl) (zw_11 G) rfl (by decide) (by decide) rfl ?_
    refine zj_dup JC (pc := 11) (zq_d eLH 5 rfl) rfl ?_
    refine zj_Im JC (pc := 12) (r1 := M1) (zq_d eLH 6 rfl) (s_X11_init G _) hm zd_X11_init rfl rfl zl_law_12 rfl (Nat.le_of_ble_eq_true rfl) (Nat.le_of_ble_eq_true rfl) (by decide) ⟨(by decide), (by decide)⟩ ?_ ?_
    · intro d x y h1 h2
      unfold zq_us at h2
      by_cases hd : d = 69
      · subst hd
        cases h1
      · rw [if_neg hd] at h2
        cases h2
    · refine zj_astore_n JC (pc := 15) (lo2 := [(2, .ref (zq_ad G 69)), (1, .ref (zq_ad G 0)), (0, .ref b)]) (zq_d eLH 7 rfl) rfl (by decide) rfl ?_
      refine zj_iconst JC (pc := 16) (zq_d eLH 8 rfl) zc_i0 ?_
      refine zj_istore_n JC (pc := 17) (lo2 := [(3, .int 0), (2, .ref (zq_ad G 69)), (1, .ref (zq_ad G 0)), (0, .ref b)]) (zq_d eLH 9 rfl) rfl (by decide) rfl ?_
      refine zj_lo [3, 2, 1, 0] rfl ?_
      exact zl_loop JC hL hok 513 0 6 _ _ X1 M1 0 (by omega) (by rw [Nat.mul_zero]; rfl) (by omega) hI (by decide) (by decide)
  refine key s.heap [] _ ?_ va_S.rf (fun _ _ h => by cases h) (fun _ _ h => by cases h) (lv_entry ([Value.ref b]) (n := 4) (Nat.le_of_ble_eq_true rfl))
  show _ = G.2.2.1 + 0
  rw [hG2]
  rfl
