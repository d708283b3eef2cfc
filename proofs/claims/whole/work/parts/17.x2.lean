def f_X7_holdsRow (N j : Nat) (X : zq_M) (h : Nat) : Option Int32 :=
  if (X.1 h 0) < 0 then (some (0 : Int32)) else (some (1 : Int32))
set_option maxRecDepth 20000 in
set_option maxHeartbeats 8000000 in
theorem s_X7_holdsRow (G : zq_G) (N z j : Nat) (X : zq_M) (h : Nat) (gh : zq_ta (zq_shX j) h = true) : zq_V G YX7_holdsRow (1, 0, 0) (zq_ei (zq_shX j) z X) 0 0 0 (lv_args 0 [.ref (zq_ad G h)]) [] (zq_shX j) z X (f_X7_holdsRow N j X h) := by
  unfold f_X7_holdsRow
  refine zr_lo (l2 := [(0, .ref (zq_ad G h))]) [0] rfl ?_
  refine zr_aload_n (pc := 0) (zq_d eX7_holdsRow 0 rfl) 0 rfl rfl ?_
  refine zr_getI (pc := 1) (zq_d eX7_holdsRow 1 rfl) zf_RX7_9 (zq_ta_k0 gh) ?_
  refine zr_if_lt (pc := 4) 11 (zq_d eX7_holdsRow 2 rfl) (by decide) (fun _ => ?_) (fun _ => ?_)
  · refine zr_iconst (pc := 11) (zq_d eX7_holdsRow 5 rfl) zc_i0 ?_
    exact zr_zreturn (pc := 12) (zq_d eX7_holdsRow 6 rfl) rfl rfl rfl (Nat.zero_le _) (Nat.zero_le _)
  · refine zr_iconst (pc := 7) (zq_d eX7_holdsRow 3 rfl) zc_i1 ?_
    refine zr_goto (pc := 8) 12 (zq_d eX7_holdsRow 4 rfl) (by decide) ?_
    exact zr_zreturn (pc := 12) (zq_d eX7_holdsRow 6 rfl) rfl rfl rfl (Nat.zero_le _) (Nat.zero_le _)
def f_X7_holdNothing (N j : Nat) (X : zq_M) (h : Nat) : Option zq_M :=
  zq_b (zq_u1 X h 0 (-1 : Int32)) (fun X1 => zq_b (zq_u1 X1 h 1 (0 : Int32)) (fun X2 => some X2))
set_option maxRecDepth 20000 in
set_option maxHeartbeats 8000000 in
theorem s_X7_holdNothing (G : zq_G) (N z j : Nat) (X : zq_M) (h : Nat) (gh : zq_ta (zq_shX j) h = true) : zq_V G YX7_holdNothing (1, 0, 0) (zq_sv (zq_shX j) z) 0 0 0 (lv_args 0 [.ref (zq_ad G h)]) [] (zq_shX j) z X (f_X7_holdNothing N j X h) := by
  unfold f_X7_holdNothing
  refine zr_lo (l2 := [(0, .ref (zq_ad G h))]) [0] rfl ?_
  refine zr_aload_n (pc := 0) (zq_d eX7_holdNothing 0 rfl) 0 rfl rfl ?_
  refine zr_iconst (pc := 1) (zq_d eX7_holdNothing 1 rfl) zc_im1 ?_
  refine zr_putI (pc := 2) (zq_d eX7_holdNothing 2 rfl) zf_RX7_9 (zq_ta_k0 gh) zn_7_0 (fun X1 => ?_)
  refine zr_aload_n (pc := 5) (zq_d eX7_holdNothing 3 rfl) 0 rfl rfl ?_
  refine zr_iconst (pc := 6) (zq_d eX7_holdNothing 4 rfl) zc_i0 ?_
  refine zr_putI (pc := 7) (zq_d eX7_holdNothing 5 rfl) zf_RX7_19 (zq_ta_k1 gh) zn_7_1 (fun X2 => ?_)
  exact zr_vreturn (pc := 10) (zq_d eX7_holdNothing 6 rfl) rfl rfl (Nat.zero_le _) (Nat.zero_le _)
def f_X7_holdZeros (N j : Nat) (X : zq_M) (h : Nat) (a1 : Int32) (a2 : Int32) : Option zq_M :=
  zq_b (zq_u1 X h 0 a1) (fun X1 => zq_b (zq_u1 X1 h 1 a2) (fun X2 => (f_J7_fill_d0a16 N (zq_shX j) X2 (h + 1) 60 (0 : Int64)).bind (fun X3 => some X3)))
set_option maxRecDepth 20000 in
set_option maxHeartbeats 8000000 in
theorem s_X7_holdZeros (G : zq_G) (N z j : Nat) (X : zq_M) (h : Nat) (gh : zq_ta (zq_shX j) h = true) (a1 : Int32) (a2 : Int32) : zq_V G YX7_holdZeros (2, 0, 0) (zq_sv (zq_shX j) z) 0 0 0 (lv_args 0 [.ref (zq_ad G h), .int a1, .int a2]) [] (zq_shX j) z X (f_X7_holdZeros N j X h a1 a2) := by
  unfold f_X7_holdZeros
  refine zr_lo (l2 := [(0, .ref (zq_ad G h)), (1, .int a1), (2, .int a2)]) [0, 1, 2] rfl ?_
  refine zr_aload_n (pc := 0) (zq_d eX7_holdZeros 0 rfl) 0 rfl rfl ?_
  refine zr_iload_n (pc := 1) (zq_d eX7_holdZeros 1 rfl) 1 rfl rfl ?_
  refine zr_putI (pc := 2) (zq_d eX7_holdZeros 2 rfl) zf_RX7_9 (zq_ta_k0 gh) zn_7_0 (fun X1 => ?_)
  refine zr_aload_n (pc := 5) (zq_d eX7_holdZeros 3 rfl) 0 rfl rfl ?_
  refine zr_iload_n (pc := 6) (zq_d eX7_holdZeros 4 rfl) 2 rfl rfl ?_
  refine zr_putI (pc := 7) (zq_d eX7_holdZeros 5 rfl) zf_RX7_19 (zq_ta_k1 gh) zn_7_1 (fun X2 => ?_)
  refine zr_aload_n (pc := 10) (zq_d eX7_holdZeros 6 rfl) 0 rfl rfl ?_
  refine zr_getC (pc := 11) (zq_d eX7_holdZeros 7 rfl) zf_RX7_15 (zq_ta_k2 gh) ?_
  refine zr_lconst (pc := 14) (v := 0) (zq_d eX7_holdZeros 8 rfl) rfl ?_
  refine zr_Sv (pc := 15) [_, _] (zq_d eX7_holdZeros 9 rfl) (s_J7_fill_d0a16 G N z (zq_shX j) X2 (h + 1) 60 (zq_ta_a1 gh) _) zd_J7_fill_d0a16 zl_RX7_22 rfl rfl (Nat.le_of_ble_eq_true rfl) (Nat.le_of_ble_eq_true rfl) (Nat.le_of_ble_eq_true rfl) ⟨Nat.le_refl _, Nat.le_refl _⟩ (fun X3 => ?_)
  exact zr_vreturn (pc := 18) (zq_d eX7_holdZeros 10 rfl) rfl rfl (Nat.zero_le _) (Nat.zero_le _)
def f_X7_hasPlace (N j : Nat) (X : zq_M) (h : Nat) (a1 : Int32) : Option Int32 :=
  if a1 < 0 then (some (0 : Int32)) else (if (X.1 h 1) ≤ a1 then (some (0 : Int32)) else (some (1 : Int32)))
set_option maxRecDepth 20000 in
set_option maxHeartbeats 8000000 in
theorem s_X7_hasPlace (G : zq_G) (N z j : Nat) (X : zq_M) (h : Nat) (gh : zq_ta (zq_shX j) h = true) (a1 : Int32) : zq_V G YX7_hasPlace (1, 0, 0) (zq_ei (zq_shX j) z X) 0 0 0 (lv_args 0 [.ref (zq_ad G h), .int a1]) [] (zq_shX j) z X (f_X7_hasPlace N j X h a1) := by
  unfold f_X7_hasPlace
  refine zr_lo (l2 := [(0, .ref (zq_ad G h)), (1, .int a1)]) [0, 1] rfl ?_
  refine zr_iload_n (pc := 0) (zq_d eX7_hasPlace 0 rfl) 1 rfl rfl ?_
  refine zr_if_lt (pc := 1) 16 (zq_d eX7_hasPlace 1 rfl) (by decide) (fun _ => ?_) (fun _ => ?_)
  · refine zr_iconst (pc := 16) (zq_d eX7_hasPlace 8 rfl) zc_i0 ?_
    exact zr_zreturn (pc := 17) (zq_d eX7_hasPlace 9 rfl) rfl rfl rfl (Nat.zero_le _) (Nat.zero_le _)
  · refine zr_iload_n (pc := 4) (zq_d eX7_hasPlace 2 rfl) 1 rfl rfl ?_
    refine zr_aload_n (pc := 5) (zq_d eX7_hasPlace 3 rfl) 0 rfl rfl ?_
    refine zr_getI (pc := 6) (zq_d eX7_hasPlace 4 rfl) zf_RX7_19 (zq_ta_k1 gh) ?_
    refine zr_icmp_ge (pc := 9) 16 (zq_d eX7_hasPlace 5 rfl) (by decide) (fun _ => ?_) (fun _ => ?_)
    · refine zr_iconst (pc := 16) (zq_d eX7_hasPlace 8 rfl) zc_i0 ?_
      exact zr_zreturn (pc := 17) (zq_d eX7_hasPlace 9 rfl) rfl rfl rfl (Nat.zero_le _) (Nat.zero_le _)
    · refine zr_iconst (pc := 12) (zq_d eX7_hasPlace 6 rfl) zc_i1 ?_
      refine zr_goto (pc := 13) 17 (zq_d eX7_hasPlace 7 rfl) (by decide) ?_
      exact zr_zreturn (pc := 17) (zq_d eX7_hasPlace 9 rfl) rfl rfl rfl (Nat.zero_le _) (Nat.zero_le _)
def f_X7_hasPart (N j : Nat) (X : zq_M) (h : Nat) (a1 : Int32) (a2 : Int32) : Option Int32 :=
  if a1 < 0 then (some (0 : Int32)) else (if a2 < 0 then (some (0 : Int32)) else (if (X.1 h 1) < a1 then (some (0 : Int32)) else (if ((X.1 h 1) - a1) < a2 then (some (0 : Int32)) else (some (1 : Int32)))))
set_option maxRecDepth 20000 in
set_option maxHeartbeats 8000000 in
theorem s_X7_hasPart (G : zq_G) (N z j : Nat) (X : zq_M) (h : Nat) (gh : zq_ta (zq_shX j) h = true) (a1 : Int32) (a2 : Int32) : zq_V G YX7_hasPart (1, 0, 0) (zq_ei (zq_shX j) z X) 0 0 0 (lv_args 0 [.ref (zq_ad G h), .int a1, .int a2]) [] (zq_shX j) z X (f_X7_hasPart N j X h a1 a2) := by
  unfold f_X7_hasPart
  refine zr_lo (l2 := [(0, .ref (zq_ad G h)), (1, .int a1), (2, .int a2)]) [0, 1, 2] rfl ?_
  refine zr_iload_n (pc := 0) (zq_d eX7_hasPart 0 rfl) 1 rfl rfl ?_
  refine zr_if_lt (pc := 1) 30 (zq_d eX7_hasPart 1 rfl) (by decide) (fun _ => ?_) (fun _ => ?_)
  · refine zr_iconst (pc := 30) (zq_d eX7_hasPart 16 rfl) zc_i0 ?_
    exact zr_zreturn (pc := 31) (zq_d eX7_hasPart 17 rfl) rfl rfl rfl (Nat.zero_le _) (Nat.zero_le _)
  · refine zr_iload_n (pc := 4) (zq_d eX7_hasPart 2 rfl) 2 rfl rfl ?_
    refine zr_if_lt (pc := 5) 30 (zq_d eX7_hasPart 3 rfl) (by decide) (fun _ => ?_) (fun _ => ?_)
    · refine zr_iconst (pc := 30) (zq_d eX7_hasPart 16 rfl) zc_i0 ?_
      exact zr_zreturn (pc := 31) (zq_d eX7_hasPart 17 rfl) rfl rfl rfl (Nat.zero_le _) (Nat.zero_le _)
    · refine zr_iload_n (pc := 8) (zq_d eX7_hasPart 4 rfl) 1 rfl rfl ?_
      refine zr_aload_n (pc := 9) (zq_d eX7_hasPart 5 rfl) 0 rfl rfl ?_
      refine zr_getI (pc := 10) (zq_d eX7_hasPart 6 rfl) zf_RX7_19 (zq_ta_k1 gh) ?_
      refine zr_icmp_gt (pc := 13) 30 (zq_d eX7_hasPart 7 rfl) (by decide) (fun _ => ?_) (fun _ => ?_)
      · refine zr_iconst (pc := 30) (zq_d eX7_hasPart 16 rfl) zc_i0 ?_
        exact zr_zreturn (pc := 31) (zq_d eX7_hasPart 17 rfl) rfl rfl rfl (Nat.zero_le _) (Nat.zero_le _)
      · refine zr_iload_n (pc := 16) (zq_d eX7_hasPart 8 rfl) 2 rfl rfl ?_
        refine zr_aload_n (pc := 17) (zq_d eX7_hasPart 9 rfl) 0 rfl rfl ?_
        refine zr_getI (pc := 18) (zq_d eX7_hasPart 10 rfl) zf_RX7_19 (zq_ta_k1 gh) ?_
        refine zr_iload_n (pc := 21) (zq_d eX7_hasPart 11 rfl) 1 rfl rfl ?_
        refine zr_isub (pc := 22) (zq_d eX7_hasPart 12 rfl) ?_
        refine zr_icmp_gt (pc := 23) 30 (zq_d eX7_hasPart 13 rfl) (by decide) (fun _ => ?_) (fun _ => ?_)
        · refine zr_iconst (pc := 30) (zq_d eX7_hasPart 16 rfl) zc_i0 ?_
          exact zr_zreturn (pc := 31) (zq_d eX7_hasPart 17 rfl) rfl rfl rfl (Nat.zero_le _) (Nat.zero_le _)
        · refine zr_iconst (pc := 26) (zq_d eX7_hasPart 14 rfl) zc_i1 ?_
          refine zr_goto (pc := 27) 31 (zq_d eX7_hasPart 15 rfl) (by decide) ?_
          exact zr_zreturn (pc := 31) (zq_d eX7_hasPart 17 rfl) rfl rfl rfl (Nat.zero_le _) (Nat.zero_le _)
def f_X7_narrowed (N j : Nat) (X : zq_M) (h : Nat) (a1 : Int64) : Option Int64 :=
  if (X.1 h 0) = (0 : Int32) then (some (((a1.toInt32).toInt8.toInt32).toInt64)) else (if (X.1 h 0) = (1 : Int32) then (some (((a1.toInt32).toInt16.toInt32).toInt64)) else (if (X.1 h 0) = (2 : Int32) then (some ((a1.toInt32).toInt64)) else (if (X.1 h 0) = (3 : Int32) then (some a1) else (if (lg_cmp a1 (0 : Int64)) = 0 then (some (0 : Int64)) else (some (1 : Int64))))))
set_option maxRecDepth 20000 in
set_option maxHeartbeats 8000000 in
theorem s_X7_narrowed (G : zq_G) (N z j : Nat) (X : zq_M) (h : Nat) (gh : zq_ta (zq_shX j) h = true) (a1 : Int64) : zq_V G YX7_narrowed (1, 0, 0) (zq_el (zq_shX j) z X) 0 0 0 (lv_args 0 [.ref (zq_ad G h), .long a1]) [] (zq_shX j) z X (f_X7_narrowed N j X h a1) := by
  unfold f_X7_narrowed
  refine zr_lo (l2 := [(0, .ref (zq_ad G h)), (1, .long a1)]) [0, 1] rfl ?_
  refine zr_aload_n (pc := 0) (zq_d eX7_narrowed 0 rfl) 0 rfl rfl ?_
  refine zr_getI (pc := 1) (zq_d eX7_narrowed 1 rfl) zf_RX7_9 (zq_ta_k0 gh) ?_
  refine zr_cs (fun q1 => ?_) (fun q1 => ?_)
  · refine zr_tab (pc := 4) (n := 0) 36 (zq_d eX7_narrowed 2 rfl) q1 (by decide) (by decide) (by decide) rfl (by decide) ?_
    refine zr_lload_n (pc := 36) (zq_d eX7_narrowed 3 rfl) 1 rfl rfl ?_
    refine zr_l2i (pc := 37) (zq_d eX7_narrowed 4 rfl) ?_
    refine zr_i2b (pc := 38) (zq_d eX7_narrowed 5 rfl) ?_
    refine zr_i2l (pc := 39) (zq_d eX7_narrowed 6 rfl) ?_
    exact zr_lreturn (pc := 40) (zq_d eX7_narrowed 7 rfl) rfl rfl (Nat.zero_le _) (Nat.zero_le _)
  · refine zr_cs (fun q2 => ?_) (fun q2 => ?_)
    · refine zr_tab (pc := 4) (n := 1) 41 (zq_d eX7_narrowed 2 rfl) q2 (by decide) (by decide) (by decide) rfl (by decide) ?_
      refine zr_lload_n (pc := 41) (zq_d eX7_narrowed 8 rfl) 1 rfl rfl ?_
      refine zr_l2i (pc := 42) (zq_d eX7_narrowed 9 rfl) ?_
      refine zr_i2s (pc := 43) (zq_d eX7_narrowed 10 rfl) ?_
      refine zr_i2l (pc := 44) (zq_d eX7_narrowed 11 rfl) ?_
      exact zr_lreturn (pc := 45) (zq_d eX7_narrowed 12 rfl) rfl rfl (Nat.zero_le _) (Nat.zero_le _)
    · refine zr_cs (fun q3 => ?_) (fun q3 => ?_)
      · refine zr_tab (pc := 4) (n := 2) 46 (zq_d eX7_narrowed 2 rfl) q3 (by decide) (by decide) (by decide) rfl (by decide) ?_
        refine zr_lload_n (pc := 46) (zq_d eX7_narrowed 13 rfl) 1 rfl rfl ?_
        refine zr_l2i (pc := 47) (zq_d eX7_narrowed 14 rfl) ?_
        refine zr_i2l (pc := 48) (zq_d eX7_narrowed 15 rfl) ?_
        exact zr_lreturn (pc := 49) (zq_d eX7_narrowed 16 rfl) rfl rfl (Nat.zero_le _) (Nat.zero_le _)
      · refine zr_cs (fun q4 => ?_) (fun q4 => ?_)
        · refine zr_tab (pc := 4) (n := 3) 50 (zq_d eX7_narrowed 2 rfl) q4 (by decide) (by decide) (by decide) rfl (by decide) ?_
          refine zr_lload_n (pc := 50) (zq_d eX7_narrowed 17 rfl) 1 rfl rfl ?_
          exact zr_lreturn (pc := 51) (zq_d eX7_narrowed 18 rfl) rfl rfl (Nat.zero_le _) (Nat.zero_le _)
        · refine zr_tabD (pc := 4) 52 (zq_d eX7_narrowed 2 rfl) (by have t0 := zq_nt (n := 0) (by decide) q1; have t1 := zq_nt (n := 1) (by decide) q2; have t2 := zq_nt (n := 2) (by decide) q3; have t3 := zq_nt (n := 3) (by decide) q4; omega) (by decide) ?_
          refine zr_lload_n (pc := 52) (zq_d eX7_narrowed 19 rfl) 1 rfl rfl ?_
          refine zr_lconst (pc := 53) (v := 0) (zq_d eX7_narrowed 20 rfl) rfl ?_
          refine zr_lcmp (pc := 54) (zq_d eX7_narrowed 21 rfl) ?_
          refine zr_if_eq (pc := 55) 62 (zq_d eX7_narrowed 22 rfl) (by decide) (fun _ => ?_) (fun _ => ?_)
          · refine zr_lconst (pc := 62) (v := 0) (zq_d eX7_narrowed 25 rfl) rfl ?_
            exact zr_lreturn (pc := 63) (zq_d eX7_narrowed 26 rfl) rfl rfl (Nat.zero_le _) (Nat.zero_le _)
          · refine zr_lconst (pc := 58) (v := 1) (zq_d eX7_narrowed 23 rfl) rfl ?_
            refine zr_goto (pc := 59) 63 (zq_d eX7_narrowed 24 rfl) (by decide) ?_
            exact zr_lreturn (pc := 63) (zq_d eX7_narrowed 26 rfl) rfl rfl (Nat.zero_le _) (Nat.zero_le _)
def f_X7_put (N j : Nat) (X : zq_M) (h : Nat) (a1 : Int32) (a2 : Int64) : Option zq_M :=
  (f_X7_narrowed N j X h a2).bind (fun w1 => zq_ck a1 60 (zq_b (zq_u2 X (h + 1) (zq_ix a1) w1) (fun X2 => some X2)))
set_option maxRecDepth 20000 in
set_option maxHeartbeats 8000000 in
theorem s_X7_put (G : zq_G) (N z j : Nat) (X : zq_M) (h : Nat) (gh : zq_ta (zq_shX j) h = true) (a1 : Int32) (a2 : Int64) : zq_V G YX7_put (2, 0, 0) (zq_sv (zq_shX j) z) 0 0 0 (lv_args 0 [.ref (zq_ad G h), .int a1, .long a2]) [] (zq_shX j) z X (f_X7_put N j X h a1 a2) := by
  unfold f_X7_put
  refine zr_lo (l2 := [(0, .ref (zq_ad G h)), (1, .int a1), (2, .long a2)]) [0, 1, 2] rfl ?_
  refine zr_aload_n (pc := 0) (zq_d eX7_put 0 rfl) 0 rfl rfl ?_
  refine zr_getC (pc := 1) (zq_d eX7_put 1 rfl) zf_RX7_15 (zq_ta_k2 gh) ?_
  refine zr_iload_n (pc := 4) (zq_d eX7_put 2 rfl) 1 rfl rfl ?_
  refine zr_aload_n (pc := 5) (zq_d eX7_put 3 rfl) 0 rfl rfl ?_
  refine zr_lload_n (pc := 6) (zq_d eX7_put 4 rfl) 2 rfl rfl ?_
  refine zr_Vl (pc := 7) [_] (zq_d eX7_put 5 rfl) (s_X7_narrowed G N z j X h gh _) zd_X7_narrowed zl_RX7_28 (zq_ta_s gh) rfl rfl rfl rfl (Nat.le_of_ble_eq_true rfl) (Nat.le_of_ble_eq_true rfl) (Nat.le_of_ble_eq_true rfl) ⟨Nat.le_refl _, Nat.le_refl _⟩ (fun w1 => ?_)
  refine zr_last (pc := 10) (zq_d eX7_put 6 rfl) (zq_ta_a1 gh) (fun X2 => ?_)
  exact zr_vreturn (pc := 11) (zq_d eX7_put 7 rfl) rfl rfl (Nat.zero_le _) (Nat.zero_le _)
def k_X8_wins_177_2 (a6 : Int32) (X5 : zq_M)  : Option (Int32 × zq_M) :=
  if ¬ a6 = 0 then (some ((0 : Int32), X5)) else (some ((1 : Int32), X5))
def j_X8_wins_154 (a1 : Int32) (a2 : Int32) (a4 : Int32) (a5 : Int32) (a6 : Int32) (rc : Int32 → Int32 → Int32 → Int32 → Int32 → Int32 → zq_M → Option (Int32 × zq_M)) (v6 : Int32) (X7 : zq_M) (rc100_3 : Int32 → zq_M → Option (Int32 × zq_M)) (v9 : Int32) (v10 : Int32) : Option (Int32 × zq_M) :=
  (rc a1 a2 v9 (a4 + (1 : Int32)) (a5 - (1 : Int32)) v10 X7).bind (zq_p (fun v11 X12 => if ¬ v11 = a6 then (rc100_3 (v6 + (1 : Int32)) X12) else (zq_gz a6 (some (a6, X12)))))
def b_X8_wins_100 (N : Nat) (j : Nat) (a1 : Int32) (a2 : Int32) (a3 : Int32) (a4 : Int32) (a5 : Int32) (a6 : Int32) (rc : Int32 → Int32 → Int32 → Int32 → Int32 → Int32 → zq_M → Option (Int32 × zq_M)) (v4 : Int32) (rc82_1 : Int32 → zq_M → Option (Int32 × zq_M)) (rc100_3 : Int32 → zq_M → Option (Int32 × zq_M)) (v6 : Int32) (X7 : zq_M) : Option (Int32 × zq_M) :=
  if (4 : Int32) ≤ v6 then (rc82_1 (v4 + (1 : Int32)) X7) else ((f_X6_mayCome N j X7 a3 v4 v6).bind (fun v8 => if v8 = 0 then (rc100_3 (v6 + (1 : Int32)) X7) else ((f_X6_moved N j X7 a3 v4 v6).bind (fun v9 => if ¬ a6 = 0 then (j_X8_wins_154 a1 a2 a4 a5 a6 rc v6 X7 rc100_3 v9 (0 : Int32)) else (j_X8_wins_154 a1 a2 a4 a5 a6 rc v6 X7 rc100_3 v9 (1 : Int32))))))
def b_X8_wins_82 (N : Nat) (j : Nat) (a1 : Int32) (a2 : Int32) (a3 : Int32) (a4 : Int32) (a5 : Int32) (a6 : Int32) (rc : Int32 → Int32 → Int32 → Int32 → Int32 → Int32 → zq_M → Option (Int32 × zq_M)) (rc82_1 : Int32 → zq_M → Option (Int32 × zq_M)) (v4 : Int32) (X5 : zq_M) : Option (Int32 × zq_M) :=
  if (X5.1 1 0) ≤ v4 then (k_X8_wins_177_2 a6 X5) else (zq_loop (fun _ _ => none) (b_X8_wins_100 N j a1 a2 a3 a4 a5 a6 rc v4 rc82_1) N (0 : Int32) X5)
def j_X8_wins_68 (N : Nat) (j : Nat) (X : zq_M) (a1 : Int32) (a2 : Int32) (a3 : Int32) (a4 : Int32) (a5 : Int32) (a6 : Int32) (rc : Int32 → Int32 → Int32 → Int32 → Int32 → Int32 → zq_M → Option (Int32 × zq_M)) (v1 : Int32) : Option (Int32 × zq_M) :=
  (rc a1 a2 a3 a4 (a5 - (1 : Int32)) v1 X).bind (zq_p (fun v2 X3 => if ¬ v2 = a6 then (zq_loop (fun _ _ => none) (b_X8_wins_82 N j a1 a2 a3 a4 a5 a6 rc) N (0 : Int32) X3) else (zq_gz a6 (some (a6, X3)))))
def B_X8_wins (N j : Nat) (rc : Int32 → Int32 → Int32 → Int32 → Int32 → Int32 → zq_M → Option (Int32 × zq_M)) (a1 : Int32) (a2 : Int32) (a3 : Int32) (a4 : Int32) (a5 : Int32) (a6 : Int32) (X : zq_M) : Option (Int32 × zq_M) :=
  if 0 < a5 then (if ¬ a6 = 0 then (j_X8_wins_68 N j X a1 a2 a3 a4 a5 a6 rc (0 : Int32)) else (j_X8_wins_68 N j X a1 a2 a3 a4 a5 a6 rc (1 : Int32))) else ((f_X6_whoIsAt N j X a3 a1).bind (fun v13 => (f_X6_speakers N j X a1 v13 a4).bind (zq_p (fun v14 X15 => if (v14 &&& a2) = 0 then (some ((0 : Int32), X15)) else (if ¬ (v14 &&& (a2 ^^^ (-1 : Int32))) = 0 then (some ((0 : Int32), X15)) else (some ((1 : Int32), X15)))))))
def fr_X8_wins (N j : Nat) : Int32 → Int32 → Int32 → Int32 → Int32 → Int32 → zq_M → Option (Int32 × zq_M) := zq_loop (fun _ _ _ _ _ _ _ => none) (B_X8_wins N j) 64
def f_X8_wins (N j : Nat) (X : zq_M) (a1 : Int32) (a2 : Int32) (a3 : Int32) (a4 : Int32) (a5 : Int32) (a6 : Int32) : Option (Int32 × zq_M) := fr_X8_wins N j a1 a2 a3 a4 a5 a6 X
set_option maxRecDepth 20000 in
set_option maxHeartbeats 8000000 in
theorem r_X8_wins (G : zq_G) (N z j : Nat) : ∀ (n : Nat) (a1 : Int32) (a2 : Int32) (a3 : Int32) (a4 : Int32) (a5 : Int32) (a6 : Int32) (X : zq_M), zq_V G YX8_wins (3 + n, 0, 0) (zq_si (zq_shX j) z) 0 0 0 (lv_args 0 [.ref (zq_ad G 51), .int a1, .int a2, .int a3, .int a4, .int a5, .int a6]) [] (zq_shX j) z X (zq_loop (fun _ _ _ _ _ _ _ => none) (B_X8_wins N j) n a1 a2 a3 a4 a5 a6 X) := by
  intro n
  induction n with
    | zero =>
      intro a1 a2 a3 a4 a5 a6 X
      exact zr_none
    | succ n ih =>
      intro a1 a2 a3 a4 a5 a6 X
      show zq_V G YX8_wins (3 + (n + 1), 0, 0) (zq_si (zq_shX j) z) 0 0 0 (lv_args 0 [.ref (zq_ad G 51), .int a1, .int a2, .int a3, .int a4, .int a5, .int a6]) [] (zq_shX j) z X (B_X8_wins N j (zq_loop (fun _ _ _ _ _ _ _ => none) (B_X8_wins N j) n) a1 a2 a3 a4 a5 a6 X)
      generalize zq_loop (fun _ _ _ _ _ _ _ => none) (B_X8_wins N j) n = rc at ih ⊢
      unfold B_X8_wins
      refine zr_lo (l2 := [(0, .ref (zq_ad G 51)), (1, .int a1), (2, .int a2), (3, .int a3), (4, .int a4), (5, .int a5), (6, .int a6)]) [0, 1, 2, 3, 4, 5, 6] rfl ?_
      refine zr_iload (pc := 0) (zq_d eX8_wins 0 rfl) 5 rfl ?_
      refine zr_if_gt (pc := 2) 48 (zq_d eX8_wins 1 rfl) (by decide) (fun _ => ?_) (fun _ => ?_)
      · refine zr_aload_n (pc := 48) (zq_d eX8_wins 27 rfl) 0 rfl rfl ?_
        refine zr_iload_n (pc := 49) (zq_d eX8_wins 28 rfl) 1 rfl rfl ?_
        refine zr_iload_n (pc := 50) (zq_d eX8_wins 29 rfl) 2 rfl rfl ?_
        refine zr_iload_n (pc := 51) (zq_d eX8_wins 30 rfl) 3 rfl rfl ?_
        refine zr_iload (pc := 52) (zq_d eX8_wins 31 rfl) 4 rfl ?_
        refine zr_iload (pc := 54) (zq_d eX8_wins 32 rfl) 5 rfl ?_
        refine zr_iconst (pc := 56) (zq_d eX8_wins 33 rfl) zc_i1 ?_
        refine zr_isub (pc := 57) (zq_d eX8_wins 34 rfl) ?_
        refine zr_iload (pc := 58) (zq_d eX8_wins 35 rfl) 6 rfl ?_
        have hj68_5 : ∀ (v1 : Int32), zq_V G YX8_wins (3 + (n + 1), 0, 0) (zq_si (zq_shX j) z) 0 0 68 [(0, .ref (zq_ad G 51)), (1, .int a1), (2, .int a2), (3, .int a3), (4, .int a4), (5, .int a5), (6, .int a6)] [.int v1, .int (a5 - (1 : Int32)), .int a4, .int a3, .int a2, .int a1, .ref (zq_ad G 51)] (zq_shX j) z X (j_X8_wins_68 N j X a1 a2 a3 a4 a5 a6 rc v1) := by
          intro v1
          unfold j_X8_wins_68
          refine zr_Wsi (pc := 68) [_, _, _, _, _, _] (zq_d eX8_wins 40 rfl) (ih _ _ _ _ _ _ X) zd_X8_wins zl_RX8_31 (ox_51 j) rfl rfl rfl rfl (Nat.le_of_ble_eq_true rfl) (Nat.le_of_ble_eq_true rfl) (show (3 + n) + 1 ≤ 3 + (n + 1) by omega) ⟨Nat.le_refl _, Nat.le_refl _⟩ (fun v2 X3 => ?_)
          refine zr_iload (pc := 71) (zq_d eX8_wins 41 rfl) 6 rfl ?_
          refine zr_icmp_ne (pc := 73) 79 (zq_d eX8_wins 42 rfl) (by decide) (fun _ => ?_) (fun _ => ?_)
          · refine zr_iconst (pc := 79) (zq_d eX8_wins 45 rfl) zc_i0 ?_
            refine zr_istore (pc := 80) (lo2 := [(7, .int (0 : Int32)), (0, .ref (zq_ad G 51)), (1, .int a1), (2, .int a2), (3, .int a3), (4, .int a4), (5, .int a5), (6, .int a6)]) (zq_d eX8_wins 46 rfl) (Nat.le_of_ble_eq_true rfl) rfl ?_
            have hbrc82_1 : ∀ rc82_1 : Int32 → zq_M → Option (Int32 × zq_M), (∀ (v4 : Int32) (X5 : zq_M), zq_V G YX8_wins (3 + (n + 1), 0, 0) (zq_si (zq_shX j) z) 0 0 82 [(0, .ref (zq_ad G 51)), (1, .int a1), (2, .int a2), (3, .int a3), (4, .int a4), (5, .int a5), (6, .int a6), (7, .int v4)] [] (zq_shX j) z X5 (rc82_1 v4 X5)) → ∀ (v4 : Int32) (X5 : zq_M), zq_V G YX8_wins (3 + (n + 1), 0, 0) (zq_si (zq_shX j) z) 0 0 82 [(0, .ref (zq_ad G 51)), (1, .int a1), (2, .int a2), (3, .int a3), (4, .int a4), (5, .int a5), (6, .int a6), (7, .int v4)] [] (zq_shX j) z X5 (b_X8_wins_82 N j a1 a2 a3 a4 a5 a6 rc rc82_1 v4 X5) := by
              intro rc82_1 hrc82_1 v4 X5
              unfold b_X8_wins_82
              refine zr_iload (pc := 82) (zq_d eX8_wins 47 rfl) 7 rfl ?_
              refine zr_aload_n (pc := 84) (zq_d eX8_wins 48 rfl) 0 rfl rfl ?_
              refine zr_getC (pc := 85) (zq_d eX8_wins 49 rfl) zf_RX8_9 (kx_51_0 j) ?_
              refine zr_getC (pc := 88) (zq_d eX8_wins 50 rfl) zf_RX8_21 (kx_35_0 j) ?_
              refine zr_getI (pc := 91) (zq_d eX8_wins 51 rfl) zf_RX8_43 (kx_1_0 j) ?_
              refine zr_icmp_ge (pc := 94) 177 (zq_d eX8_wins 52 rfl) (by decide) (fun _ => ?_) (fun _ => ?_)
              · unfold k_X8_wins_177_2
                refine zr_iload (pc := 177) (zq_d eX8_wins 94 rfl) 6 rfl ?_
                refine zr_if_ne (pc := 179) 186 (zq_d eX8_wins 95 rfl) (by decide) (fun _ => ?_) (fun _ => ?_)
                · refine zr_iconst (pc := 186) (zq_d eX8_wins 98 rfl) zc_i0 ?_
                  exact zr_zreturn (pc := 187) (zq_d eX8_wins 99 rfl) rfl rfl rfl (Nat.zero_le _) (Nat.zero_le _)
                · refine zr_iconst (pc := 182) (zq_d eX8_wins 96 rfl) zc_i1 ?_
                  refine zr_goto (pc := 183) 187 (zq_d eX8_wins 97 rfl) (by decide) ?_
                  exact zr_zreturn (pc := 187) (zq_d eX8_wins 99 rfl) rfl rfl rfl (Nat.zero_le _) (Nat.zero_le _)
              · refine zr_iconst (pc := 97) (zq_d eX8_wins 53 rfl) zc_i0 ?_
                refine zr_istore (pc := 98) (lo2 := [(8, .int (0 : Int32)), (0, .ref (zq_ad G 51)), (1, .int a1), (2, .int a2), (3, .int a3), (4, .int a4), (5, .int a5), (6, .int a6), (7, .int v4)]) (zq_d eX8_wins 54 rfl) (Nat.le_of_ble_eq_true rfl) rfl ?_
                have hbrc100_3 : ∀ rc100_3 : Int32 → zq_M → Option (Int32 × zq_M), (∀ (v6 : Int32) (X7 : zq_M), zq_V G YX8_wins (3 + (n + 1), 0, 0) (zq_si (zq_shX j) z) 0 0 100 [(0, .ref (zq_ad G 51)), (1, .int a1), (2, .int a2), (3, .int a3), (4, .int a4), (5, .int a5), (6, .int a6), (7, .int v4), (8, .int v6)] [] (zq_shX j) z X7 (rc100_3 v6 X7)) → ∀ (v6 : Int32) (X7 : zq_M), zq_V G YX8_wins (3 + (n + 1), 0, 0) (zq_si (zq_shX j) z) 0 0 100 [(0, .ref (zq_ad G 51)), (1, .int a1), (2, .int a2), (3, .int a3), (4, .int a4), (5, .int a5), (6, .int a6), (7, .int v4), (8, .int v6)] [] (zq_shX j) z X7 (b_X8_wins_100 N j a1 a2 a3 a4 a5 a6 rc v4 rc82_1 rc100_3 v6 X7) := by
                  intro rc100_3 hrc100_3 v6 X7
                  unfold b_X8_wins_100
                  refine zr_iload (pc := 100) (zq_d eX8_wins 55 rfl) 8 rfl ?_
                  refine zr_iconst (pc := 102) (zq_d eX8_wins 56 rfl) zc_i4 ?_
                  refine zr_icmp_ge (pc := 103) 171 (zq_d eX8_wins 57 rfl) (by decide) (fun _ => ?_) (fun _ => ?_)
                  · refine zr_iinc (pc := 171) (j := 7) (v := (v4 + (1 : Int32))) (lo2 := [(7, .int (v4 + (1 : Int32))), (0, .ref (zq_ad G 51)), (1, .int a1), (2, .int a2), (3, .int a3), (4, .int a4), (5, .int a5), (6, .int a6), (8, .int v6)]) (zq_d eX8_wins 92 rfl) rfl (by rw [zc_i1]) (Nat.le_of_ble_eq_true rfl) rfl ?_
                    refine zr_goto (pc := 174) 82 (zq_d eX8_wins 93 rfl) (by decide) ?_
                    exact zr_lo [1, 2, 3, 4, 5, 6, 7, 0] rfl (hrc82_1 (v4 + (1 : Int32)) X7)
                  · refine zr_aload_n (pc := 106) (zq_d eX8_wins 58 rfl) 0 rfl rfl ?_
                    refine zr_getC (pc := 107) (zq_d eX8_wins 59 rfl) zf_RX8_9 (kx_51_0 j) ?_
                    refine zr_iload_n (pc := 110) (zq_d eX8_wins 60 rfl) 3 rfl rfl ?_
                    refine zr_iload (pc := 111) (zq_d eX8_wins 61 rfl) 7 rfl ?_
                    refine zr_iload (pc := 113) (zq_d eX8_wins 62 rfl) 8 rfl ?_
                    refine zr_Vi (pc := 115) [_, _, _] (zq_d eX8_wins 63 rfl) (s_X6_mayCome G N z j X7 _ _ _) zd_X6_mayCome zl_RX8_46 (ox_35 j) rfl rfl rfl rfl (Nat.le_of_ble_eq_true rfl) (Nat.le_of_ble_eq_true rfl) (show 3 + 1 ≤ 3 + (n + 1) by omega) ⟨Nat.le_refl _, Nat.le_refl _⟩ (fun v8 => ?_)
                    refine zr_if_eq (pc := 118) 165 (zq_d eX8_wins 64 rfl) (by decide) (fun _ => ?_) (fun _ => ?_)
                    · refine zr_iinc (pc := 165) (j := 8) (v := (v6 + (1 : Int32))) (lo2 := [(8, .int (v6 + (1 : Int32))), (0, .ref (zq_ad G 51)), (1, .int a1), (2, .int a2), (3, .int a3), (4, .int a4), (5, .int a5), (6, .int a6), (7, .int v4)]) (zq_d eX8_wins 90 rfl) rfl (by rw [zc_i1]) (Nat.le_of_ble_eq_true rfl) rfl ?_
                      refine zr_goto (pc := 168) 100 (zq_d eX8_wins 91 rfl) (by decide) ?_
                      exact zr_lo [1, 2, 3, 4, 5, 6, 7, 8, 0] rfl (hrc100_3 (v6 + (1 : Int32)) X7)
                    · refine zr_iload_n (pc := 121) (zq_d eX8_wins 65 rfl) 3 rfl rfl ?_
                      refine zr_iload (pc := 122) (zq_d eX8_wins 66 rfl) 7 rfl ?_
                      refine zr_iload (pc := 124) (zq_d eX8_wins 67 rfl) 8 rfl ?_
                      refine zr_Si (pc := 126) [_, _, _] (zq_d eX8_wins 68 rfl) (s_X6_moved G N z j X7 _ _ _) zd_X6_moved zl_RX8_50 rfl rfl (Nat.le_of_ble_eq_true rfl) (Nat.le_of_ble_eq_true rfl) (show 1 + 1 ≤ 3 + (n + 1) by omega) ⟨Nat.le_refl _, Nat.le_refl _⟩ (fun v9 => ?_)
                      refine zr_istore (pc := 129) (lo2 := [(9, .int v9), (0, .ref (zq_ad G 51)), (1, .int a1), (2, .int a2), (3, .int a3), (4, .int a4), (5, .int a5), (6, .int a6), (7, .int v4), (8, .int v6)]) (zq_d eX8_wins 69 rfl) (Nat.le_of_ble_eq_true rfl) rfl ?_
                      refine zr_aload_n (pc := 131) (zq_d eX8_wins 70 rfl) 1 rfl rfl ?_
                      refine zr_iload_n (pc := 132) (zq_d eX8_wins 71 rfl) 2 rfl rfl ?_
                      refine zr_iload_n (pc := 133) (zq_d eX8_wins 72 rfl) 3 rfl rfl ?_
                      refine zr_iload (pc := 134) (zq_d eX8_wins 73 rfl) 0 rfl ?_
                      refine zr_iload (pc := 136) (zq_d eX8_wins 74 rfl) 5 rfl ?_
                      refine zr_iconst (pc := 138) (zq_d eX8_wins 75 rfl) zc_i1 ?_
                      refine zr_iadd (pc := 139) (zq_d eX8_wins 76 rfl) ?_
                      refine zr_iload (pc := 140) (zq_d eX8_wins 77 rfl) 6 rfl ?_
                      refine zr_iconst (pc := 142) (zq_d eX8_wins 78 rfl) zc_i1 ?_
                      refine zr_isub (pc := 143) (zq_d eX8_wins 79 rfl) ?_
                      refine zr_iload (pc := 144) (zq_d eX8_wins 80 rfl) 7 rfl ?_
                      have hj154_4 : ∀ (v10 : Int32), zq_V G YX8_wins (3 + (n + 1), 0, 0) (zq_si (zq_shX j) z) 0 0 154 [(0, .ref (zq_ad G 51)), (1, .int a1), (2, .int a2), (3, .int a3), (4, .int a4), (5, .int a5), (6, .int a6), (7, .int v4), (8, .int v6)] [.int v10, .int (a5 - (1 : Int32)), .int (a4 + (1 : Int32)), .int v9, .int a2, .int a1, .ref (zq_ad G 51)] (zq_shX j) z X7 (j_X8_wins_154 a1 a2 a4 a5 a6 rc v6 X7 rc100_3 v9 v10) := by
                        intro v10
                        unfold j_X8_wins_154
                        refine zr_Wsi (pc := 154) [_, _, _, _, _, _] (zq_d eX8_wins 85 rfl) (ih _ _ _ _ _ _ X7) zd_X8_wins zl_RX8_31 (ox_51 j) rfl rfl rfl rfl (Nat.le_of_ble_eq_true rfl) (Nat.le_of_ble_eq_true rfl) (show (3 + n) + 1 ≤ 3 + (n + 1) by omega) ⟨Nat.le_refl _, Nat.le_refl _⟩ (fun v11 X12 => ?_)
                        refine zr_iload (pc := 157) (zq_d eX8_wins 86 rfl) 6 rfl ?_
                        refine zr_icmp_ne (pc := 159) 165 (zq_d eX8_wins 87 rfl) (by decide) (fun _ => ?_) (fun _ => ?_)
                        · refine zr_iinc (pc := 165) (j := 8) (v := (v6 + (1 : Int32))) (lo2 := [(8, .int (v6 + (1 : Int32))), (0, .ref (zq_ad G 51)), (1, .int a1), (2, .int a2), (3, .int a3), (4, .int a4), (5, .int a5), (6, .int a6), (7, .int v4)]) (zq_d eX8_wins 90 rfl) rfl (by rw [zc_i1]) (Nat.le_of_ble_eq_true rfl) rfl ?_
                          refine zr_goto (pc := 168) 100 (zq_d eX8_wins 91 rfl) (by decide) ?_
                          exact zr_lo [1, 2, 3, 4, 5, 6, 7, 8, 0] rfl (hrc100_3 (v6 + (1 : Int32)) X12)
                        · refine zr_iload (pc := 162) (zq_d eX8_wins 88 rfl) 6 rfl ?_
                          exact zr_zreturnG (pc := 164) (zq_d eX8_wins 89 rfl) rfl rfl (Nat.zero_le _) (Nat.zero_le _)
                      refine zr_if_ne (pc := 146) 153 (zq_d eX8_wins 81 rfl) (by decide) (fun _ => ?_) (fun _ => ?_)
                      · refine zr_iconst (pc := 153) (zq_d eX8_wins 84 rfl) zc_i0 ?_
                        exact zr_lo [1, 2, 3, 4, 5, 6, 7, 8, 9] rfl (hj154_4 (0 : Int32))
                      · refine zr_iconst (pc := 149) (zq_d eX8_wins 82 rfl) zc_i1 ?_
                        refine zr_goto (pc := 150) 154 (zq_d eX8_wins 83 rfl) (by decide) ?_
                        exact zr_lo [1, 2, 3, 4, 5, 6, 7, 8, 9] rfl (hj154_4 (1 : Int32))
                have hlrc100_3 := zr_loop (P := fun (rc100_3 : Int32 → zq_M → Option (Int32 × zq_M)) => ∀ (v6 : Int32) (X7 : zq_M), zq_V G YX8_wins (3 + (n + 1), 0, 0) (zq_si (zq_shX j) z) 0 0 100 [(0, .ref (zq_ad G 51)), (1, .int a1), (2, .int a2), (3, .int a3), (4, .int a4), (5, .int a5), (6, .int a6), (7, .int v4), (8, .int v6)] [] (zq_shX j) z X7 (rc100_3 v6 X7)) (fun _ _ => none) (b_X8_wins_100 N j a1 a2 a3 a4 a5 a6 rc v4 rc82_1) (fun _ _ => zr_none) hbrc100_3 N
                exact zr_lo [1, 2, 3, 4, 5, 6, 7, 8, 0] rfl (hlrc100_3 (0 : Int32) X5)
            have hlrc82_1 := zr_loop (P := fun (rc82_1 : Int32 → zq_M → Option (Int32 × zq_M)) => ∀ (v4 : Int32) (X5 : zq_M), zq_V G YX8_wins (3 + (n + 1), 0, 0) (zq_si (zq_shX j) z) 0 0 82 [(0, .ref (zq_ad G 51)), (1, .int a1), (2, .int a2), (3, .int a3), (4, .int a4), (5, .int a5), (6, .int a6), (7, .int v4)] [] (zq_shX j) z X5 (rc82_1 v4 X5)) (fun _ _ => none) (b_X8_wins_82 N j a1 a2 a3 a4 a5 a6 rc) (fun _ _ => zr_none) hbrc82_1 N
            exact zr_lo [1, 2, 3, 4, 5, 6, 7, 0] rfl (hlrc82_1 (0 : Int32) X3)
          · refine zr_iload (pc := 76) (zq_d eX8_wins 43 rfl) 6 rfl ?_
            exact zr_zreturnG (pc := 78) (zq_d eX8_wins 44 rfl) rfl rfl (Nat.zero_le _) (Nat.zero_le _)
        refine zr_if_ne (pc := 60) 67 (zq_d eX8_wins 36 rfl) (by decide) (fun _ => ?_) (fun _ => ?_)
        · refine zr_iconst (pc := 67) (zq_d eX8_wins 39 rfl) zc_i0 ?_
          exact zr_lo [0, 1, 2, 3, 4, 5, 6] rfl (hj68_5 (0 : Int32))
        · refine zr_iconst (pc := 63) (zq_d eX8_wins 37 rfl) zc_i1 ?_
          refine zr_goto (pc := 64) 68 (zq_d eX8_wins 38 rfl) (by decide) ?_
          exact zr_lo [0, 1, 2, 3, 4, 5, 6] rfl (hj68_5 (1 : Int32))
      · refine zr_aload_n (pc := 5) (zq_d eX8_wins 2 rfl) 0 rfl rfl ?_
        refine zr_getC (pc := 6) (zq_d eX8_wins 3 rfl) zf_RX8_9 (kx_51_0 j) ?_
        refine zr_iload_n (pc := 9) (zq_d eX8_wins 4 rfl) 1 rfl rfl ?_
        refine zr_aload_n (pc := 10) (zq_d eX8_wins 5 rfl) 0 rfl rfl ?_
        refine zr_getC (pc := 11) (zq_d eX8_wins 6 rfl) zf_RX8_9 (kx_51_0 j) ?_
        refine zr_iload_n (pc := 14) (zq_d eX8_wins 7 rfl) 3 rfl rfl ?_
        refine zr_iload_n (pc := 15) (zq_d eX8_wins 8 rfl) 1 rfl rfl ?_
        refine zr_Vi (pc := 16) [_, _] (zq_d eX8_wins 9 rfl) (s_X6_whoIsAt G N z j X _ _) zd_X6_whoIsAt zl_RX8_35 (ox_35 j) rfl rfl rfl rfl (Nat.le_of_ble_eq_true rfl) (Nat.le_of_ble_eq_true rfl) (show 1 + 1 ≤ 3 + (n + 1) by omega) ⟨Nat.le_refl _, Nat.le_refl _⟩ (fun v13 => ?_)
        refine zr_iload (pc := 19) (zq_d eX8_wins 10 rfl) 4 rfl ?_
        refine zr_Wsi (pc := 21) [_, _, _] (zq_d eX8_wins 11 rfl) (s_X6_speakers G N z j X _ _ _) zd_X6_speakers zl_RX8_39 (ox_35 j) rfl rfl rfl rfl (Nat.le_of_ble_eq_true rfl) (Nat.le_of_ble_eq_true rfl) (show 3 + 1 ≤ 3 + (n + 1) by omega) ⟨Nat.le_refl _, Nat.le_refl _⟩ (fun v14 X15 => ?_)
        refine zr_istore (pc := 24) (lo2 := [(7, .int v14), (0, .ref (zq_ad G 51)), (1, .int a1), (2, .int a2), (3, .int a3), (4, .int a4), (5, .int a5), (6, .int a6)]) (zq_d eX8_wins 12 rfl) (Nat.le_of_ble_eq_true rfl) rfl ?_
        refine zr_iload (pc := 26) (zq_d eX8_wins 13 rfl) 0 rfl ?_
        refine zr_iload_n (pc := 28) (zq_d eX8_wins 14 rfl) 3 rfl rfl ?_
        refine zr_iand (pc := 29) (zq_d eX8_wins 15 rfl) ?_
        refine zr_if_eq (pc := 30) 46 (zq_d eX8_wins 16 rfl) (by decide) (fun _ => ?_) (fun _ => ?_)
        · refine zr_iconst (pc := 46) (zq_d eX8_wins 25 rfl) zc_i0 ?_
          exact zr_zreturn (pc := 47) (zq_d eX8_wins 26 rfl) rfl rfl rfl (Nat.zero_le _) (Nat.zero_le _)
        · refine zr_iload (pc := 33) (zq_d eX8_wins 17 rfl) 0 rfl ?_
          refine zr_iload_n (pc := 35) (zq_d eX8_wins 18 rfl) 3 rfl rfl ?_
          refine zr_iconst (pc := 36) (zq_d eX8_wins 19 rfl) zc_im1 ?_
          refine zr_ixor (pc := 37) (zq_d eX8_wins 20 rfl) ?_
          refine zr_iand (pc := 38) (zq_d eX8_wins 21 rfl) ?_
          refine zr_if_ne (pc := 39) 46 (zq_d eX8_wins 22 rfl) (by decide) (fun _ => ?_) (fun _ => ?_)
          · refine zr_iconst (pc := 46) (zq_d eX8_wins 25 rfl) zc_i0 ?_
            exact zr_zreturn (pc := 47) (zq_d eX8_wins 26 rfl) rfl rfl rfl (Nat.zero_le _) (Nat.zero_le _)
          · refine zr_iconst (pc := 42) (zq_d eX8_wins 23 rfl) zc_i1 ?_
            refine zr_goto (pc := 43) 47 (zq_d eX8_wins 24 rfl) (by decide) ?_
            exact zr_zreturn (pc := 47) (zq_d eX8_wins 26 rfl) rfl rfl rfl (Nat.zero_le _) (Nat.zero_le _)
theorem s_X8_wins (G : zq_G) (N z j : Nat) (X : zq_M) (a1 : Int32) (a2 : Int32) (a3 : Int32) (a4 : Int32) (a5 : Int32) (a6 : Int32) : zq_V G YX8_wins (67, 0, 0) (zq_si (zq_shX j) z) 0 0 0 (lv_args 0 [.ref (zq_ad G 51), .int a1, .int a2, .int a3, .int a4, .int a5, .int a6]) [] (zq_shX j) z X (f_X8_wins N j X a1 a2 a3 a4 a5 a6) := r_X8_wins G N z j 64 a1 a2 a3 a4 a5 a6 X
def f_X8_canWin (N j : Nat) (X : zq_M) (a1 : Int32) (a2 : Int32) (a3 : Int32) : Option (Int32 × zq_M) :=
  (f_X6_packedNow N j X).bind (fun v1 => (f_X8_wins N j X a1 a2 v1 (X.1 1 7) a3 (1 : Int32)).bind (zq_p (fun v2 X3 => zq_gz v2 (some (v2, X3)))))
set_option maxRecDepth 20000 in
set_option maxHeartbeats 8000000 in
theorem s_X8_canWin (G : zq_G) (N z j : Nat) (X : zq_M) (a1 : Int32) (a2 : Int32) (a3 : Int32) : zq_V G YX8_canWin (68, 0, 0) (zq_si (zq_shX j) z) 0 0 0 (lv_args 0 [.ref (zq_ad G 51), .int a1, .int a2, .int a3]) [] (zq_shX j) z X (f_X8_canWin N j X a1 a2 a3) := by
  unfold f_X8_canWin
  refine zr_lo (l2 := [(0, .ref (zq_ad G 51)), (1, .int a1), (2, .int a2), (3, .int a3)]) [0, 1, 2, 3] rfl ?_
  refine zr_aload_n (pc := 0) (zq_d eX8_canWin 0 rfl) 0 rfl rfl ?_
  refine zr_iload_n (pc := 1) (zq_d eX8_canWin 1 rfl) 1 rfl rfl ?_
  refine zr_iload_n (pc := 2) (zq_d eX8_canWin 2 rfl) 2 rfl rfl ?_
  refine zr_aload_n (pc := 3) (zq_d eX8_canWin 3 rfl) 0 rfl rfl ?_
  refine zr_getC (pc := 4) (zq_d eX8_canWin 4 rfl) zf_RX8_9 (kx_51_0 j) ?_
  refine zr_Vi (pc := 7) [] (zq_d eX8_canWin 5 rfl) (s_X6_packedNow G N z j X ) zd_X6_packedNow zl_RX8_15 (ox_35 j) rfl rfl rfl rfl (Nat.le_of_ble_eq_true rfl) (Nat.le_of_ble_eq_true rfl) (Nat.le_of_ble_eq_true rfl) ⟨Nat.le_refl _, Nat.le_refl _⟩ (fun v1 => ?_)
  refine zr_aload_n (pc := 10) (zq_d eX8_canWin 6 rfl) 0 rfl rfl ?_
  refine zr_getC (pc := 11) (zq_d eX8_canWin 7 rfl) zf_RX8_9 (kx_51_0 j) ?_
  refine zr_getC (pc := 14) (zq_d eX8_canWin 8 rfl) zf_RX8_21 (kx_35_0 j) ?_
  refine zr_getI (pc := 17) (zq_d eX8_canWin 9 rfl) zf_RX8_25 (kx_1_7 j) ?_
  refine zr_iload_n (pc := 20) (zq_d eX8_canWin 10 rfl) 3 rfl rfl ?_
  refine zr_iconst (pc := 21) (zq_d eX8_canWin 11 rfl) zc_i1 ?_
  refine zr_Wsi (pc := 22) [_, _, _, _, _, _] (zq_d eX8_canWin 12 rfl) (s_X8_wins G N z j X _ _ _ _ _ _) zd_X8_wins zl_RX8_31 (ox_51 j) rfl rfl rfl rfl (Nat.le_of_ble_eq_true rfl) (Nat.le_of_ble_eq_true rfl) (Nat.le_of_ble_eq_true rfl) ⟨Nat.le_refl _, Nat.le_refl _⟩ (fun v2 X3 => ?_)
  exact zr_zreturnG (pc := 25) (zq_d eX8_canWin 13 rfl) rfl rfl (Nat.zero_le _) (Nat.zero_le _)
def b_X8_waysOn_21 (N : Nat) (j : Nat) (X : zq_M) (a1 : Int32) (v2 : Int32) (rc4_1 : Int32 → Int32 → Option Int32) (rc21_2 : Int32 → Int32 → Option Int32) (v3 : Int32) (v4 : Int32) : Option Int32 :=
  if (4 : Int32) ≤ v4 then (rc4_1 v3 (v2 + (1 : Int32))) else ((f_X6_mayCome N j X a1 v2 v4).bind (fun v5 => if v5 = 0 then (rc21_2 v3 (v4 + (1 : Int32))) else (rc21_2 (v3 + (1 : Int32)) (v4 + (1 : Int32)))))
def b_X8_waysOn_4 (N : Nat) (j : Nat) (X : zq_M) (a1 : Int32) (rc4_1 : Int32 → Int32 → Option Int32) (v1 : Int32) (v2 : Int32) : Option Int32 :=
  if (X.1 1 0) ≤ v2 then (some v1) else (zq_loop (fun _ _ => none) (b_X8_waysOn_21 N j X a1 v2 rc4_1) N v1 (0 : Int32))
def f_X8_waysOn (N j : Nat) (X : zq_M) (a1 : Int32) : Option Int32 :=
  zq_loop (fun _ _ => none) (b_X8_waysOn_4 N j X a1) N (0 : Int32) (0 : Int32)
set_option maxRecDepth 20000 in
set_option maxHeartbeats 8000000 in
theorem s_X8_waysOn (G : zq_G) (N z j : Nat) (X : zq_M) (a1 : Int32) : zq_V G YX8_waysOn (4, 0, 0) (zq_ei (zq_shX j) z X) 0 0 0 (lv_args 0 [.ref (zq_ad G 51), .int a1]) [] (zq_shX j) z X (f_X8_waysOn N j X a1) := by
  unfold f_X8_waysOn
  refine zr_lo (l2 := [(0, .ref (zq_ad G 51)), (1, .int a1)]) [0, 1] rfl ?_
  refine zr_iconst (pc := 0) (zq_d eX8_waysOn 0 rfl) zc_i0 ?_
  refine zr_istore_n (pc := 1) (lo2 := [(2, .int (0 : Int32)), (0, .ref (zq_ad G 51)), (1, .int a1)]) (zq_d eX8_waysOn 1 rfl) rfl (Nat.le_of_ble_eq_true rfl) rfl ?_
  refine zr_iconst (pc := 2) (zq_d eX8_waysOn 2 rfl) zc_i0 ?_
  refine zr_istore_n (pc := 3) (lo2 := [(3, .int (0 : Int32)), (2, .int (0 : Int32)), (0, .ref (zq_ad G 51)), (1, .int a1)]) (zq_d eX8_waysOn 3 rfl) rfl (Nat.le_of_ble_eq_true rfl) rfl ?_
  have hbrc4_1 : ∀ rc4_1 : Int32 → Int32 → Option Int32, (∀ (v1 : Int32) (v2 : Int32), zq_V G YX8_waysOn (4, 0, 0) (zq_ei (zq_shX j) z X) 0 0 4 [(0, .ref (zq_ad G 51)), (1, .int a1), (2, .int v1), (3, .int v2)] [] (zq_shX j) z X (rc4_1 v1 v2)) → ∀ (v1 : Int32) (v2 : Int32), zq_V G YX8_waysOn (4, 0, 0) (zq_ei (zq_shX j) z X) 0 0 4 [(0, .ref (zq_ad G 51)), (1, .int a1), (2, .int v1), (3, .int v2)] [] (zq_shX j) z X (b_X8_waysOn_4 N j X a1 rc4_1 v1 v2) := by
    intro rc4_1 hrc4_1 v1 v2
    unfold b_X8_waysOn_4
    refine zr_iload_n (pc := 4) (zq_d eX8_waysOn 4 rfl) 3 rfl rfl ?_
    refine zr_aload_n (pc := 5) (zq_d eX8_waysOn 5 rfl) 0 rfl rfl ?_
    refine zr_getC (pc := 6) (zq_d eX8_waysOn 6 rfl) zf_RX8_9 (kx_51_0 j) ?_
    refine zr_getC (pc := 9) (zq_d eX8_waysOn 7 rfl) zf_RX8_21 (kx_35_0 j) ?_
    refine zr_getI (pc := 12) (zq_d eX8_waysOn 8 rfl) zf_RX8_43 (kx_1_0 j) ?_
    refine zr_icmp_ge (pc := 15) 56 (zq_d eX8_waysOn 9 rfl) (by decide) (fun _ => ?_) (fun _ => ?_)
    · refine zr_iload_n (pc := 56) (zq_d eX8_waysOn 27 rfl) 2 rfl rfl ?_
      exact zr_ireturn (pc := 57) (zq_d eX8_waysOn 28 rfl) rfl rfl (Nat.zero_le _) (Nat.zero_le _)
    · refine zr_iconst (pc := 18) (zq_d eX8_waysOn 10 rfl) zc_i0 ?_
      refine zr_istore (pc := 19) (lo2 := [(4, .int (0 : Int32)), (0, .ref (zq_ad G 51)), (1, .int a1), (2, .int v1), (3, .int v2)]) (zq_d eX8_waysOn 11 rfl) (Nat.le_of_ble_eq_true rfl) rfl ?_
      have hbrc21_2 : ∀ rc21_2 : Int32 → Int32 → Option Int32, (∀ (v3 : Int32) (v4 : Int32), zq_V G YX8_waysOn (4, 0, 0) (zq_ei (zq_shX j) z X) 0 0 21 [(0, .ref (zq_ad G 51)), (1, .int a1), (2, .int v3), (3, .int v2), (4, .int v4)] [] (zq_shX j) z X (rc21_2 v3 v4)) → ∀ (v3 : Int32) (v4 : Int32), zq_V G YX8_waysOn (4, 0, 0) (zq_ei (zq_shX j) z X) 0 0 21 [(0, .ref (zq_ad G 51)), (1, .int a1), (2, .int v3), (3, .int v2), (4, .int v4)] [] (zq_shX j) z X (b_X8_waysOn_21 N j X a1 v2 rc4_1 rc21_2 v3 v4) := by
        intro rc21_2 hrc21_2 v3 v4
        unfold b_X8_waysOn_21
        refine zr_iload (pc := 21) (zq_d eX8_waysOn 12 rfl) 4 rfl ?_
        refine zr_iconst (pc := 23) (zq_d eX8_waysOn 13 rfl) zc_i4 ?_
        refine zr_icmp_ge (pc := 24) 50 (zq_d eX8_waysOn 14 rfl) (by decide) (fun _ => ?_) (fun _ => ?_)
        · refine zr_iinc (pc := 50) (j := 3) (v := (v2 + (1 : Int32))) (lo2 := [(3, .int (v2 + (1 : Int32))), (0, .ref (zq_ad G 51)), (1, .int a1), (2, .int v3), (4, .int v4)]) (zq_d eX8_waysOn 25 rfl) rfl (by rw [zc_i1]) (Nat.le_of_ble_eq_true rfl) rfl ?_
          refine zr_goto (pc := 53) 4 (zq_d eX8_waysOn 26 rfl) (by decide) ?_
          exact zr_lo [1, 2, 3, 0] rfl (hrc4_1 v3 (v2 + (1 : Int32)))
        · refine zr_aload_n (pc := 27) (zq_d eX8_waysOn 15 rfl) 0 rfl rfl ?_
          refine zr_getC (pc := 28) (zq_d eX8_waysOn 16 rfl) zf_RX8_9 (kx_51_0 j) ?_
          refine zr_iload_n (pc := 31) (zq_d eX8_waysOn 17 rfl) 1 rfl rfl ?_
          refine zr_iload_n (pc := 32) (zq_d eX8_waysOn 18 rfl) 3 rfl rfl ?_
          refine zr_iload (pc := 33) (zq_d eX8_waysOn 19 rfl) 4 rfl ?_
          refine zr_Vi (pc := 35) [_, _, _] (zq_d eX8_waysOn 20 rfl) (s_X6_mayCome G N z j X _ _ _) zd_X6_mayCome zl_RX8_46 (ox_35 j) rfl rfl rfl rfl (Nat.le_of_ble_eq_true rfl) (Nat.le_of_ble_eq_true rfl) (Nat.le_of_ble_eq_true rfl) ⟨Nat.le_refl _, Nat.le_refl _⟩ (fun v5 => ?_)
          refine zr_if_eq (pc := 38) 44 (zq_d eX8_waysOn 21 rfl) (by decide) (fun _ => ?_) (fun _ => ?_)
          · refine zr_iinc (pc := 44) (j := 4) (v := (v4 + (1 : Int32))) (lo2 := [(4, .int (v4 + (1 : Int32))), (0, .ref (zq_ad G 51)), (1, .int a1), (2, .int v3), (3, .int v2)]) (zq_d eX8_waysOn 23 rfl) rfl (by rw [zc_i1]) (Nat.le_of_ble_eq_true rfl) rfl ?_
            refine zr_goto (pc := 47) 21 (zq_d eX8_waysOn 24 rfl) (by decide) ?_
            exact zr_lo [1, 2, 3, 4, 0] rfl (hrc21_2 v3 (v4 + (1 : Int32)))
          · refine zr_iinc (pc := 41) (j := 2) (v := (v3 + (1 : Int32))) (lo2 := [(2, .int (v3 + (1 : Int32))), (0, .ref (zq_ad G 51)), (1, .int a1), (3, .int v2), (4, .int v4)]) (zq_d eX8_waysOn 22 rfl) rfl (by rw [zc_i1]) (Nat.le_of_ble_eq_true rfl) rfl ?_
            refine zr_iinc (pc := 44) (j := 4) (v := (v4 + (1 : Int32))) (lo2 := [(4, .int (v4 + (1 : Int32))), (2, .int (v3 + (1 : Int32))), (0, .ref (zq_ad G 51)), (1, .int a1), (3, .int v2)]) (zq_d eX8_waysOn 23 rfl) rfl (by rw [zc_i1]) (Nat.le_of_ble_eq_true rfl) rfl ?_
            refine zr_goto (pc := 47) 21 (zq_d eX8_waysOn 24 rfl) (by decide) ?_
            exact zr_lo [2, 3, 1, 4, 0] rfl (hrc21_2 (v3 + (1 : Int32)) (v4 + (1 : Int32)))
      have hlrc21_2 := zr_loop (P := fun (rc21_2 : Int32 → Int32 → Option Int32) => ∀ (v3 : Int32) (v4 : Int32), zq_V G YX8_waysOn (4, 0, 0) (zq_ei (zq_shX j) z X) 0 0 21 [(0, .ref (zq_ad G 51)), (1, .int a1), (2, .int v3), (3, .int v2), (4, .int v4)] [] (zq_shX j) z X (rc21_2 v3 v4)) (fun _ _ => none) (b_X8_waysOn_21 N j X a1 v2 rc4_1) (fun _ _ => zr_none) hbrc21_2 N
      exact zr_lo [1, 2, 3, 4, 0] rfl (hlrc21_2 v1 (0 : Int32))
  have hlrc4_1 := zr_loop (P := fun (rc4_1 : Int32 → Int32 → Option Int32) => ∀ (v1 : Int32) (v2 : Int32), zq_V G YX8_waysOn (4, 0, 0) (zq_ei (zq_shX j) z X) 0 0 4 [(0, .ref (zq_ad G 51)), (1, .int a1), (2, .int v1), (3, .int v2)] [] (zq_shX j) z X (rc4_1 v1 v2)) (fun _ _ => none) (b_X8_waysOn_4 N j X a1) (fun _ _ => zr_none) hbrc4_1 N
  exact zr_lo [2, 3, 1, 0] rfl (hlrc4_1 (0 : Int32) (0 : Int32))
def b_X8_sharesSpeaking_93 (N : Nat) (j : Nat) (a1 : Int32) (a2 : Int32) (a3 : Int32) (a4 : Int32) (a5 : Int64) (rc : Int32 → Int32 → Int32 → Int32 → Int64 → zq_M → Option (Int64 × zq_M)) (v1 : Int32) (v3 : Int32) (rc75_1 : Int64 → Int32 → zq_M → Option (Int64 × zq_M)) (rc93_2 : Int64 → Int32 → zq_M → Option (Int64 × zq_M)) (w5 : Int64) (v6 : Int32) (X7 : zq_M) : Option (Int64 × zq_M) :=
  if (4 : Int32) ≤ v6 then (rc75_1 w5 (v3 + (1 : Int32)) X7) else ((f_X6_mayCome N j X7 a2 v3 v6).bind (fun v8 => if v8 = 0 then (rc93_2 w5 (v6 + (1 : Int32)) X7) else ((f_X6_moved N j X7 a2 v3 v6).bind (fun v9 => zq_dw (v1.toInt64) ((rc a1 v9 (a3 + (1 : Int32)) (a4 - (1 : Int32)) (a5 / (v1.toInt64)) X7).bind (zq_p (fun w10 X11 => rc93_2 (w5 + w10) (v6 + (1 : Int32)) X11)))))))
def b_X8_sharesSpeaking_75 (N : Nat) (j : Nat) (a1 : Int32) (a2 : Int32) (a3 : Int32) (a4 : Int32) (a5 : Int64) (rc : Int32 → Int32 → Int32 → Int32 → Int64 → zq_M → Option (Int64 × zq_M)) (v1 : Int32) (rc75_1 : Int64 → Int32 → zq_M → Option (Int64 × zq_M)) (w2 : Int64) (v3 : Int32) (X4 : zq_M) : Option (Int64 × zq_M) :=
  if (X4.1 1 0) ≤ v3 then (some (w2, X4)) else (zq_loop (fun _ _ _ => none) (b_X8_sharesSpeaking_93 N j a1 a2 a3 a4 a5 rc v1 v3 rc75_1) N w2 (0 : Int32) X4)
def j_X8_sharesSpeaking_14 (N : Nat) (j : Nat) (X : zq_M) (a1 : Int32) (a2 : Int32) (a3 : Int32) (a4 : Int32) (a5 : Int64) (rc : Int32 → Int32 → Int32 → Int32 → Int64 → zq_M → Option (Int64 × zq_M)) (v1 : Int32) : Option (Int64 × zq_M) :=
  if ¬ v1 = 0 then (zq_loop (fun _ _ _ => none) (b_X8_sharesSpeaking_75 N j a1 a2 a3 a4 a5 rc v1) N (0 : Int64) (0 : Int32) X) else (zq_b ((zq_shr a2 ((2 : Int32) * a1)) &&& (3 : Int32)) (fun v12 => (f_X6_whoIsAt N j X a2 v12).bind (fun v13 => (f_X6_speakers N j X v12 v13 a3).bind (zq_p (fun v14 X15 => if ¬ ((zq_shr v14 a1) &&& (1 : Int32)) = (1 : Int32) then (some ((0 : Int64), X15)) else (some (a5, X15)))))))
def B_X8_sharesSpeaking (N j : Nat) (rc : Int32 → Int32 → Int32 → Int32 → Int64 → zq_M → Option (Int64 × zq_M)) (a1 : Int32) (a2 : Int32) (a3 : Int32) (a4 : Int32) (a5 : Int64) (X : zq_M) : Option (Int64 × zq_M) :=
  if a4 ≤ 0 then (j_X8_sharesSpeaking_14 N j X a1 a2 a3 a4 a5 rc (0 : Int32)) else ((f_X8_waysOn N j X a2).bind (fun v16 => j_X8_sharesSpeaking_14 N j X a1 a2 a3 a4 a5 rc v16))
def fr_X8_sharesSpeaking (N j : Nat) : Int32 → Int32 → Int32 → Int32 → Int64 → zq_M → Option (Int64 × zq_M) := zq_loop (fun _ _ _ _ _ _ => none) (B_X8_sharesSpeaking N j) 64
def f_X8_sharesSpeaking (N j : Nat) (X : zq_M) (a1 : Int32) (a2 : Int32) (a3 : Int32) (a4 : Int32) (a5 : Int64) : Option (Int64 × zq_M) := fr_X8_sharesSpeaking N j a1 a2 a3 a4 a5 X
set_option maxRecDepth 20000 in
set_option maxHeartbeats 8000000 in
theorem r_X8_sharesSpeaking (G : zq_G) (N z j : Nat) : ∀ (n : Nat) (a1 : Int32) (a2 : Int32) (a3 : Int32) (a4 : Int32) (a5 : Int64) (X : zq_M), zq_V G YX8_sharesSpeaking (4 + n, 0, 0) (zq_sl (zq_shX j) z) 0 0 0 (lv_args 0 [.ref (zq_ad G 51), .int a1, .int a2, .int a3, .int a4, .long a5]) [] (zq_shX j) z X (zq_loop (fun _ _ _ _ _ _ => none) (B_X8_sharesSpeaking N j) n a1 a2 a3 a4 a5 X) := by
  intro n
  induction n with
    | zero =>
      intro a1 a2 a3 a4 a5 X
      exact zr_none
    | succ n ih =>
      intro a1 a2 a3 a4 a5 X
      show zq_V G YX8_sharesSpeaking (4 + (n + 1), 0, 0) (zq_sl (zq_shX j) z) 0 0 0 (lv_args 0 [.ref (zq_ad G 51), .int a1, .int a2, .int a3, .int a4, .long a5]) [] (zq_shX j) z X (B_X8_sharesSpeaking N j (zq_loop (fun _ _ _ _ _ _ => none) (B_X8_sharesSpeaking N j) n) a1 a2 a3 a4 a5 X)
      generalize zq_loop (fun _ _ _ _ _ _ => none) (B_X8_sharesSpeaking N j) n = rc at ih ⊢
      unfold B_X8_sharesSpeaking
      refine zr_lo (l2 := [(0, .ref (zq_ad G 51)), (1, .int a1), (2, .int a2), (3, .int a3), (4, .int a4), (5, .long a5)]) [0, 1, 2, 3, 4, 5] rfl ?_
      refine zr_iload (pc := 0) (zq_d eX8_sharesSpeaking 0 rfl) 4 rfl ?_
      have hj14_3 : ∀ (v1 : Int32), zq_V G YX8_sharesSpeaking (4 + (n + 1), 0, 0) (zq_sl (zq_shX j) z) 0 0 14 [(0, .ref (zq_ad G 51)), (1, .int a1), (2, .int a2), (3, .int a3), (4, .int a4), (5, .long a5)] [.int v1] (zq_shX j) z X (j_X8_sharesSpeaking_14 N j X a1 a2 a3 a4 a5 rc v1) := by
        intro v1
        unfold j_X8_sharesSpeaking_14
        refine zr_istore (pc := 14) (lo2 := [(7, .int v1), (0, .ref (zq_ad G 51)), (1, .int a1), (2, .int a2), (3, .int a3), (4, .int a4), (5, .long a5)]) (zq_d eX8_sharesSpeaking 7 rfl) (Nat.le_of_ble_eq_true rfl) rfl ?_
        refine zr_iload (pc := 16) (zq_d eX8_sharesSpeaking 8 rfl) 0 rfl ?_
        refine zr_if_ne (pc := 18) 69 (zq_d eX8_sharesSpeaking 9 rfl) (by decide) (fun _ => ?_) (fun _ => ?_)
        · refine zr_lconst (pc := 69) (v := 0) (zq_d eX8_sharesSpeaking 40 rfl) rfl ?_
          refine zr_lstore (pc := 70) (lo2 := [(8, .long (0 : Int64)), (7, .int v1), (0, .ref (zq_ad G 51)), (1, .int a1), (2, .int a2), (3, .int a3), (4, .int a4), (5, .long a5)]) (zq_d eX8_sharesSpeaking 41 rfl) (Nat.le_of_ble_eq_true rfl) rfl ?_
          refine zr_iconst (pc := 72) (zq_d eX8_sharesSpeaking 42 rfl) zc_i0 ?_
          refine zr_istore (pc := 73) (lo2 := [(10, .int (0 : Int32)), (8, .long (0 : Int64)), (7, .int v1), (0, .ref (zq_ad G 51)), (1, .int a1), (2, .int a2), (3, .int a3), (4, .int a4), (5, .long a5)]) (zq_d eX8_sharesSpeaking 43 rfl) (Nat.le_of_ble_eq_true rfl) rfl ?_
          have hbrc75_1 : ∀ rc75_1 : Int64 → Int32 → zq_M → Option (Int64 × zq_M), (∀ (w2 : Int64) (v3 : Int32) (X4 : zq_M), zq_V G YX8_sharesSpeaking (4 + (n + 1), 0, 0) (zq_sl (zq_shX j) z) 0 0 75 [(0, .ref (zq_ad G 51)), (1, .int a1), (2, .int a2), (3, .int a3), (4, .int a4), (5, .long a5), (7, .int v1), (8, .long w2), (10, .int v3)] [] (zq_shX j) z X4 (rc75_1 w2 v3 X4)) → ∀ (w2 : Int64) (v3 : Int32) (X4 : zq_M), zq_V G YX8_sharesSpeaking (4 + (n + 1), 0, 0) (zq_sl (zq_shX j) z) 0 0 75 [(0, .ref (zq_ad G 51)), (1, .int a1), (2, .int a2), (3, .int a3), (4, .int a4), (5, .long a5), (7, .int v1), (8, .long w2), (10, .int v3)] [] (zq_shX j) z X4 (b_X8_sharesSpeaking_75 N j a1 a2 a3 a4 a5 rc v1 rc75_1 w2 v3 X4) := by
            intro rc75_1 hrc75_1 w2 v3 X4
            unfold b_X8_sharesSpeaking_75
            refine zr_iload (pc := 75) (zq_d eX8_sharesSpeaking 44 rfl) 8 rfl ?_
            refine zr_aload_n (pc := 77) (zq_d eX8_sharesSpeaking 45 rfl) 0 rfl rfl ?_
            refine zr_getC (pc := 78) (zq_d eX8_sharesSpeaking 46 rfl) zf_RX8_9 (kx_51_0 j) ?_
            refine zr_getC (pc := 81) (zq_d eX8_sharesSpeaking 47 rfl) zf_RX8_21 (kx_35_0 j) ?_
            refine zr_getI (pc := 84) (zq_d eX8_sharesSpeaking 48 rfl) zf_RX8_43 (kx_1_0 j) ?_
            refine zr_icmp_ge (pc := 87) 161 (zq_d eX8_sharesSpeaking 49 rfl) (by decide) (fun _ => ?_) (fun _ => ?_)
            · refine zr_lload (pc := 161) (zq_d eX8_sharesSpeaking 88 rfl) 7 rfl ?_
              exact zr_lreturn (pc := 163) (zq_d eX8_sharesSpeaking 89 rfl) rfl rfl (Nat.zero_le _) (Nat.zero_le _)
            · refine zr_iconst (pc := 90) (zq_d eX8_sharesSpeaking 50 rfl) zc_i0 ?_
              refine zr_istore (pc := 91) (lo2 := [(11, .int (0 : Int32)), (0, .ref (zq_ad G 51)), (1, .int a1), (2, .int a2), (3, .int a3), (4, .int a4), (5, .long a5), (7, .int v1), (8, .long w2), (10, .int v3)]) (zq_d eX8_sharesSpeaking 51 rfl) (Nat.le_of_ble_eq_true rfl) rfl ?_
              have hbrc93_2 : ∀ rc93_2 : Int64 → Int32 → zq_M → Option (Int64 × zq_M), (∀ (w5 : Int64) (v6 : Int32) (X7 : zq_M), zq_V G YX8_sharesSpeaking (4 + (n + 1), 0, 0) (zq_sl (zq_shX j) z) 0 0 93 [(0, .ref (zq_ad G 51)), (1, .int a1), (2, .int a2), (3, .int a3), (4, .int a4), (5, .long a5), (7, .int v1), (8, .long w5), (10, .int v3), (11, .int v6)] [] (zq_shX j) z X7 (rc93_2 w5 v6 X7)) → ∀ (w5 : Int64) (v6 : Int32) (X7 : zq_M), zq_V G YX8_sharesSpeaking (4 + (n + 1), 0, 0) (zq_sl (zq_shX j) z) 0 0 93 [(0, .ref (zq_ad G 51)), (1, .int a1), (2, .int a2), (3, .int a3), (4, .int a4), (5, .long a5), (7, .int v1), (8, .long w5), (10, .int v3), (11, .int v6)] [] (zq_shX j) z X7 (b_X8_sharesSpeaking_93 N j a1 a2 a3 a4 a5 rc v1 v3 rc75_1 rc93_2 w5 v6 X7) := by
                intro rc93_2 hrc93_2 w5 v6 X7
                unfold b_X8_sharesSpeaking_93
                refine zr_iload (pc := 93) (zq_d eX8_sharesSpeaking 52 rfl) 9 rfl ?_
                refine zr_iconst (pc := 95) (zq_d eX8_sharesSpeaking 53 rfl) zc_i4 ?_
                refine zr_icmp_ge (pc := 96) 155 (zq_d eX8_sharesSpeaking 54 rfl) (by decide) (fun _ => ?_) (fun _ => ?_)
                · refine zr_iinc (pc := 155) (j := 8) (v := (v3 + (1 : Int32))) (lo2 := [(10, .int (v3 + (1 : Int32))), (0, .ref (zq_ad G 51)), (1, .int a1), (2, .int a2), (3, .int a3), (4, .int a4), (5, .long a5), (7, .int v1), (8, .long w5), (11, .int v6)]) (zq_d eX8_sharesSpeaking 86 rfl) rfl (by rw [zc_i1]) (Nat.le_of_ble_eq_true rfl) rfl ?_
                  refine zr_goto (pc := 158) 75 (zq_d eX8_sharesSpeaking 87 rfl) (by decide) ?_
                  exact zr_lo [1, 2, 3, 4, 5, 6, 7, 8, 0] rfl (hrc75_1 w5 (v3 + (1 : Int32)) X7)
                · refine zr_aload_n (pc := 99) (zq_d eX8_sharesSpeaking 55 rfl) 0 rfl rfl ?_
                  refine zr_getC (pc := 100) (zq_d eX8_sharesSpeaking 56 rfl) zf_RX8_9 (kx_51_0 j) ?_
                  refine zr_iload_n (pc := 103) (zq_d eX8_sharesSpeaking 57 rfl) 2 rfl rfl ?_
                  refine zr_iload (pc := 104) (zq_d eX8_sharesSpeaking 58 rfl) 8 rfl ?_
                  refine zr_iload (pc := 106) (zq_d eX8_sharesSpeaking 59 rfl) 9 rfl ?_
                  refine zr_Vi (pc := 108) [_, _, _] (zq_d eX8_sharesSpeaking 60 rfl) (s_X6_mayCome G N z j X7 _ _ _) zd_X6_mayCome zl_RX8_46 (ox_35 j) rfl rfl rfl rfl (Nat.le_of_ble_eq_true rfl) (Nat.le_of_ble_eq_true rfl) (show 3 + 1 ≤ 4 + (n + 1) by omega) ⟨Nat.le_refl _, Nat.le_refl _⟩ (fun v8 => ?_)
                  refine zr_if_eq (pc := 111) 149 (zq_d eX8_sharesSpeaking 61 rfl) (by decide) (fun _ => ?_) (fun _ => ?_)
                  · refine zr_iinc (pc := 149) (j := 9) (v := (v6 + (1 : Int32))) (lo2 := [(11, .int (v6 + (1 : Int32))), (0, .ref (zq_ad G 51)), (1, .int a1), (2, .int a2), (3, .int a3), (4, .int a4), (5, .long a5), (7, .int v1), (8, .long w5), (10, .int v3)]) (zq_d eX8_sharesSpeaking 84 rfl) rfl (by rw [zc_i1]) (Nat.le_of_ble_eq_true rfl) rfl ?_
                    refine zr_goto (pc := 152) 93 (zq_d eX8_sharesSpeaking 85 rfl) (by decide) ?_
                    exact zr_lo [1, 2, 3, 4, 5, 6, 7, 8, 9, 0] rfl (hrc93_2 w5 (v6 + (1 : Int32)) X7)
                  · refine zr_iload_n (pc := 114) (zq_d eX8_sharesSpeaking 62 rfl) 2 rfl rfl ?_
                    refine zr_iload (pc := 115) (zq_d eX8_sharesSpeaking 63 rfl) 8 rfl ?_
                    refine zr_iload (pc := 117) (zq_d eX8_sharesSpeaking 64 rfl) 9 rfl ?_
                    refine zr_Si (pc := 119) [_, _, _] (zq_d eX8_sharesSpeaking 65 rfl) (s_X6_moved G N z j X7 _ _ _) zd_X6_moved zl_RX8_50 rfl rfl (Nat.le_of_ble_eq_true rfl) (Nat.le_of_ble_eq_true rfl) (show 1 + 1 ≤ 4 + (n + 1) by omega) ⟨Nat.le_refl _, Nat.le_refl _⟩ (fun v9 => ?_)
                    refine zr_istore (pc := 122) (lo2 := [(12, .int v9), (0, .ref (zq_ad G 51)), (1, .int a1), (2, .int a2), (3, .int a3), (4, .int a4), (5, .long a5), (7, .int v1), (8, .long w5), (10, .int v3), (11, .int v6)]) (zq_d eX8_sharesSpeaking 66 rfl) (Nat.le_of_ble_eq_true rfl) rfl ?_
                    refine zr_lload (pc := 124) (zq_d eX8_sharesSpeaking 67 rfl) 8 rfl ?_
                    refine zr_aload_n (pc := 126) (zq_d eX8_sharesSpeaking 68 rfl) 1 rfl rfl ?_
                    refine zr_iload_n (pc := 127) (zq_d eX8_sharesSpeaking 69 rfl) 2 rfl rfl ?_
                    refine zr_iload (pc := 128) (zq_d eX8_sharesSpeaking 70 rfl) 0 rfl ?_
                    refine zr_iload_n (pc := 130) (zq_d eX8_sharesSpeaking 71 rfl) 4 rfl rfl ?_
                    refine zr_iconst (pc := 131) (zq_d eX8_sharesSpeaking 72 rfl) zc_i1 ?_
                    refine zr_iadd (pc := 132) (zq_d eX8_sharesSpeaking 73 rfl) ?_
                    refine zr_iload (pc := 133) (zq_d eX8_sharesSpeaking 74 rfl) 5 rfl ?_
                    refine zr_iconst (pc := 135) (zq_d eX8_sharesSpeaking 75 rfl) zc_i1 ?_
                    refine zr_isub (pc := 136) (zq_d eX8_sharesSpeaking 76 rfl) ?_
                    refine zr_lload (pc := 137) (zq_d eX8_sharesSpeaking 77 rfl) 6 rfl ?_
                    refine zr_iload (pc := 139) (zq_d eX8_sharesSpeaking 78 rfl) 7 rfl ?_
                    refine zr_i2l (pc := 141) (zq_d eX8_sharesSpeaking 79 rfl) ?_
                    refine zr_ldiv (pc := 142) (zq_d eX8_sharesSpeaking 80 rfl) ?_
                    refine zr_Wsl (pc := 143) [_, _, _, _, _] (zq_d eX8_sharesSpeaking 81 rfl) (ih _ _ _ _ _ X7) zd_X8_sharesSpeaking zl_RX8_55 (ox_51 j) rfl rfl rfl rfl (Nat.le_of_ble_eq_true rfl) (Nat.le_of_ble_eq_true rfl) (show (4 + n) + 1 ≤ 4 + (n + 1) by omega) ⟨Nat.le_refl _, Nat.le_refl _⟩ (fun w10 X11 => ?_)
                    refine zr_ladd (pc := 146) (zq_d eX8_sharesSpeaking 82 rfl) ?_
                    refine zr_lstore (pc := 147) (lo2 := [(8, .long (w5 + w10)), (12, .int v9), (0, .ref (zq_ad G 51)), (1, .int a1), (2, .int a2), (3, .int a3), (4, .int a4), (5, .long a5), (7, .int v1), (10, .int v3), (11, .int v6)]) (zq_d eX8_sharesSpeaking 83 rfl) (Nat.le_of_ble_eq_true rfl) rfl ?_
                    refine zr_iinc (pc := 149) (j := 10) (v := (v6 + (1 : Int32))) (lo2 := [(11, .int (v6 + (1 : Int32))), (8, .long (w5 + w10)), (12, .int v9), (0, .ref (zq_ad G 51)), (1, .int a1), (2, .int a2), (3, .int a3), (4, .int a4), (5, .long a5), (7, .int v1), (10, .int v3)]) (zq_d eX8_sharesSpeaking 84 rfl) rfl (by rw [zc_i1]) (Nat.le_of_ble_eq_true rfl) rfl ?_
                    refine zr_goto (pc := 152) 93 (zq_d eX8_sharesSpeaking 85 rfl) (by decide) ?_
                    exact zr_lo [3, 4, 5, 6, 7, 8, 9, 1, 10, 0] rfl (hrc93_2 (w5 + w10) (v6 + (1 : Int32)) X11)
              have hlrc93_2 := zr_loop (P := fun (rc93_2 : Int64 → Int32 → zq_M → Option (Int64 × zq_M)) => ∀ (w5 : Int64) (v6 : Int32) (X7 : zq_M), zq_V G YX8_sharesSpeaking (4 + (n + 1), 0, 0) (zq_sl (zq_shX j) z) 0 0 93 [(0, .ref (zq_ad G 51)), (1, .int a1), (2, .int a2), (3, .int a3), (4, .int a4), (5, .long a5), (7, .int v1), (8, .long w5), (10, .int v3), (11, .int v6)] [] (zq_shX j) z X7 (rc93_2 w5 v6 X7)) (fun _ _ _ => none) (b_X8_sharesSpeaking_93 N j a1 a2 a3 a4 a5 rc v1 v3 rc75_1) (fun _ _ _ => zr_none) hbrc93_2 N
              exact zr_lo [1, 2, 3, 4, 5, 6, 7, 8, 9, 0] rfl (hlrc93_2 w2 (0 : Int32) X4)
          have hlrc75_1 := zr_loop (P := fun (rc75_1 : Int64 → Int32 → zq_M → Option (Int64 × zq_M)) => ∀ (w2 : Int64) (v3 : Int32) (X4 : zq_M), zq_V G YX8_sharesSpeaking (4 + (n + 1), 0, 0) (zq_sl (zq_shX j) z) 0 0 75 [(0, .ref (zq_ad G 51)), (1, .int a1), (2, .int a2), (3, .int a3), (4, .int a4), (5, .long a5), (7, .int v1), (8, .long w2), (10, .int v3)] [] (zq_shX j) z X4 (rc75_1 w2 v3 X4)) (fun _ _ _ => none) (b_X8_sharesSpeaking_75 N j a1 a2 a3 a4 a5 rc v1) (fun _ _ _ => zr_none) hbrc75_1 N
          exact zr_lo [3, 4, 5, 6, 7, 8, 2, 1, 0] rfl (hlrc75_1 (0 : Int64) (0 : Int32) X)
        · refine zr_iload_n (pc := 21) (zq_d eX8_sharesSpeaking 10 rfl) 3 rfl rfl ?_
          refine zr_iconst (pc := 22) (zq_d eX8_sharesSpeaking 11 rfl) zc_i2 ?_
          refine zr_iload_n (pc := 23) (zq_d eX8_sharesSpeaking 12 rfl) 2 rfl rfl ?_
          refine zr_imul (pc := 24) (zq_d eX8_sharesSpeaking 13 rfl) ?_
          refine zr_ishr (pc := 25) (zq_d eX8_sharesSpeaking 14 rfl) ?_
          refine zr_iconst (pc := 26) (zq_d eX8_sharesSpeaking 15 rfl) zc_i3 ?_
          refine zr_iand (pc := 27) (zq_d eX8_sharesSpeaking 16 rfl) ?_
          refine zr_nm (fun v12 => ?_)
          refine zr_istore (pc := 28) (lo2 := [(8, .int v12), (7, .int v1), (0, .ref (zq_ad G 51)), (1, .int a1), (2, .int a2), (3, .int a3), (4, .int a4), (5, .long a5)]) (zq_d eX8_sharesSpeaking 17 rfl) (Nat.le_of_ble_eq_true rfl) rfl ?_
          refine zr_aload_n (pc := 30) (zq_d eX8_sharesSpeaking 18 rfl) 2 rfl rfl ?_
          refine zr_getC (pc := 31) (zq_d eX8_sharesSpeaking 19 rfl) zf_RX8_9 (kx_51_0 j) ?_
          refine zr_iload (pc := 34) (zq_d eX8_sharesSpeaking 20 rfl) 0 rfl ?_
          refine zr_aload_n (pc := 36) (zq_d eX8_sharesSpeaking 21 rfl) 2 rfl rfl ?_
          refine zr_getC (pc := 37) (zq_d eX8_sharesSpeaking 22 rfl) zf_RX8_9 (kx_51_0 j) ?_
          refine zr_iload_n (pc := 40) (zq_d eX8_sharesSpeaking 23 rfl) 4 rfl rfl ?_
          refine zr_iload (pc := 41) (zq_d eX8_sharesSpeaking 24 rfl) 0 rfl ?_
          refine zr_Vi (pc := 43) [_, _] (zq_d eX8_sharesSpeaking 25 rfl) (s_X6_whoIsAt G N z j X _ _) zd_X6_whoIsAt zl_RX8_35 (ox_35 j) rfl rfl rfl rfl (Nat.le_of_ble_eq_true rfl) (Nat.le_of_ble_eq_true rfl) (show 1 + 1 ≤ 4 + (n + 1) by omega) ⟨Nat.le_refl _, Nat.le_refl _⟩ (fun v13 => ?_)
          refine zr_iload_n (pc := 46) (zq_d eX8_sharesSpeaking 26 rfl) 5 rfl rfl ?_
          refine zr_Wsi (pc := 47) [_, _, _] (zq_d eX8_sharesSpeaking 27 rfl) (s_X6_speakers G N z j X _ _ _) zd_X6_speakers zl_RX8_39 (ox_35 j) rfl rfl rfl rfl (Nat.le_of_ble_eq_true rfl) (Nat.le_of_ble_eq_true rfl) (show 3 + 1 ≤ 4 + (n + 1) by omega) ⟨Nat.le_refl _, Nat.le_refl _⟩ (fun v14 X15 => ?_)
          refine zr_istore (pc := 50) (lo2 := [(9, .int v14), (8, .int v12), (7, .int v1), (0, .ref (zq_ad G 51)), (1, .int a1), (2, .int a2), (3, .int a3), (4, .int a4), (5, .long a5)]) (zq_d eX8_sharesSpeaking 28 rfl) (Nat.le_of_ble_eq_true rfl) rfl ?_
          refine zr_iload (pc := 52) (zq_d eX8_sharesSpeaking 29 rfl) 0 rfl ?_
          refine zr_iload_n (pc := 54) (zq_d eX8_sharesSpeaking 30 rfl) 4 rfl rfl ?_
          refine zr_ishr (pc := 55) (zq_d eX8_sharesSpeaking 31 rfl) ?_
          refine zr_iconst (pc := 56) (zq_d eX8_sharesSpeaking 32 rfl) zc_i1 ?_
          refine zr_iand (pc := 57) (zq_d eX8_sharesSpeaking 33 rfl) ?_
          refine zr_iconst (pc := 58) (zq_d eX8_sharesSpeaking 34 rfl) zc_i1 ?_
          refine zr_icmp_ne (pc := 59) 67 (zq_d eX8_sharesSpeaking 35 rfl) (by decide) (fun _ => ?_) (fun _ => ?_)
          · refine zr_lconst (pc := 67) (v := 0) (zq_d eX8_sharesSpeaking 38 rfl) rfl ?_
            exact zr_lreturn (pc := 68) (zq_d eX8_sharesSpeaking 39 rfl) rfl rfl (Nat.zero_le _) (Nat.zero_le _)
          · refine zr_lload (pc := 62) (zq_d eX8_sharesSpeaking 36 rfl) 8 rfl ?_
            refine zr_goto (pc := 64) 68 (zq_d eX8_sharesSpeaking 37 rfl) (by decide) ?_
            exact zr_lreturn (pc := 68) (zq_d eX8_sharesSpeaking 39 rfl) rfl rfl (Nat.zero_le _) (Nat.zero_le _)
      refine zr_if_le (pc := 2) 13 (zq_d eX8_sharesSpeaking 1 rfl) (by decide) (fun _ => ?_) (fun _ => ?_)
      · refine zr_iconst (pc := 13) (zq_d eX8_sharesSpeaking 6 rfl) zc_i0 ?_
        exact zr_lo [0, 1, 2, 3, 4, 5] rfl (hj14_3 (0 : Int32))
      · refine zr_aload_n (pc := 5) (zq_d eX8_sharesSpeaking 2 rfl) 0 rfl rfl ?_
        refine zr_iload_n (pc := 6) (zq_d eX8_sharesSpeaking 3 rfl) 2 rfl rfl ?_
        refine zr_Vi (pc := 7) [_] (zq_d eX8_sharesSpeaking 4 rfl) (s_X8_waysOn G N z j X _) zd_X8_waysOn zl_RX8_63 (ox_51 j) rfl rfl rfl rfl (Nat.le_of_ble_eq_true rfl) (Nat.le_of_ble_eq_true rfl) (show 4 + 1 ≤ 4 + (n + 1) by omega) ⟨Nat.le_refl _, Nat.le_refl _⟩ (fun v16 => ?_)
        refine zr_goto (pc := 10) 14 (zq_d eX8_sharesSpeaking 5 rfl) (by decide) ?_
        exact zr_lo [0, 1, 2, 3, 4, 5] rfl (hj14_3 v16)
theorem s_X8_sharesSpeaking (G : zq_G) (N z j : Nat) (X : zq_M) (a1 : Int32) (a2 : Int32) (a3 : Int32) (a4 : Int32) (a5 : Int64) : zq_V G YX8_sharesSpeaking (68, 0, 0) (zq_sl (zq_shX j) z) 0 0 0 (lv_args 0 [.ref (zq_ad G 51), .int a1, .int a2, .int a3, .int a4, .long a5]) [] (zq_shX j) z X (f_X8_sharesSpeaking N j X a1 a2 a3 a4 a5) := r_X8_sharesSpeaking G N z j 64 a1 a2 a3 a4 a5 X
def j_X8_greatestDivisor_45 (w1 : Int64)  : Option Int64 :=
  if ¬ (lg_cmp w1 (0 : Int64)) = 0 then (some w1) else (some (1 : Int64))
def b_X8_greatestDivisor_9  (rc9_1 : Int64 → Int64 → Int32 → Option Int64) (w1 : Int64) (w2 : Int64) (v3 : Int32) : Option Int64 :=
  if (200 : Int32) ≤ v3 then (j_X8_greatestDivisor_45 w1) else (if (lg_cmp w2 (0 : Int64)) = 0 then (j_X8_greatestDivisor_45 w1) else (zq_dw w2 (rc9_1 w2 (zq_lrem w1 w2) (v3 + (1 : Int32)))))
def f_X8_greatestDivisor (N j : Nat) (X : zq_M) (a1 : Int64) (a2 : Int64) : Option Int64 :=
  zq_loop (fun _ _ _ => none) (b_X8_greatestDivisor_9) N a1 a2 (0 : Int32)
set_option maxRecDepth 20000 in
set_option maxHeartbeats 8000000 in
theorem s_X8_greatestDivisor (G : zq_G) (N z j : Nat) (X : zq_M) (a1 : Int64) (a2 : Int64) : zq_V G YX8_greatestDivisor (1, 0, 0) (zq_el (zq_shX j) z X) 0 0 0 (lv_args 0 [.long a1, .long a2]) [] (zq_shX j) z X (f_X8_greatestDivisor N j X a1 a2) := by
  unfold f_X8_greatestDivisor
  refine zr_lo (l2 := [(0, .long a1), (2, .long a2)]) [0, 1] rfl ?_
  refine zr_lload_n (pc := 0) (zq_d eX8_greatestDivisor 0 rfl) 0 rfl rfl ?_
  refine zr_lstore (pc := 1) (lo2 := [(4, .long a1), (0, .long a1), (2, .long a2)]) (zq_d eX8_greatestDivisor 1 rfl) (Nat.le_of_ble_eq_true rfl) rfl ?_
  refine zr_lload_n (pc := 3) (zq_d eX8_greatestDivisor 2 rfl) 2 rfl rfl ?_
  refine zr_lstore (pc := 4) (lo2 := [(6, .long a2), (4, .long a1), (0, .long a1), (2, .long a2)]) (zq_d eX8_greatestDivisor 3 rfl) (Nat.le_of_ble_eq_true rfl) rfl ?_
  refine zr_iconst (pc := 6) (zq_d eX8_greatestDivisor 4 rfl) zc_i0 ?_
  refine zr_istore (pc := 7) (lo2 := [(8, .int (0 : Int32)), (6, .long a2), (4, .long a1), (0, .long a1), (2, .long a2)]) (zq_d eX8_greatestDivisor 5 rfl) (Nat.le_of_ble_eq_true rfl) rfl ?_
  have hbrc9_1 : ∀ rc9_1 : Int64 → Int64 → Int32 → Option Int64, (∀ (w1 : Int64) (w2 : Int64) (v3 : Int32), zq_V G YX8_greatestDivisor (1, 0, 0) (zq_el (zq_shX j) z X) 0 0 9 [(4, .long w1), (6, .long w2), (8, .int v3)] [] (zq_shX j) z X (rc9_1 w1 w2 v3)) → ∀ (w1 : Int64) (w2 : Int64) (v3 : Int32), zq_V G YX8_greatestDivisor (1, 0, 0) (zq_el (zq_shX j) z X) 0 0 9 [(4, .long w1), (6, .long w2), (8, .int v3)] [] (zq_shX j) z X (b_X8_greatestDivisor_9 rc9_1 w1 w2 v3) := by
    intro rc9_1 hrc9_1 w1 w2 v3
    unfold b_X8_greatestDivisor_9
    refine zr_iload (pc := 9) (zq_d eX8_greatestDivisor 6 rfl) 2 rfl ?_
    refine zr_sipush (pc := 11) (zq_d eX8_greatestDivisor 7 rfl) zc_s200 ?_
    have hj45_2 : zq_V G YX8_greatestDivisor (1, 0, 0) (zq_el (zq_shX j) z X) 0 0 45 [(4, .long w1)] [] (zq_shX j) z X (j_X8_greatestDivisor_45 w1) := by
      unfold j_X8_greatestDivisor_45
      refine zr_lload (pc := 45) (zq_d eX8_greatestDivisor 23 rfl) 0 rfl ?_
      refine zr_lconst (pc := 47) (v := 0) (zq_d eX8_greatestDivisor 24 rfl) rfl ?_
      refine zr_lcmp (pc := 48) (zq_d eX8_greatestDivisor 25 rfl) ?_
      refine zr_if_ne (pc := 49) 56 (zq_d eX8_greatestDivisor 26 rfl) (by decide) (fun _ => ?_) (fun _ => ?_)
      · refine zr_lload (pc := 56) (zq_d eX8_greatestDivisor 29 rfl) 0 rfl ?_
        exact zr_lreturn (pc := 58) (zq_d eX8_greatestDivisor 30 rfl) rfl rfl (Nat.zero_le _) (Nat.zero_le _)
      · refine zr_lconst (pc := 52) (v := 1) (zq_d eX8_greatestDivisor 27 rfl) rfl ?_
        refine zr_goto (pc := 53) 58 (zq_d eX8_greatestDivisor 28 rfl) (by decide) ?_
        exact zr_lreturn (pc := 58) (zq_d eX8_greatestDivisor 30 rfl) rfl rfl (Nat.zero_le _) (Nat.zero_le _)
    refine zr_icmp_ge (pc := 14) 45 (zq_d eX8_greatestDivisor 8 rfl) (by decide) (fun _ => ?_) (fun _ => ?_)
    · exact zr_lo [0] rfl (hj45_2)
    · refine zr_lload (pc := 17) (zq_d eX8_greatestDivisor 9 rfl) 1 rfl ?_
      refine zr_lconst (pc := 19) (v := 0) (zq_d eX8_greatestDivisor 10 rfl) rfl ?_
      refine zr_lcmp (pc := 20) (zq_d eX8_greatestDivisor 11 rfl) ?_
      refine zr_if_eq (pc := 21) 45 (zq_d eX8_greatestDivisor 12 rfl) (by decide) (fun _ => ?_) (fun _ => ?_)
      · exact zr_lo [0] rfl (hj45_2)
      · refine zr_lload (pc := 24) (zq_d eX8_greatestDivisor 13 rfl) 0 rfl ?_
        refine zr_lload (pc := 26) (zq_d eX8_greatestDivisor 14 rfl) 1 rfl ?_
        refine zr_lrem (pc := 28) (zq_d eX8_greatestDivisor 15 rfl) ?_
        refine zr_lstore (pc := 29) (lo2 := [(9, .long (zq_lrem w1 w2)), (4, .long w1), (6, .long w2), (8, .int v3)]) (zq_d eX8_greatestDivisor 16 rfl) (Nat.le_of_ble_eq_true rfl) rfl ?_
        refine zr_lload (pc := 31) (zq_d eX8_greatestDivisor 17 rfl) 2 rfl ?_
        refine zr_lstore (pc := 33) (lo2 := [(4, .long w2), (9, .long (zq_lrem w1 w2)), (6, .long w2), (8, .int v3)]) (zq_d eX8_greatestDivisor 18 rfl) (Nat.le_of_ble_eq_true rfl) rfl ?_
        refine zr_lload (pc := 35) (zq_d eX8_greatestDivisor 19 rfl) 1 rfl ?_
        refine zr_lstore (pc := 37) (lo2 := [(6, .long (zq_lrem w1 w2)), (4, .long w2), (9, .long (zq_lrem w1 w2)), (8, .int v3)]) (zq_d eX8_greatestDivisor 20 rfl) (Nat.le_of_ble_eq_true rfl) rfl ?_
        refine zr_iinc (pc := 39) (j := 3) (v := (v3 + (1 : Int32))) (lo2 := [(8, .int (v3 + (1 : Int32))), (6, .long (zq_lrem w1 w2)), (4, .long w2), (9, .long (zq_lrem w1 w2))]) (zq_d eX8_greatestDivisor 21 rfl) rfl (by rw [zc_i1]) (Nat.le_of_ble_eq_true rfl) rfl ?_
        refine zr_goto (pc := 42) 9 (zq_d eX8_greatestDivisor 22 rfl) (by decide) ?_
        exact zr_lo [2, 1, 0] rfl (hrc9_1 w2 (zq_lrem w1 w2) (v3 + (1 : Int32)))
  have hlrc9_1 := zr_loop (P := fun (rc9_1 : Int64 → Int64 → Int32 → Option Int64) => ∀ (w1 : Int64) (w2 : Int64) (v3 : Int32), zq_V G YX8_greatestDivisor (1, 0, 0) (zq_el (zq_shX j) z X) 0 0 9 [(4, .long w1), (6, .long w2), (8, .int v3)] [] (zq_shX j) z X (rc9_1 w1 w2 v3)) (fun _ _ _ => none) (b_X8_greatestDivisor_9) (fun _ _ _ => zr_none) hbrc9_1 N
  exact zr_lo [2, 1, 0] rfl (hlrc9_1 a1 a2 (0 : Int32))
def f_X8_oddsOfSpeaking (N j : Nat) (X : zq_M) (a1 : Int32) (a2 : Int32) (a3 : Int32) : Option (Int64 × zq_M) :=
  (f_X6_packedNow N j X).bind (fun v1 => (f_X8_sharesSpeaking N j X a1 v1 (X.1 1 7) a2 (129859329600 : Int64)).bind (zq_p (fun w2 X3 => (f_X8_greatestDivisor N j X3 (129859329600 : Int64) w2).bind (fun w4 => if a3 = 0 then (zq_dw w4 (some (((129859329600 : Int64) / w4), X3))) else (zq_dw w4 (some ((w2 / w4), X3)))))))
set_option maxRecDepth 20000 in
set_option maxHeartbeats 8000000 in
theorem s_X8_oddsOfSpeaking (G : zq_G) (N z j : Nat) (X : zq_M) (a1 : Int32) (a2 : Int32) (a3 : Int32) : zq_V G YX8_oddsOfSpeaking (69, 0, 0) (zq_sl (zq_shX j) z) 0 0 0 (lv_args 0 [.ref (zq_ad G 51), .int a1, .int a2, .int a3]) [] (zq_shX j) z X (f_X8_oddsOfSpeaking N j X a1 a2 a3) := by
  unfold f_X8_oddsOfSpeaking
  refine zr_lo (l2 := [(0, .ref (zq_ad G 51)), (1, .int a1), (2, .int a2), (3, .int a3)]) [0, 1, 2, 3] rfl ?_
  refine zr_ldc2 (pc := 0) (zq_d eX8_oddsOfSpeaking 0 rfl) zk_RX8_53 ?_
  refine zr_lstore (pc := 3) (lo2 := [(4, .long (129859329600 : Int64)), (0, .ref (zq_ad G 51)), (1, .int a1), (2, .int a2), (3, .int a3)]) (zq_d eX8_oddsOfSpeaking 1 rfl) (Nat.le_of_ble_eq_true rfl) rfl ?_
  refine zr_aload_n (pc := 5) (zq_d eX8_oddsOfSpeaking 2 rfl) 1 rfl rfl ?_
  refine zr_iload_n (pc := 6) (zq_d eX8_oddsOfSpeaking 3 rfl) 2 rfl rfl ?_
  refine zr_aload_n (pc := 7) (zq_d eX8_oddsOfSpeaking 4 rfl) 1 rfl rfl ?_
  refine zr_getC (pc := 8) (zq_d eX8_oddsOfSpeaking 5 rfl) zf_RX8_9 (kx_51_0 j) ?_
  refine zr_Vi (pc := 11) [] (zq_d eX8_oddsOfSpeaking 6 rfl) (s_X6_packedNow G N z j X ) zd_X6_packedNow zl_RX8_15 (ox_35 j) rfl rfl rfl rfl (Nat.le_of_ble_eq_true rfl) (Nat.le_of_ble_eq_true rfl) (Nat.le_of_ble_eq_true rfl) ⟨Nat.le_refl _, Nat.le_refl _⟩ (fun v1 => ?_)
  refine zr_aload_n (pc := 14) (zq_d eX8_oddsOfSpeaking 7 rfl) 1 rfl rfl ?_
  refine zr_getC (pc := 15) (zq_d eX8_oddsOfSpeaking 8 rfl) zf_RX8_9 (kx_51_0 j) ?_
  refine zr_getC (pc := 18) (zq_d eX8_oddsOfSpeaking 9 rfl) zf_RX8_21 (kx_35_0 j) ?_
  refine zr_getI (pc := 21) (zq_d eX8_oddsOfSpeaking 10 rfl) zf_RX8_25 (kx_1_7 j) ?_
  refine zr_iload_n (pc := 24) (zq_d eX8_oddsOfSpeaking 11 rfl) 3 rfl rfl ?_
  refine zr_lload (pc := 25) (zq_d eX8_oddsOfSpeaking 12 rfl) 0 rfl ?_
  refine zr_Wsl (pc := 27) [_, _, _, _, _] (zq_d eX8_oddsOfSpeaking 13 rfl) (s_X8_sharesSpeaking G N z j X _ _ _ _ _) zd_X8_sharesSpeaking zl_RX8_55 (ox_51 j) rfl rfl rfl rfl (Nat.le_of_ble_eq_true rfl) (Nat.le_of_ble_eq_true rfl) (Nat.le_of_ble_eq_true rfl) ⟨Nat.le_refl _, Nat.le_refl _⟩ (fun w2 X3 => ?_)
  refine zr_lstore (pc := 30) (lo2 := [(6, .long w2), (4, .long (129859329600 : Int64)), (0, .ref (zq_ad G 51)), (1, .int a1), (2, .int a2), (3, .int a3)]) (zq_d eX8_oddsOfSpeaking 14 rfl) (Nat.le_of_ble_eq_true rfl) rfl ?_
  refine zr_lload (pc := 32) (zq_d eX8_oddsOfSpeaking 15 rfl) 1 rfl ?_
  refine zr_lload (pc := 34) (zq_d eX8_oddsOfSpeaking 16 rfl) 0 rfl ?_
  refine zr_Sl (pc := 36) [_, _] (zq_d eX8_oddsOfSpeaking 17 rfl) (s_X8_greatestDivisor G N z j X3 _ _) zd_X8_greatestDivisor zl_RX8_59 rfl rfl (Nat.le_of_ble_eq_true rfl) (Nat.le_of_ble_eq_true rfl) (Nat.le_of_ble_eq_true rfl) ⟨Nat.le_refl _, Nat.le_refl _⟩ (fun w4 => ?_)
  refine zr_lstore (pc := 39) (lo2 := [(8, .long w4), (6, .long w2), (4, .long (129859329600 : Int64)), (0, .ref (zq_ad G 51)), (1, .int a1), (2, .int a2), (3, .int a3)]) (zq_d eX8_oddsOfSpeaking 18 rfl) (Nat.le_of_ble_eq_true rfl) rfl ?_
  refine zr_iload_n (pc := 41) (zq_d eX8_oddsOfSpeaking 19 rfl) 6 rfl rfl ?_
  refine zr_if_eq (pc := 42) 50 (zq_d eX8_oddsOfSpeaking 20 rfl) (by decide) (fun _ => ?_) (fun _ => ?_)
  · refine zr_lload (pc := 50) (zq_d eX8_oddsOfSpeaking 23 rfl) 2 rfl ?_
    refine zr_lload (pc := 52) (zq_d eX8_oddsOfSpeaking 24 rfl) 0 rfl ?_
    refine zr_ldiv (pc := 54) (zq_d eX8_oddsOfSpeaking 25 rfl) ?_
    exact zr_lreturn (pc := 55) (zq_d eX8_oddsOfSpeaking 26 rfl) rfl rfl (Nat.zero_le _) (Nat.zero_le _)
  · refine zr_lload (pc := 45) (zq_d eX8_oddsOfSpeaking 21 rfl) 1 rfl ?_
    refine zr_goto (pc := 47) 52 (zq_d eX8_oddsOfSpeaking 22 rfl) (by decide) ?_
    refine zr_lload (pc := 52) (zq_d eX8_oddsOfSpeaking 24 rfl) 0 rfl ?_
    refine zr_ldiv (pc := 54) (zq_d eX8_oddsOfSpeaking 25 rfl) ?_
    exact zr_lreturn (pc := 55) (zq_d eX8_oddsOfSpeaking 26 rfl) rfl rfl (Nat.zero_le _) (Nat.zero_le _)
def f_X9_begin (N j : Nat) (X : zq_M) (a1 : Int32) : Option zq_M :=
  zq_gz a1 (zq_b (zq_u1 X 41 7 a1) (fun X1 => zq_b (zq_u1 X1 41 4 (zq_shl (1 : Int32) ((2 : Int32) * (X1.1 1 0)))) (fun X2 => zq_b (zq_u1 X2 41 5 (0 : Int32)) (fun X3 => zq_gz (0 : Int32) (zq_b (zq_u1 X3 41 6 (0 : Int32)) (fun X4 => (f_J7_fill_53178 N (zq_shX j) X4 42 1024 (1073741824 : Int32)).bind (fun X5 => (f_X6_packedNow N j X5).bind (fun v6 => zq_ck v6 1024 (zq_b (zq_u1 X5 42 (zq_ix v6) (0 : Int32)) (fun X7 => some X7))))))))))
set_option maxRecDepth 20000 in
set_option maxHeartbeats 8000000 in
theorem s_X9_begin (G : zq_G) (N z j : Nat) (X : zq_M) (a1 : Int32) : zq_V G YX9_begin (2, 0, 0) (zq_sv (zq_shX j) z) 0 0 0 (lv_args 0 [.ref (zq_ad G 41), .int a1]) [] (zq_shX j) z X (f_X9_begin N j X a1) := by
  unfold f_X9_begin
  refine zr_lo (l2 := [(0, .ref (zq_ad G 41)), (1, .int a1)]) [0, 1] rfl ?_
  refine zr_aload_n (pc := 0) (zq_d eX9_begin 0 rfl) 0 rfl rfl ?_
  refine zr_iload_n (pc := 1) (zq_d eX9_begin 1 rfl) 1 rfl rfl ?_
  refine zr_putZ (pc := 2) (zq_d eX9_begin 2 rfl) zf_RX9_58 (kx_41_7 j) zn_9_7 (fun X1 => ?_)
  refine zr_aload_n (pc := 5) (zq_d eX9_begin 3 rfl) 0 rfl rfl ?_
  refine zr_iconst (pc := 6) (zq_d eX9_begin 4 rfl) zc_i1 ?_
  refine zr_iconst (pc := 7) (zq_d eX9_begin 5 rfl) zc_i2 ?_
  refine zr_aload_n (pc := 8) (zq_d eX9_begin 6 rfl) 0 rfl rfl ?_
  refine zr_getC (pc := 9) (zq_d eX9_begin 7 rfl) zf_RX9_23 (kx_41_0 j) ?_
  refine zr_getC (pc := 12) (zq_d eX9_begin 8 rfl) zf_RX9_44 (kx_35_0 j) ?_
  refine zr_getI (pc := 15) (zq_d eX9_begin 9 rfl) zf_RX9_62 (kx_1_0 j) ?_
  refine zr_imul (pc := 18) (zq_d eX9_begin 10 rfl) ?_
  refine zr_ishl (pc := 19) (zq_d eX9_begin 11 rfl) ?_
  refine zr_putI (pc := 20) (zq_d eX9_begin 12 rfl) zf_RX9_66 (kx_41_4 j) zn_9_4 (fun X2 => ?_)
  refine zr_aload_n (pc := 23) (zq_d eX9_begin 13 rfl) 0 rfl rfl ?_
  refine zr_iconst (pc := 24) (zq_d eX9_begin 14 rfl) zc_i0 ?_
  refine zr_putI (pc := 25) (zq_d eX9_begin 15 rfl) zf_RX9_69 (kx_41_5 j) zn_9_5 (fun X3 => ?_)
  refine zr_aload_n (pc := 28) (zq_d eX9_begin 16 rfl) 0 rfl rfl ?_
  refine zr_iconst (pc := 29) (zq_d eX9_begin 17 rfl) zc_i0 ?_
  refine zr_putZ (pc := 30) (zq_d eX9_begin 18 rfl) zf_RX9_72 (kx_41_6 j) zn_9_6 (fun X4 => ?_)
  refine zr_aload_n (pc := 33) (zq_d eX9_begin 19 rfl) 0 rfl rfl ?_
  refine zr_getC (pc := 34) (zq_d eX9_begin 20 rfl) zf_RX9_11 (kx_41_1 j) ?_
  refine zr_ldc (pc := 37) (zq_d eX9_begin 21 rfl) zk_RX9_35 ?_
  refine zr_Sv (pc := 39) [_, _] (zq_d eX9_begin 22 rfl) (s_J7_fill_53178 G N z (zq_shX j) X4 42 1024 (ax_42 j) _) zd_J7_fill_53178 zl_RX9_75 rfl rfl (Nat.le_of_ble_eq_true rfl) (Nat.le_of_ble_eq_true rfl) (Nat.le_of_ble_eq_true rfl) ⟨Nat.le_refl _, Nat.le_refl _⟩ (fun X5 => ?_)
  refine zr_aload_n (pc := 42) (zq_d eX9_begin 23 rfl) 0 rfl rfl ?_
  refine zr_getC (pc := 43) (zq_d eX9_begin 24 rfl) zf_RX9_11 (kx_41_1 j) ?_
  refine zr_aload_n (pc := 46) (zq_d eX9_begin 25 rfl) 0 rfl rfl ?_
  refine zr_getC (pc := 47) (zq_d eX9_begin 26 rfl) zf_RX9_23 (kx_41_0 j) ?_
  refine zr_Vi (pc := 50) [] (zq_d eX9_begin 27 rfl) (s_X6_packedNow G N z j X5 ) zd_X6_packedNow zl_RX9_81 (ox_35 j) rfl rfl rfl rfl (Nat.le_of_ble_eq_true rfl) (Nat.le_of_ble_eq_true rfl) (Nat.le_of_ble_eq_true rfl) ⟨Nat.le_refl _, Nat.le_refl _⟩ (fun v6 => ?_)
  refine zr_iconst (pc := 53) (zq_d eX9_begin 28 rfl) zc_i0 ?_
  refine zr_iast (pc := 54) (zq_d eX9_begin 29 rfl) (ax_42 j) (fun X7 => ?_)
  exact zr_vreturn (pc := 55) (zq_d eX9_begin 30 rfl) rfl rfl (Nat.zero_le _) (Nat.zero_le _)
def b_X9_tellSpeakers_2 (N : Nat) (j : Nat) (a1 : Int32) (rc2_1 : Int32 → zq_M → Option zq_M) (v1 : Int32) (X2 : zq_M) : Option zq_M :=
  (f_X5_everybody N j X2 1).bind (fun v3 => if v3 < v1 then (some X2) else ((f_X6_speakers N j X2 a1 v1 ((X2.1 1 7) + (X2.1 41 5))).bind (zq_p (fun v4 X5 => zq_ck v1 32 (zq_b (zq_u1 X5 44 (zq_ix v1) v4) (fun X6 => rc2_1 (v1 + (1 : Int32)) X6))))))
def f_X9_tellSpeakers (N j : Nat) (X : zq_M) (a1 : Int32) : Option zq_M :=
  zq_loop (fun _ _ => none) (b_X9_tellSpeakers_2 N j a1) N (0 : Int32) X
set_option maxRecDepth 20000 in
set_option maxHeartbeats 8000000 in
theorem s_X9_tellSpeakers (G : zq_G) (N z j : Nat) (X : zq_M) (a1 : Int32) : zq_V G YX9_tellSpeakers (4, 0, 0) (zq_sv (zq_shX j) z) 0 0 0 (lv_args 0 [.ref (zq_ad G 41), .int a1]) [] (zq_shX j) z X (f_X9_tellSpeakers N j X a1) := by
  unfold f_X9_tellSpeakers
  refine zr_lo (l2 := [(0, .ref (zq_ad G 41)), (1, .int a1)]) [0, 1] rfl ?_
  refine zr_iconst (pc := 0) (zq_d eX9_tellSpeakers 0 rfl) zc_i0 ?_
  refine zr_istore_n (pc := 1) (lo2 := [(2, .int (0 : Int32)), (0, .ref (zq_ad G 41)), (1, .int a1)]) (zq_d eX9_tellSpeakers 1 rfl) rfl (Nat.le_of_ble_eq_true rfl) rfl ?_
  have hbrc2_1 : ∀ rc2_1 : Int32 → zq_M → Option zq_M, (∀ (v1 : Int32) (X2 : zq_M), zq_V G YX9_tellSpeakers (4, 0, 0) (zq_sv (zq_shX j) z) 0 0 2 [(0, .ref (zq_ad G 41)), (1, .int a1), (2, .int v1)] [] (zq_shX j) z X2 (rc2_1 v1 X2)) → ∀ (v1 : Int32) (X2 : zq_M), zq_V G YX9_tellSpeakers (4, 0, 0) (zq_sv (zq_shX j) z) 0 0 2 [(0, .ref (zq_ad G 41)), (1, .int a1), (2, .int v1)] [] (zq_shX j) z X2 (b_X9_tellSpeakers_2 N j a1 rc2_1 v1 X2) := by
    intro rc2_1 hrc2_1 v1 X2
    unfold b_X9_tellSpeakers_2
    refine zr_iload_n (pc := 2) (zq_d eX9_tellSpeakers 2 rfl) 2 rfl rfl ?_
    refine zr_aload_n (pc := 3) (zq_d eX9_tellSpeakers 3 rfl) 0 rfl rfl ?_
    refine zr_getC (pc := 4) (zq_d eX9_tellSpeakers 4 rfl) zf_RX9_23 (kx_41_0 j) ?_
    refine zr_getC (pc := 7) (zq_d eX9_tellSpeakers 5 rfl) zf_RX9_44 (kx_35_0 j) ?_
    refine zr_Vi (pc := 10) [] (zq_d eX9_tellSpeakers 6 rfl) (s_X5_everybody G N z j X2 1 (zsc_1 j)) zd_X5_everybody zl_RX9_48 (ox_1 j) rfl rfl rfl rfl (Nat.le_of_ble_eq_true rfl) (Nat.le_of_ble_eq_true rfl) (Nat.le_of_ble_eq_true rfl) ⟨Nat.le_refl _, Nat.le_refl _⟩ (fun v3 => ?_)
    refine zr_icmp_gt (pc := 13) 52 (zq_d eX9_tellSpeakers 7 rfl) (by decide) (fun _ => ?_) (fun _ => ?_)
    · exact zr_vreturn (pc := 52) (zq_d eX9_tellSpeakers 26 rfl) rfl rfl (Nat.zero_le _) (Nat.zero_le _)
    · refine zr_aload_n (pc := 16) (zq_d eX9_tellSpeakers 8 rfl) 0 rfl rfl ?_
      refine zr_getC (pc := 17) (zq_d eX9_tellSpeakers 9 rfl) zf_RX9_20 (kx_41_3 j) ?_
      refine zr_iload_n (pc := 20) (zq_d eX9_tellSpeakers 10 rfl) 2 rfl rfl ?_
      refine zr_aload_n (pc := 21) (zq_d eX9_tellSpeakers 11 rfl) 0 rfl rfl ?_
      refine zr_getC (pc := 22) (zq_d eX9_tellSpeakers 12 rfl) zf_RX9_23 (kx_41_0 j) ?_
      refine zr_iload_n (pc := 25) (zq_d eX9_tellSpeakers 13 rfl) 1 rfl rfl ?_
      refine zr_iload_n (pc := 26) (zq_d eX9_tellSpeakers 14 rfl) 2 rfl rfl ?_
      refine zr_aload_n (pc := 27) (zq_d eX9_tellSpeakers 15 rfl) 0 rfl rfl ?_
      refine zr_getC (pc := 28) (zq_d eX9_tellSpeakers 16 rfl) zf_RX9_23 (kx_41_0 j) ?_
      refine zr_getC (pc := 31) (zq_d eX9_tellSpeakers 17 rfl) zf_RX9_44 (kx_35_0 j) ?_
      refine zr_getI (pc := 34) (zq_d eX9_tellSpeakers 18 rfl) zf_RX9_106 (kx_1_7 j) ?_
      refine zr_aload_n (pc := 37) (zq_d eX9_tellSpeakers 19 rfl) 0 rfl rfl ?_
      refine zr_getI (pc := 38) (zq_d eX9_tellSpeakers 20 rfl) zf_RX9_69 (kx_41_5 j) ?_
      refine zr_iadd (pc := 41) (zq_d eX9_tellSpeakers 21 rfl) ?_
      refine zr_Wsi (pc := 42) [_, _, _] (zq_d eX9_tellSpeakers 22 rfl) (s_X6_speakers G N z j X2 _ _ _) zd_X6_speakers zl_RX9_109 (ox_35 j) rfl rfl rfl rfl (Nat.le_of_ble_eq_true rfl) (Nat.le_of_ble_eq_true rfl) (Nat.le_of_ble_eq_true rfl) ⟨Nat.le_refl _, Nat.le_refl _⟩ (fun v4 X5 => ?_)
      refine zr_iast (pc := 45) (zq_d eX9_tellSpeakers 23 rfl) (ax_44 j) (fun X6 => ?_)
      refine zr_iinc (pc := 46) (j := 2) (v := (v1 + (1 : Int32))) (lo2 := [(2, .int (v1 + (1 : Int32))), (0, .ref (zq_ad G 41)), (1, .int a1)]) (zq_d eX9_tellSpeakers 24 rfl) rfl (by rw [zc_i1]) (Nat.le_of_ble_eq_true rfl) rfl ?_
      refine zr_goto (pc := 49) 2 (zq_d eX9_tellSpeakers 25 rfl) (by decide) ?_
      exact zr_lo [1, 2, 0] rfl (hrc2_1 (v1 + (1 : Int32)) X6)
  have hlrc2_1 := zr_loop (P := fun (rc2_1 : Int32 → zq_M → Option zq_M) => ∀ (v1 : Int32) (X2 : zq_M), zq_V G YX9_tellSpeakers (4, 0, 0) (zq_sv (zq_shX j) z) 0 0 2 [(0, .ref (zq_ad G 41)), (1, .int a1), (2, .int v1)] [] (zq_shX j) z X2 (rc2_1 v1 X2)) (fun _ _ => none) (b_X9_tellSpeakers_2 N j a1) (fun _ _ => zr_none) hbrc2_1 N
  exact zr_lo [1, 2, 0] rfl (hlrc2_1 (0 : Int32) X)
def b_X9_leastWith_11 (N : Nat) (j : Nat) (a1 : Int32) (a2 : Int32) (X1 : zq_M) (rc11_1 : Int32 → Int32 → Option (Int32 × zq_M)) (v2 : Int32) (v3 : Int32) : Option (Int32 × zq_M) :=
  if (X1.1 41 4) ≤ v3 then (some (v2, X1)) else (zq_ck v3 1024 (if v2 ≤ (X1.1 42 (zq_ix v3)) then (rc11_1 v2 (v3 + (1 : Int32))) else ((f_X6_whoIsAt N j X1 v3 a2).bind (fun v4 => zq_ck v4 32 (if ¬ ((zq_shr (X1.1 44 (zq_ix v4)) a1) &&& (1 : Int32)) = (1 : Int32) then (rc11_1 v2 (v3 + (1 : Int32))) else (zq_ck v3 1024 (rc11_1 (X1.1 42 (zq_ix v3)) (v3 + (1 : Int32)))))))))
def f_X9_leastWith (N j : Nat) (X : zq_M) (a1 : Int32) (a2 : Int32) : Option (Int32 × zq_M) :=
  (f_X9_tellSpeakers N j X a2).bind (fun X1 => zq_loop (fun _ _ => none) (b_X9_leastWith_11 N j a1 a2 X1) N (1073741824 : Int32) (0 : Int32))
set_option maxRecDepth 20000 in
set_option maxHeartbeats 8000000 in
theorem s_X9_leastWith (G : zq_G) (N z j : Nat) (X : zq_M) (a1 : Int32) (a2 : Int32) : zq_V G YX9_leastWith (5, 0, 0) (zq_si (zq_shX j) z) 0 0 0 (lv_args 0 [.ref (zq_ad G 41), .int a1, .int a2]) [] (zq_shX j) z X (f_X9_leastWith N j X a1 a2) := by
  unfold f_X9_leastWith
  refine zr_lo (l2 := [(0, .ref (zq_ad G 41)), (1, .int a1), (2, .int a2)]) [0, 1, 2] rfl ?_
  refine zr_aload_n (pc := 0) (zq_d eX9_leastWith 0 rfl) 0 rfl rfl ?_
  refine zr_iload_n (pc := 1) (zq_d eX9_leastWith 1 rfl) 2 rfl rfl ?_
  refine zr_Vv (pc := 2) [_] (zq_d eX9_leastWith 2 rfl) (s_X9_tellSpeakers G N z j X _) zd_X9_tellSpeakers zl_RX9_112 (ox_41 j) rfl rfl rfl rfl (Nat.le_of_ble_eq_true rfl) (Nat.le_of_ble_eq_true rfl) (Nat.le_of_ble_eq_true rfl) ⟨Nat.le_refl _, Nat.le_refl _⟩ (fun X1 => ?_)
  refine zr_ldc (pc := 5) (zq_d eX9_leastWith 3 rfl) zk_RX9_35 ?_
  refine zr_istore_n (pc := 7) (lo2 := [(3, .int (1073741824 : Int32)), (0, .ref (zq_ad G 41)), (1, .int a1), (2, .int a2)]) (zq_d eX9_leastWith 4 rfl) rfl (Nat.le_of_ble_eq_true rfl) rfl ?_
  refine zr_iconst (pc := 8) (zq_d eX9_leastWith 5 rfl) zc_i0 ?_
  refine zr_istore (pc := 9) (lo2 := [(4, .int (0 : Int32)), (3, .int (1073741824 : Int32)), (0, .ref (zq_ad G 41)), (1, .int a1), (2, .int a2)]) (zq_d eX9_leastWith 6 rfl) (Nat.le_of_ble_eq_true rfl) rfl ?_
  have hbrc11_1 : ∀ rc11_1 : Int32 → Int32 → Option (Int32 × zq_M), (∀ (v2 : Int32) (v3 : Int32), zq_V G YX9_leastWith (5, 0, 0) (zq_si (zq_shX j) z) 0 0 11 [(0, .ref (zq_ad G 41)), (1, .int a1), (2, .int a2), (3, .int v2), (4, .int v3)] [] (zq_shX j) z X1 (rc11_1 v2 v3)) → ∀ (v2 : Int32) (v3 : Int32), zq_V G YX9_leastWith (5, 0, 0) (zq_si (zq_shX j) z) 0 0 11 [(0, .ref (zq_ad G 41)), (1, .int a1), (2, .int a2), (3, .int v2), (4, .int v3)] [] (zq_shX j) z X1 (b_X9_leastWith_11 N j a1 a2 X1 rc11_1 v2 v3) := by
    intro rc11_1 hrc11_1 v2 v3
    unfold b_X9_leastWith_11
    refine zr_iload (pc := 11) (zq_d eX9_leastWith 7 rfl) 4 rfl ?_
    refine zr_aload_n (pc := 13) (zq_d eX9_leastWith 8 rfl) 0 rfl rfl ?_
    refine zr_getI (pc := 14) (zq_d eX9_leastWith 9 rfl) zf_RX9_66 (kx_41_4 j) ?_
    refine zr_icmp_ge (pc := 17) 68 (zq_d eX9_leastWith 10 rfl) (by decide) (fun _ => ?_) (fun _ => ?_)
    · refine zr_iload_n (pc := 68) (zq_d eX9_leastWith 38 rfl) 3 rfl rfl ?_
      exact zr_ireturn (pc := 69) (zq_d eX9_leastWith 39 rfl) rfl rfl (Nat.zero_le _) (Nat.zero_le _)
    · refine zr_aload_n (pc := 20) (zq_d eX9_leastWith 11 rfl) 0 rfl rfl ?_
      refine zr_getC (pc := 21) (zq_d eX9_leastWith 12 rfl) zf_RX9_11 (kx_41_1 j) ?_
      refine zr_iload (pc := 24) (zq_d eX9_leastWith 13 rfl) 4 rfl ?_
      refine zr_iald (pc := 26) (zq_d eX9_leastWith 14 rfl) (ax_42 j) ?_
      refine zr_iload_n (pc := 27) (zq_d eX9_leastWith 15 rfl) 3 rfl rfl ?_
      refine zr_icmp_ge (pc := 28) 62 (zq_d eX9_leastWith 16 rfl) (by decide) (fun _ => ?_) (fun _ => ?_)
      · refine zr_iinc (pc := 62) (j := 4) (v := (v3 + (1 : Int32))) (lo2 := [(4, .int (v3 + (1 : Int32))), (0, .ref (zq_ad G 41)), (1, .int a1), (2, .int a2), (3, .int v2)]) (zq_d eX9_leastWith 36 rfl) rfl (by rw [zc_i1]) (Nat.le_of_ble_eq_true rfl) rfl ?_
        refine zr_goto (pc := 65) 11 (zq_d eX9_leastWith 37 rfl) (by decide) ?_
        exact zr_lo [1, 2, 3, 4, 0] rfl (hrc11_1 v2 (v3 + (1 : Int32)))
      · refine zr_aload_n (pc := 31) (zq_d eX9_leastWith 17 rfl) 0 rfl rfl ?_
        refine zr_getC (pc := 32) (zq_d eX9_leastWith 18 rfl) zf_RX9_20 (kx_41_3 j) ?_
        refine zr_aload_n (pc := 35) (zq_d eX9_leastWith 19 rfl) 0 rfl rfl ?_
        refine zr_getC (pc := 36) (zq_d eX9_leastWith 20 rfl) zf_RX9_23 (kx_41_0 j) ?_
        refine zr_iload (pc := 39) (zq_d eX9_leastWith 21 rfl) 4 rfl ?_
        refine zr_iload_n (pc := 41) (zq_d eX9_leastWith 22 rfl) 2 rfl rfl ?_
        refine zr_Vi (pc := 42) [_, _] (zq_d eX9_leastWith 23 rfl) (s_X6_whoIsAt G N z j X1 _ _) zd_X6_whoIsAt zl_RX9_115 (ox_35 j) rfl rfl rfl rfl (Nat.le_of_ble_eq_true rfl) (Nat.le_of_ble_eq_true rfl) (Nat.le_of_ble_eq_true rfl) ⟨Nat.le_refl _, Nat.le_refl _⟩ (fun v4 => ?_)
        refine zr_iald (pc := 45) (zq_d eX9_leastWith 24 rfl) (ax_44 j) ?_
        refine zr_iload_n (pc := 46) (zq_d eX9_leastWith 25 rfl) 1 rfl rfl ?_
        refine zr_ishr (pc := 47) (zq_d eX9_leastWith 26 rfl) ?_
        refine zr_iconst (pc := 48) (zq_d eX9_leastWith 27 rfl) zc_i1 ?_
        refine zr_iand (pc := 49) (zq_d eX9_leastWith 28 rfl) ?_
        refine zr_iconst (pc := 50) (zq_d eX9_leastWith 29 rfl) zc_i1 ?_
        refine zr_icmp_ne (pc := 51) 62 (zq_d eX9_leastWith 30 rfl) (by decide) (fun _ => ?_) (fun _ => ?_)
        · refine zr_iinc (pc := 62) (j := 4) (v := (v3 + (1 : Int32))) (lo2 := [(4, .int (v3 + (1 : Int32))), (0, .ref (zq_ad G 41)), (1, .int a1), (2, .int a2), (3, .int v2)]) (zq_d eX9_leastWith 36 rfl) rfl (by rw [zc_i1]) (Nat.le_of_ble_eq_true rfl) rfl ?_
          refine zr_goto (pc := 65) 11 (zq_d eX9_leastWith 37 rfl) (by decide) ?_
          exact zr_lo [1, 2, 3, 4, 0] rfl (hrc11_1 v2 (v3 + (1 : Int32)))
        · refine zr_aload_n (pc := 54) (zq_d eX9_leastWith 31 rfl) 0 rfl rfl ?_
          refine zr_getC (pc := 55) (zq_d eX9_leastWith 32 rfl) zf_RX9_11 (kx_41_1 j) ?_
          refine zr_iload (pc := 58) (zq_d eX9_leastWith 33 rfl) 4 rfl ?_
          refine zr_iald (pc := 60) (zq_d eX9_leastWith 34 rfl) (ax_42 j) ?_
          refine zr_istore_n (pc := 61) (lo2 := [(3, .int (X1.1 42 (zq_ix v3))), (0, .ref (zq_ad G 41)), (1, .int a1), (2, .int a2), (4, .int v3)]) (zq_d eX9_leastWith 35 rfl) rfl (Nat.le_of_ble_eq_true rfl) rfl ?_
          refine zr_iinc (pc := 62) (j := 4) (v := (v3 + (1 : Int32))) (lo2 := [(4, .int (v3 + (1 : Int32))), (3, .int (X1.1 42 (zq_ix v3))), (0, .ref (zq_ad G 41)), (1, .int a1), (2, .int a2)]) (zq_d eX9_leastWith 36 rfl) rfl (by rw [zc_i1]) (Nat.le_of_ble_eq_true rfl) rfl ?_
          refine zr_goto (pc := 65) 11 (zq_d eX9_leastWith 37 rfl) (by decide) ?_
          exact zr_lo [2, 3, 4, 1, 0] rfl (hrc11_1 (X1.1 42 (zq_ix v3)) (v3 + (1 : Int32)))
  have hlrc11_1 := zr_loop (P := fun (rc11_1 : Int32 → Int32 → Option (Int32 × zq_M)) => ∀ (v2 : Int32) (v3 : Int32), zq_V G YX9_leastWith (5, 0, 0) (zq_si (zq_shX j) z) 0 0 11 [(0, .ref (zq_ad G 41)), (1, .int a1), (2, .int a2), (3, .int v2), (4, .int v3)] [] (zq_shX j) z X1 (rc11_1 v2 v3)) (fun _ _ => none) (b_X9_leastWith_11 N j a1 a2 X1) (fun _ _ => zr_none) hbrc11_1 N
  exact zr_lo [2, 3, 4, 1, 0] rfl (hlrc11_1 (1073741824 : Int32) (0 : Int32))
def f_X9_carried (N j : Nat) (X : zq_M) (a1 : Int32) (a2 : Int32) (a3 : Int32) : Option Int32 :=
  if (X.1 41 7) = 0 then (if ¬ (X.1 41 5) = 0 then (zq_ck a1 1024 (some (X.1 42 (zq_ix a1)))) else (some (((4 : Int32) * a2) + a3))) else (zq_ck a1 1024 ((f_X6_priceFrom N j X a1 a2 a3).bind (fun v1 => some ((X.1 42 (zq_ix a1)) + v1))))
set_option maxRecDepth 20000 in
set_option maxHeartbeats 8000000 in
theorem s_X9_carried (G : zq_G) (N z j : Nat) (X : zq_M) (a1 : Int32) (a2 : Int32) (a3 : Int32) : zq_V G YX9_carried (4, 0, 0) (zq_ei (zq_shX j) z X) 0 0 0 (lv_args 0 [.ref (zq_ad G 41), .int a1, .int a2, .int a3]) [] (zq_shX j) z X (f_X9_carried N j X a1 a2 a3) := by
  unfold f_X9_carried
  refine zr_lo (l2 := [(0, .ref (zq_ad G 41)), (1, .int a1), (2, .int a2), (3, .int a3)]) [0, 1, 2, 3] rfl ?_
  refine zr_aload_n (pc := 0) (zq_d eX9_carried 0 rfl) 0 rfl rfl ?_
  refine zr_getI (pc := 1) (zq_d eX9_carried 1 rfl) zf_RX9_58 (kx_41_7 j) ?_
  refine zr_if_eq (pc := 4) 25 (zq_d eX9_carried 2 rfl) (by decide) (fun _ => ?_) (fun _ => ?_)
  · refine zr_aload_n (pc := 25) (zq_d eX9_carried 15 rfl) 0 rfl rfl ?_
    refine zr_getI (pc := 26) (zq_d eX9_carried 16 rfl) zf_RX9_69 (kx_41_5 j) ?_
    refine zr_if_ne (pc := 29) 40 (zq_d eX9_carried 17 rfl) (by decide) (fun _ => ?_) (fun _ => ?_)
    · refine zr_aload_n (pc := 40) (zq_d eX9_carried 24 rfl) 0 rfl rfl ?_
      refine zr_getC (pc := 41) (zq_d eX9_carried 25 rfl) zf_RX9_11 (kx_41_1 j) ?_
      refine zr_iload_n (pc := 44) (zq_d eX9_carried 26 rfl) 1 rfl rfl ?_
      refine zr_iald (pc := 45) (zq_d eX9_carried 27 rfl) (ax_42 j) ?_
      exact zr_ireturn (pc := 46) (zq_d eX9_carried 28 rfl) rfl rfl (Nat.zero_le _) (Nat.zero_le _)
    · refine zr_iconst (pc := 32) (zq_d eX9_carried 18 rfl) zc_i4 ?_
      refine zr_iload_n (pc := 33) (zq_d eX9_carried 19 rfl) 2 rfl rfl ?_
      refine zr_imul (pc := 34) (zq_d eX9_carried 20 rfl) ?_
      refine zr_iload_n (pc := 35) (zq_d eX9_carried 21 rfl) 3 rfl rfl ?_
      refine zr_iadd (pc := 36) (zq_d eX9_carried 22 rfl) ?_
      refine zr_goto (pc := 37) 46 (zq_d eX9_carried 23 rfl) (by decide) ?_
      exact zr_ireturn (pc := 46) (zq_d eX9_carried 28 rfl) rfl rfl (Nat.zero_le _) (Nat.zero_le _)
  · refine zr_aload_n (pc := 7) (zq_d eX9_carried 3 rfl) 0 rfl rfl ?_
    refine zr_getC (pc := 8) (zq_d eX9_carried 4 rfl) zf_RX9_11 (kx_41_1 j) ?_
    refine zr_iload_n (pc := 11) (zq_d eX9_carried 5 rfl) 1 rfl rfl ?_
    refine zr_iald (pc := 12) (zq_d eX9_carried 6 rfl) (ax_42 j) ?_
    refine zr_aload_n (pc := 13) (zq_d eX9_carried 7 rfl) 0 rfl rfl ?_
    refine zr_getC (pc := 14) (zq_d eX9_carried 8 rfl) zf_RX9_23 (kx_41_0 j) ?_
    refine zr_iload_n (pc := 17) (zq_d eX9_carried 9 rfl) 1 rfl rfl ?_
    refine zr_iload_n (pc := 18) (zq_d eX9_carried 10 rfl) 2 rfl rfl ?_
    refine zr_iload_n (pc := 19) (zq_d eX9_carried 11 rfl) 3 rfl rfl ?_
    refine zr_Vi (pc := 20) [_, _, _] (zq_d eX9_carried 12 rfl) (s_X6_priceFrom G N z j X _ _ _) zd_X6_priceFrom zl_RX9_103 (ox_35 j) rfl rfl rfl rfl (Nat.le_of_ble_eq_true rfl) (Nat.le_of_ble_eq_true rfl) (Nat.le_of_ble_eq_true rfl) ⟨Nat.le_refl _, Nat.le_refl _⟩ (fun v1 => ?_)
    refine zr_iadd (pc := 23) (zq_d eX9_carried 13 rfl) ?_
    exact zr_ireturn (pc := 24) (zq_d eX9_carried 14 rfl) rfl rfl (Nat.zero_le _) (Nat.zero_le _)
def b_X9_leave_18 (N : Nat) (j : Nat) (a1 : Int32) (v1 : Int32) (rc2_1 : Int32 → zq_M → Option zq_M) (rc18_2 : Int32 → zq_M → Option zq_M) (v3 : Int32) (X4 : zq_M) : Option zq_M :=
  if (4 : Int32) ≤ v3 then (rc2_1 (v1 + (1 : Int32)) X4) else ((f_X6_mayCome N j X4 a1 v1 v3).bind (fun v5 => if v5 = 0 then (rc18_2 (v3 + (1 : Int32)) X4) else ((f_X6_moved N j X4 a1 v1 v3).bind (fun v6 => zq_ck v6 1024 ((f_X9_carried N j X4 a1 v1 v3).bind (fun v7 => zq_ck v6 1024 (zq_b (zq_u1 X4 43 (zq_ix v6) (if v7 < (X4.1 43 (zq_ix v6)) then v7 else (X4.1 43 (zq_ix v6)))) (fun X8 => rc18_2 (v3 + (1 : Int32)) X8))))))))
def b_X9_leave_2 (N : Nat) (j : Nat) (a1 : Int32) (rc2_1 : Int32 → zq_M → Option zq_M) (v1 : Int32) (X2 : zq_M) : Option zq_M :=
  if (X2.1 1 0) ≤ v1 then (some X2) else (zq_loop (fun _ _ => none) (b_X9_leave_18 N j a1 v1 rc2_1) N (0 : Int32) X2)
def f_X9_leave (N j : Nat) (X : zq_M) (a1 : Int32) : Option zq_M :=
  zq_loop (fun _ _ => none) (b_X9_leave_2 N j a1) N (0 : Int32) X
set_option maxRecDepth 20000 in
set_option maxHeartbeats 8000000 in
theorem s_X9_leave (G : zq_G) (N z j : Nat) (X : zq_M) (a1 : Int32) : zq_V G YX9_leave (5, 0, 0) (zq_sv (zq_shX j) z) 0 0 0 (lv_args 0 [.ref (zq_ad G 41), .int a1]) [] (zq_shX j) z X (f_X9_leave N j X a1) := by
  unfold f_X9_leave
  refine zr_lo (l2 := [(0, .ref (zq_ad G 41)), (1, .int a1)]) [0, 1] rfl ?_
  refine zr_iconst (pc := 0) (zq_d eX9_leave 0 rfl) zc_i0 ?_
  refine zr_istore_n (pc := 1) (lo2 := [(2, .int (0 : Int32)), (0, .ref (zq_ad G 41)), (1, .int a1)]) (zq_d eX9_leave 1 rfl) rfl (Nat.le_of_ble_eq_true rfl) rfl ?_
  have hbrc2_1 : ∀ rc2_1 : Int32 → zq_M → Option zq_M, (∀ (v1 : Int32) (X2 : zq_M), zq_V G YX9_leave (5, 0, 0) (zq_sv (zq_shX j) z) 0 0 2 [(0, .ref (zq_ad G 41)), (1, .int a1), (2, .int v1)] [] (zq_shX j) z X2 (rc2_1 v1 X2)) → ∀ (v1 : Int32) (X2 : zq_M), zq_V G YX9_leave (5, 0, 0) (zq_sv (zq_shX j) z) 0 0 2 [(0, .ref (zq_ad G 41)), (1, .int a1), (2, .int v1)] [] (zq_shX j) z X2 (b_X9_leave_2 N j a1 rc2_1 v1 X2) := by
    intro rc2_1 hrc2_1 v1 X2
    unfold b_X9_leave_2
    refine zr_iload_n (pc := 2) (zq_d eX9_leave 2 rfl) 2 rfl rfl ?_
    refine zr_aload_n (pc := 3) (zq_d eX9_leave 3 rfl) 0 rfl rfl ?_
    refine zr_getC (pc := 4) (zq_d eX9_leave 4 rfl) zf_RX9_23 (kx_41_0 j) ?_
    refine zr_getC (pc := 7) (zq_d eX9_leave 5 rfl) zf_RX9_44 (kx_35_0 j) ?_
    refine zr_getI (pc := 10) (zq_d eX9_leave 6 rfl) zf_RX9_62 (kx_1_0 j) ?_
    refine zr_icmp_ge (pc := 13) 80 (zq_d eX9_leave 7 rfl) (by decide) (fun _ => ?_) (fun _ => ?_)
    · exact zr_vreturn (pc := 80) (zq_d eX9_leave 43 rfl) rfl rfl (Nat.zero_le _) (Nat.zero_le _)
    · refine zr_iconst (pc := 16) (zq_d eX9_leave 8 rfl) zc_i0 ?_
      refine zr_istore_n (pc := 17) (lo2 := [(3, .int (0 : Int32)), (0, .ref (zq_ad G 41)), (1, .int a1), (2, .int v1)]) (zq_d eX9_leave 9 rfl) rfl (Nat.le_of_ble_eq_true rfl) rfl ?_
      have hbrc18_2 : ∀ rc18_2 : Int32 → zq_M → Option zq_M, (∀ (v3 : Int32) (X4 : zq_M), zq_V G YX9_leave (5, 0, 0) (zq_sv (zq_shX j) z) 0 0 18 [(0, .ref (zq_ad G 41)), (1, .int a1), (2, .int v1), (3, .int v3)] [] (zq_shX j) z X4 (rc18_2 v3 X4)) → ∀ (v3 : Int32) (X4 : zq_M), zq_V G YX9_leave (5, 0, 0) (zq_sv (zq_shX j) z) 0 0 18 [(0, .ref (zq_ad G 41)), (1, .int a1), (2, .int v1), (3, .int v3)] [] (zq_shX j) z X4 (b_X9_leave_18 N j a1 v1 rc2_1 rc18_2 v3 X4) := by
        intro rc18_2 hrc18_2 v3 X4
        unfold b_X9_leave_18
        refine zr_iload_n (pc := 18) (zq_d eX9_leave 10 rfl) 3 rfl rfl ?_
        refine zr_iconst (pc := 19) (zq_d eX9_leave 11 rfl) zc_i4 ?_
        refine zr_icmp_ge (pc := 20) 74 (zq_d eX9_leave 12 rfl) (by decide) (fun _ => ?_) (fun _ => ?_)
        · refine zr_iinc (pc := 74) (j := 2) (v := (v1 + (1 : Int32))) (lo2 := [(2, .int (v1 + (1 : Int32))), (0, .ref (zq_ad G 41)), (1, .int a1), (3, .int v3)]) (zq_d eX9_leave 41 rfl) rfl (by rw [zc_i1]) (Nat.le_of_ble_eq_true rfl) rfl ?_
          refine zr_goto (pc := 77) 2 (zq_d eX9_leave 42 rfl) (by decide) ?_
          exact zr_lo [1, 2, 0] rfl (hrc2_1 (v1 + (1 : Int32)) X4)
        · refine zr_aload_n (pc := 23) (zq_d eX9_leave 13 rfl) 0 rfl rfl ?_
          refine zr_getC (pc := 24) (zq_d eX9_leave 14 rfl) zf_RX9_23 (kx_41_0 j) ?_
          refine zr_iload_n (pc := 27) (zq_d eX9_leave 15 rfl) 1 rfl rfl ?_
          refine zr_iload_n (pc := 28) (zq_d eX9_leave 16 rfl) 2 rfl rfl ?_
          refine zr_iload_n (pc := 29) (zq_d eX9_leave 17 rfl) 3 rfl rfl ?_
          refine zr_Vi (pc := 30) [_, _, _] (zq_d eX9_leave 18 rfl) (s_X6_mayCome G N z j X4 _ _ _) zd_X6_mayCome zl_RX9_92 (ox_35 j) rfl rfl rfl rfl (Nat.le_of_ble_eq_true rfl) (Nat.le_of_ble_eq_true rfl) (Nat.le_of_ble_eq_true rfl) ⟨Nat.le_refl _, Nat.le_refl _⟩ (fun v5 => ?_)
          refine zr_if_eq (pc := 33) 68 (zq_d eX9_leave 19 rfl) (by decide) (fun _ => ?_) (fun _ => ?_)
          · refine zr_iinc (pc := 68) (j := 3) (v := (v3 + (1 : Int32))) (lo2 := [(3, .int (v3 + (1 : Int32))), (0, .ref (zq_ad G 41)), (1, .int a1), (2, .int v1)]) (zq_d eX9_leave 39 rfl) rfl (by rw [zc_i1]) (Nat.le_of_ble_eq_true rfl) rfl ?_
            refine zr_goto (pc := 71) 18 (zq_d eX9_leave 40 rfl) (by decide) ?_
            exact zr_lo [1, 2, 3, 0] rfl (hrc18_2 (v3 + (1 : Int32)) X4)
          · refine zr_iload_n (pc := 36) (zq_d eX9_leave 20 rfl) 1 rfl rfl ?_
            refine zr_iload_n (pc := 37) (zq_d eX9_leave 21 rfl) 2 rfl rfl ?_
            refine zr_iload_n (pc := 38) (zq_d eX9_leave 22 rfl) 3 rfl rfl ?_
            refine zr_Si (pc := 39) [_, _, _] (zq_d eX9_leave 23 rfl) (s_X6_moved G N z j X4 _ _ _) zd_X6_moved zl_RX9_96 rfl rfl (Nat.le_of_ble_eq_true rfl) (Nat.le_of_ble_eq_true rfl) (Nat.le_of_ble_eq_true rfl) ⟨Nat.le_refl _, Nat.le_refl _⟩ (fun v6 => ?_)
            refine zr_istore (pc := 42) (lo2 := [(4, .int v6), (0, .ref (zq_ad G 41)), (1, .int a1), (2, .int v1), (3, .int v3)]) (zq_d eX9_leave 24 rfl) (Nat.le_of_ble_eq_true rfl) rfl ?_
            refine zr_aload_n (pc := 44) (zq_d eX9_leave 25 rfl) 1 rfl rfl ?_
            refine zr_getC (pc := 45) (zq_d eX9_leave 26 rfl) zf_RX9_17 (kx_41_2 j) ?_
            refine zr_iload (pc := 48) (zq_d eX9_leave 27 rfl) 0 rfl ?_
            refine zr_aload_n (pc := 50) (zq_d eX9_leave 28 rfl) 1 rfl rfl ?_
            refine zr_getC (pc := 51) (zq_d eX9_leave 29 rfl) zf_RX9_17 (kx_41_2 j) ?_
            refine zr_iload (pc := 54) (zq_d eX9_leave 30 rfl) 0 rfl ?_
            refine zr_iald (pc := 56) (zq_d eX9_leave 31 rfl) (ax_43 j) ?_
            refine zr_aload_n (pc := 57) (zq_d eX9_leave 32 rfl) 1 rfl rfl ?_
            refine zr_iload_n (pc := 58) (zq_d eX9_leave 33 rfl) 2 rfl rfl ?_
            refine zr_iload_n (pc := 59) (zq_d eX9_leave 34 rfl) 3 rfl rfl ?_
            refine zr_iload_n (pc := 60) (zq_d eX9_leave 35 rfl) 4 rfl rfl ?_
            refine zr_Vi (pc := 61) [_, _, _] (zq_d eX9_leave 36 rfl) (s_X9_carried G N z j X4 _ _ _) zd_X9_carried zl_RX9_100 (ox_41 j) rfl rfl rfl rfl (Nat.le_of_ble_eq_true rfl) (Nat.le_of_ble_eq_true rfl) (Nat.le_of_ble_eq_true rfl) ⟨Nat.le_refl _, Nat.le_refl _⟩ (fun v7 => ?_)
            refine zr_min (pc := 64) (zq_d eX9_leave 37 rfl) zl_RX9_39 zx_min1 zx_min2 zx_min3 (Nat.le_of_ble_eq_true rfl) (Nat.le_of_ble_eq_true rfl) ⟨Nat.le_refl _, Nat.le_refl _⟩ ?_
            refine zr_iast (pc := 67) (zq_d eX9_leave 38 rfl) (ax_43 j) (fun X8 => ?_)
            refine zr_iinc (pc := 68) (j := 4) (v := (v3 + (1 : Int32))) (lo2 := [(3, .int (v3 + (1 : Int32))), (4, .int v6), (0, .ref (zq_ad G 41)), (1, .int a1), (2, .int v1)]) (zq_d eX9_leave 39 rfl) rfl (by rw [zc_i1]) (Nat.le_of_ble_eq_true rfl) rfl ?_
            refine zr_goto (pc := 71) 18 (zq_d eX9_leave 40 rfl) (by decide) ?_
            exact zr_lo [2, 3, 4, 0] rfl (hrc18_2 (v3 + (1 : Int32)) X8)
      have hlrc18_2 := zr_loop (P := fun (rc18_2 : Int32 → zq_M → Option zq_M) => ∀ (v3 : Int32) (X4 : zq_M), zq_V G YX9_leave (5, 0, 0) (zq_sv (zq_shX j) z) 0 0 18 [(0, .ref (zq_ad G 41)), (1, .int a1), (2, .int v1), (3, .int v3)] [] (zq_shX j) z X4 (rc18_2 v3 X4)) (fun _ _ => none) (b_X9_leave_18 N j a1 v1 rc2_1) (fun _ _ => zr_none) hbrc18_2 N
      exact zr_lo [1, 2, 3, 0] rfl (hlrc18_2 (0 : Int32) X2)
  have hlrc2_1 := zr_loop (P := fun (rc2_1 : Int32 → zq_M → Option zq_M) => ∀ (v1 : Int32) (X2 : zq_M), zq_V G YX9_leave (5, 0, 0) (zq_sv (zq_shX j) z) 0 0 2 [(0, .ref (zq_ad G 41)), (1, .int a1), (2, .int v1)] [] (zq_shX j) z X2 (rc2_1 v1 X2)) (fun _ _ => none) (b_X9_leave_2 N j a1) (fun _ _ => zr_none) hbrc2_1 N
  exact zr_lo [1, 2, 0] rfl (hlrc2_1 (0 : Int32) X)
def j_X9_takeNext_33 (v1 : Int32) (v2 : Int32) (X3 : zq_M) (rc4_1 : Int32 → Int32 → zq_M → Option (Int32 × zq_M)) (v4 : Int32) : Option (Int32 × zq_M) :=
  zq_ck v2 1024 (zq_ck v2 1024 (zq_b (zq_u1 X3 42 (zq_ix v2) (X3.1 43 (zq_ix v2))) (fun X5 => rc4_1 (v1 ||| v4) (v2 + (1 : Int32)) X5)))
def b_X9_takeNext_4  (rc4_1 : Int32 → Int32 → zq_M → Option (Int32 × zq_M)) (v1 : Int32) (v2 : Int32) (X3 : zq_M) : Option (Int32 × zq_M) :=
  if (X3.1 41 4) ≤ v2 then (zq_gz v1 (some (v1, X3))) else (zq_ck v2 1024 (zq_ck v2 1024 (if (X3.1 42 (zq_ix v2)) = (X3.1 43 (zq_ix v2)) then (j_X9_takeNext_33 v1 v2 X3 rc4_1 (0 : Int32)) else (j_X9_takeNext_33 v1 v2 X3 rc4_1 (1 : Int32)))))
def f_X9_takeNext (N j : Nat) (X : zq_M)  : Option (Int32 × zq_M) :=
  zq_loop (fun _ _ _ => none) (b_X9_takeNext_4) N (0 : Int32) (0 : Int32) X
set_option maxRecDepth 20000 in
set_option maxHeartbeats 8000000 in
theorem s_X9_takeNext (G : zq_G) (N z j : Nat) (X : zq_M)  : zq_V G YX9_takeNext (1, 0, 0) (zq_si (zq_shX j) z) 0 0 0 (lv_args 0 [.ref (zq_ad G 41)]) [] (zq_shX j) z X (f_X9_takeNext N j X ) := by
  unfold f_X9_takeNext
  refine zr_lo (l2 := [(0, .ref (zq_ad G 41))]) [0] rfl ?_
  refine zr_iconst (pc := 0) (zq_d eX9_takeNext 0 rfl) zc_i0 ?_
  refine zr_istore_n (pc := 1) (lo2 := [(1, .int (0 : Int32)), (0, .ref (zq_ad G 41))]) (zq_d eX9_takeNext 1 rfl) rfl (Nat.le_of_ble_eq_true rfl) rfl ?_
  refine zr_iconst (pc := 2) (zq_d eX9_takeNext 2 rfl) zc_i0 ?_
  refine zr_istore_n (pc := 3) (lo2 := [(2, .int (0 : Int32)), (1, .int (0 : Int32)), (0, .ref (zq_ad G 41))]) (zq_d eX9_takeNext 3 rfl) rfl (Nat.le_of_ble_eq_true rfl) rfl ?_
  have hbrc4_1 : ∀ rc4_1 : Int32 → Int32 → zq_M → Option (Int32 × zq_M), (∀ (v1 : Int32) (v2 : Int32) (X3 : zq_M), zq_V G YX9_takeNext (1, 0, 0) (zq_si (zq_shX j) z) 0 0 4 [(0, .ref (zq_ad G 41)), (1, .int v1), (2, .int v2)] [] (zq_shX j) z X3 (rc4_1 v1 v2 X3)) → ∀ (v1 : Int32) (v2 : Int32) (X3 : zq_M), zq_V G YX9_takeNext (1, 0, 0) (zq_si (zq_shX j) z) 0 0 4 [(0, .ref (zq_ad G 41)), (1, .int v1), (2, .int v2)] [] (zq_shX j) z X3 (b_X9_takeNext_4 rc4_1 v1 v2 X3) := by
    intro rc4_1 hrc4_1 v1 v2 X3
    unfold b_X9_takeNext_4
    refine zr_iload_n (pc := 4) (zq_d eX9_takeNext 4 rfl) 2 rfl rfl ?_
    refine zr_aload_n (pc := 5) (zq_d eX9_takeNext 5 rfl) 0 rfl rfl ?_
    refine zr_getI (pc := 6) (zq_d eX9_takeNext 6 rfl) zf_RX9_66 (kx_41_4 j) ?_
    refine zr_icmp_ge (pc := 9) 53 (zq_d eX9_takeNext 7 rfl) (by decide) (fun _ => ?_) (fun _ => ?_)
    · refine zr_iload_n (pc := 53) (zq_d eX9_takeNext 33 rfl) 1 rfl rfl ?_
      exact zr_zreturnG (pc := 54) (zq_d eX9_takeNext 34 rfl) rfl rfl (Nat.zero_le _) (Nat.zero_le _)
    · refine zr_iload_n (pc := 12) (zq_d eX9_takeNext 8 rfl) 1 rfl rfl ?_
      refine zr_aload_n (pc := 13) (zq_d eX9_takeNext 9 rfl) 0 rfl rfl ?_
      refine zr_getC (pc := 14) (zq_d eX9_takeNext 10 rfl) zf_RX9_11 (kx_41_1 j) ?_
      refine zr_iload_n (pc := 17) (zq_d eX9_takeNext 11 rfl) 2 rfl rfl ?_
      refine zr_iald (pc := 18) (zq_d eX9_takeNext 12 rfl) (ax_42 j) ?_
      refine zr_aload_n (pc := 19) (zq_d eX9_takeNext 13 rfl) 0 rfl rfl ?_
      refine zr_getC (pc := 20) (zq_d eX9_takeNext 14 rfl) zf_RX9_17 (kx_41_2 j) ?_
      refine zr_iload_n (pc := 23) (zq_d eX9_takeNext 15 rfl) 2 rfl rfl ?_
      refine zr_iald (pc := 24) (zq_d eX9_takeNext 16 rfl) (ax_43 j) ?_
      have hj33_2 : ∀ (v4 : Int32), zq_V G YX9_takeNext (1, 0, 0) (zq_si (zq_shX j) z) 0 0 33 [(0, .ref (zq_ad G 41)), (2, .int v2)] [.int v4, .int v1] (zq_shX j) z X3 (j_X9_takeNext_33 v1 v2 X3 rc4_1 v4) := by
        intro v4
        unfold j_X9_takeNext_33
        refine zr_ior (pc := 33) (zq_d eX9_takeNext 21 rfl) ?_
        refine zr_istore_n (pc := 34) (lo2 := [(1, .int (v1 ||| v4)), (0, .ref (zq_ad G 41)), (2, .int v2)]) (zq_d eX9_takeNext 22 rfl) rfl (Nat.le_of_ble_eq_true rfl) rfl ?_
        refine zr_aload_n (pc := 35) (zq_d eX9_takeNext 23 rfl) 1 rfl rfl ?_
        refine zr_getC (pc := 36) (zq_d eX9_takeNext 24 rfl) zf_RX9_11 (kx_41_1 j) ?_
        refine zr_iload_n (pc := 39) (zq_d eX9_takeNext 25 rfl) 2 rfl rfl ?_
        refine zr_aload_n (pc := 40) (zq_d eX9_takeNext 26 rfl) 1 rfl rfl ?_
        refine zr_getC (pc := 41) (zq_d eX9_takeNext 27 rfl) zf_RX9_17 (kx_41_2 j) ?_
        refine zr_iload_n (pc := 44) (zq_d eX9_takeNext 28 rfl) 2 rfl rfl ?_
        refine zr_iald (pc := 45) (zq_d eX9_takeNext 29 rfl) (ax_43 j) ?_
        refine zr_iast (pc := 46) (zq_d eX9_takeNext 30 rfl) (ax_42 j) (fun X5 => ?_)
        refine zr_iinc (pc := 47) (j := 2) (v := (v2 + (1 : Int32))) (lo2 := [(2, .int (v2 + (1 : Int32))), (1, .int (v1 ||| v4)), (0, .ref (zq_ad G 41))]) (zq_d eX9_takeNext 31 rfl) rfl (by rw [zc_i1]) (Nat.le_of_ble_eq_true rfl) rfl ?_
        refine zr_goto (pc := 50) 4 (zq_d eX9_takeNext 32 rfl) (by decide) ?_
        exact zr_lo [2, 1, 0] rfl (hrc4_1 (v1 ||| v4) (v2 + (1 : Int32)) X5)
      refine zr_icmp_eq (pc := 25) 32 (zq_d eX9_takeNext 17 rfl) (by decide) (fun _ => ?_) (fun _ => ?_)
      · refine zr_iconst (pc := 32) (zq_d eX9_takeNext 20 rfl) zc_i0 ?_
        exact zr_lo [0, 2] rfl (hj33_2 (0 : Int32))
      · refine zr_iconst (pc := 28) (zq_d eX9_takeNext 18 rfl) zc_i1 ?_
        refine zr_goto (pc := 29) 33 (zq_d eX9_takeNext 19 rfl) (by decide) ?_
        exact zr_lo [0, 2] rfl (hj33_2 (1 : Int32))
  have hlrc4_1 := zr_loop (P := fun (rc4_1 : Int32 → Int32 → zq_M → Option (Int32 × zq_M)) => ∀ (v1 : Int32) (v2 : Int32) (X3 : zq_M), zq_V G YX9_takeNext (1, 0, 0) (zq_si (zq_shX j) z) 0 0 4 [(0, .ref (zq_ad G 41)), (1, .int v1), (2, .int v2)] [] (zq_shX j) z X3 (rc4_1 v1 v2 X3)) (fun _ _ _ => none) (b_X9_takeNext_4) (fun _ _ _ => zr_none) hbrc4_1 N
  exact zr_lo [2, 1, 0] rfl (hlrc4_1 (0 : Int32) (0 : Int32) X)
def j_X9_goOn_64  (X1 : zq_M) : Option zq_M :=
  zq_b (zq_u1 X1 41 5 ((X1.1 41 5) + (1 : Int32))) (fun X2 => some X2)
def j_X9_goOn_61 (X7 : zq_M) (v8 : Int32) : Option zq_M :=
  zq_gz v8 (zq_b (zq_u1 X7 41 6 v8) (fun X9 => j_X9_goOn_64 X9))
def k_X9_goOn_48_4 (N : Nat) (j : Nat) (X5 : zq_M)  : Option zq_M :=
  (f_X9_takeNext N j X5).bind (zq_p (fun v6 X7 => if ¬ v6 = 0 then (j_X9_goOn_61 X7 (0 : Int32)) else (j_X9_goOn_61 X7 (1 : Int32))))
def b_X9_goOn_18 (N : Nat) (j : Nat) (rc18_2 : Int32 → zq_M → Option zq_M) (v4 : Int32) (X5 : zq_M) : Option zq_M :=
  if (X5.1 41 4) ≤ v4 then (k_X9_goOn_48_4 N j X5) else (zq_ck v4 1024 (if (X5.1 42 (zq_ix v4)) = (1073741824 : Int32) then (rc18_2 (v4 + (1 : Int32)) X5) else ((f_X9_leave N j X5 v4).bind (fun X10 => rc18_2 (v4 + (1 : Int32)) X10))))
def f_X9_goOn (N j : Nat) (X : zq_M)  : Option zq_M :=
  if ¬ (X.1 41 6) = 0 then (j_X9_goOn_64 X) else ((f_J7_fill_53178 N (zq_shX j) X 43 1024 (1073741824 : Int32)).bind (fun X3 => zq_loop (fun _ _ => none) (b_X9_goOn_18 N j) N (0 : Int32) X3))
set_option maxRecDepth 20000 in
set_option maxHeartbeats 8000000 in
theorem s_X9_goOn (G : zq_G) (N z j : Nat) (X : zq_M)  : zq_V G YX9_goOn (6, 0, 0) (zq_sv (zq_shX j) z) 0 0 0 (lv_args 0 [.ref (zq_ad G 41)]) [] (zq_shX j) z X (f_X9_goOn N j X ) := by
  unfold f_X9_goOn
  refine zr_lo (l2 := [(0, .ref (zq_ad G 41))]) [0] rfl ?_
  refine zr_aload_n (pc := 0) (zq_d eX9_goOn 0 rfl) 0 rfl rfl ?_
  refine zr_getI (pc := 1) (zq_d eX9_goOn 1 rfl) zf_RX9_72 (kx_41_6 j) ?_
  have hj64_1 : ∀ (X1 : zq_M), zq_V G YX9_goOn (6, 0, 0) (zq_sv (zq_shX j) z) 0 0 64 [(0, .ref (zq_ad G 41))] [] (zq_shX j) z X1 (j_X9_goOn_64 X1) := by
    intro X1
    unfold j_X9_goOn_64
    refine zr_aload_n (pc := 64) (zq_d eX9_goOn 32 rfl) 0 rfl rfl ?_
    refine zr_dup (pc := 65) (zq_d eX9_goOn 33 rfl) rfl ?_
    refine zr_getI (pc := 66) (zq_d eX9_goOn 34 rfl) zf_RX9_69 (kx_41_5 j) ?_
    refine zr_iconst (pc := 69) (zq_d eX9_goOn 35 rfl) zc_i1 ?_
    refine zr_iadd (pc := 70) (zq_d eX9_goOn 36 rfl) ?_
    refine zr_putI (pc := 71) (zq_d eX9_goOn 37 rfl) zf_RX9_69 (kx_41_5 j) zn_9_5 (fun X2 => ?_)
    exact zr_vreturn (pc := 74) (zq_d eX9_goOn 38 rfl) rfl rfl (Nat.zero_le _) (Nat.zero_le _)
  refine zr_if_ne (pc := 4) 64 (zq_d eX9_goOn 2 rfl) (by decide) (fun _ => ?_) (fun _ => ?_)
  · exact zr_lo [0] rfl (hj64_1 X)
  · refine zr_aload_n (pc := 7) (zq_d eX9_goOn 3 rfl) 0 rfl rfl ?_
    refine zr_getC (pc := 8) (zq_d eX9_goOn 4 rfl) zf_RX9_17 (kx_41_2 j) ?_
    refine zr_ldc (pc := 11) (zq_d eX9_goOn 5 rfl) zk_RX9_35 ?_
    refine zr_Sv (pc := 13) [_, _] (zq_d eX9_goOn 6 rfl) (s_J7_fill_53178 G N z (zq_shX j) X 43 1024 (ax_43 j) _) zd_J7_fill_53178 zl_RX9_75 rfl rfl (Nat.le_of_ble_eq_true rfl) (Nat.le_of_ble_eq_true rfl) (Nat.le_of_ble_eq_true rfl) ⟨Nat.le_refl _, Nat.le_refl _⟩ (fun X3 => ?_)
    refine zr_iconst (pc := 16) (zq_d eX9_goOn 7 rfl) zc_i0 ?_
    refine zr_istore_n (pc := 17) (lo2 := [(1, .int (0 : Int32)), (0, .ref (zq_ad G 41))]) (zq_d eX9_goOn 8 rfl) rfl (Nat.le_of_ble_eq_true rfl) rfl ?_
    have hbrc18_2 : ∀ rc18_2 : Int32 → zq_M → Option zq_M, (∀ (v4 : Int32) (X5 : zq_M), zq_V G YX9_goOn (6, 0, 0) (zq_sv (zq_shX j) z) 0 0 18 [(0, .ref (zq_ad G 41)), (1, .int v4)] [] (zq_shX j) z X5 (rc18_2 v4 X5)) → ∀ (v4 : Int32) (X5 : zq_M), zq_V G YX9_goOn (6, 0, 0) (zq_sv (zq_shX j) z) 0 0 18 [(0, .ref (zq_ad G 41)), (1, .int v4)] [] (zq_shX j) z X5 (b_X9_goOn_18 N j rc18_2 v4 X5) := by
      intro rc18_2 hrc18_2 v4 X5
      unfold b_X9_goOn_18
      refine zr_iload_n (pc := 18) (zq_d eX9_goOn 9 rfl) 1 rfl rfl ?_
      refine zr_aload_n (pc := 19) (zq_d eX9_goOn 10 rfl) 0 rfl rfl ?_
      refine zr_getI (pc := 20) (zq_d eX9_goOn 11 rfl) zf_RX9_66 (kx_41_4 j) ?_
      refine zr_icmp_ge (pc := 23) 48 (zq_d eX9_goOn 12 rfl) (by decide) (fun _ => ?_) (fun _ => ?_)
      · unfold k_X9_goOn_48_4
        refine zr_aload_n (pc := 48) (zq_d eX9_goOn 24 rfl) 0 rfl rfl ?_
        refine zr_aload_n (pc := 49) (zq_d eX9_goOn 25 rfl) 0 rfl rfl ?_
        refine zr_Wsi (pc := 50) [] (zq_d eX9_goOn 26 rfl) (s_X9_takeNext G N z j X5 ) zd_X9_takeNext zl_RX9_88 (ox_41 j) rfl rfl rfl rfl (Nat.le_of_ble_eq_true rfl) (Nat.le_of_ble_eq_true rfl) (Nat.le_of_ble_eq_true rfl) ⟨Nat.le_refl _, Nat.le_refl _⟩ (fun v6 X7 => ?_)
        have hj61_3 : ∀ (v8 : Int32), zq_V G YX9_goOn (6, 0, 0) (zq_sv (zq_shX j) z) 0 0 61 [(0, .ref (zq_ad G 41))] [.int v8, .ref (zq_ad G 41)] (zq_shX j) z X7 (j_X9_goOn_61 X7 v8) := by
          intro v8
          unfold j_X9_goOn_61
          refine zr_putZ (pc := 61) (zq_d eX9_goOn 31 rfl) zf_RX9_72 (kx_41_6 j) zn_9_6 (fun X9 => ?_)
          exact zr_lo [0] rfl (hj64_1 X9)
        refine zr_if_ne (pc := 53) 60 (zq_d eX9_goOn 27 rfl) (by decide) (fun _ => ?_) (fun _ => ?_)
        · refine zr_iconst (pc := 60) (zq_d eX9_goOn 30 rfl) zc_i0 ?_
          exact zr_lo [0] rfl (hj61_3 (0 : Int32))
        · refine zr_iconst (pc := 56) (zq_d eX9_goOn 28 rfl) zc_i1 ?_
          refine zr_goto (pc := 57) 61 (zq_d eX9_goOn 29 rfl) (by decide) ?_
          exact zr_lo [0] rfl (hj61_3 (1 : Int32))
      · refine zr_aload_n (pc := 26) (zq_d eX9_goOn 13 rfl) 0 rfl rfl ?_
        refine zr_getC (pc := 27) (zq_d eX9_goOn 14 rfl) zf_RX9_11 (kx_41_1 j) ?_
        refine zr_iload_n (pc := 30) (zq_d eX9_goOn 15 rfl) 1 rfl rfl ?_
        refine zr_iald (pc := 31) (zq_d eX9_goOn 16 rfl) (ax_42 j) ?_
        refine zr_ldc (pc := 32) (zq_d eX9_goOn 17 rfl) zk_RX9_35 ?_
        refine zr_icmp_eq (pc := 34) 42 (zq_d eX9_goOn 18 rfl) (by decide) (fun _ => ?_) (fun _ => ?_)
        · refine zr_iinc (pc := 42) (j := 1) (v := (v4 + (1 : Int32))) (lo2 := [(1, .int (v4 + (1 : Int32))), (0, .ref (zq_ad G 41))]) (zq_d eX9_goOn 22 rfl) rfl (by rw [zc_i1]) (Nat.le_of_ble_eq_true rfl) rfl ?_
          refine zr_goto (pc := 45) 18 (zq_d eX9_goOn 23 rfl) (by decide) ?_
          exact zr_lo [1, 0] rfl (hrc18_2 (v4 + (1 : Int32)) X5)
        · refine zr_aload_n (pc := 37) (zq_d eX9_goOn 19 rfl) 0 rfl rfl ?_
          refine zr_iload_n (pc := 38) (zq_d eX9_goOn 20 rfl) 1 rfl rfl ?_
          refine zr_Vv (pc := 39) [_] (zq_d eX9_goOn 21 rfl) (s_X9_leave G N z j X5 _) zd_X9_leave zl_RX9_84 (ox_41 j) rfl rfl rfl rfl (Nat.le_of_ble_eq_true rfl) (Nat.le_of_ble_eq_true rfl) (Nat.le_of_ble_eq_true rfl) ⟨Nat.le_refl _, Nat.le_refl _⟩ (fun X10 => ?_)
          refine zr_iinc (pc := 42) (j := 1) (v := (v4 + (1 : Int32))) (lo2 := [(1, .int (v4 + (1 : Int32))), (0, .ref (zq_ad G 41))]) (zq_d eX9_goOn 22 rfl) rfl (by rw [zc_i1]) (Nat.le_of_ble_eq_true rfl) rfl ?_
          refine zr_goto (pc := 45) 18 (zq_d eX9_goOn 23 rfl) (by decide) ?_
          exact zr_lo [1, 0] rfl (hrc18_2 (v4 + (1 : Int32)) X10)
    have hlrc18_2 := zr_loop (P := fun (rc18_2 : Int32 → zq_M → Option zq_M) => ∀ (v4 : Int32) (X5 : zq_M), zq_V G YX9_goOn (6, 0, 0) (zq_sv (zq_shX j) z) 0 0 18 [(0, .ref (zq_ad G 41)), (1, .int v4)] [] (zq_shX j) z X5 (rc18_2 v4 X5)) (fun _ _ => none) (b_X9_goOn_18 N j) (fun _ _ => zr_none) hbrc18_2 N
    exact zr_lo [1, 0] rfl (hlrc18_2 (0 : Int32) X3)
def j_X9_fewestComings_47 (N : Nat) (j : Nat) (v2 : Int32) (rc8_1 : Int32 → zq_M → Option (Int32 × zq_M)) (v4 : Int32) (X5 : zq_M)  : Option (Int32 × zq_M) :=
  if v4 = (1073741824 : Int32) then ((f_X9_goOn N j X5).bind (fun X6 => rc8_1 (v2 + (1 : Int32)) X6)) else (some (v2, X5))
def k_X9_fewestComings_34_3 (v2 : Int32) (v4 : Int32) (X5 : zq_M)  : Option (Int32 × zq_M) :=
  if ¬ v2 = 0 then (some (v4, X5)) else (some ((-5 : Int32), X5))
def b_X9_fewestComings_8 (N : Nat) (j : Nat) (a1 : Int32) (a2 : Int32) (a3 : Int32) (rc8_1 : Int32 → zq_M → Option (Int32 × zq_M)) (v2 : Int32) (X3 : zq_M) : Option (Int32 × zq_M) :=
  if (12 : Int32) < v2 then (some ((-5 : Int32), X3)) else ((f_X9_leastWith N j X3 a1 a2).bind (zq_p (fun v4 X5 => if v4 = (1073741824 : Int32) then (j_X9_fewestComings_47 N j v2 rc8_1 v4 X5) else (if a3 = 0 then (j_X9_fewestComings_47 N j v2 rc8_1 v4 X5) else (k_X9_fewestComings_34_3 v2 v4 X5)))))
def f_X9_fewestComings (N j : Nat) (X : zq_M) (a1 : Int32) (a2 : Int32) (a3 : Int32) : Option (Int32 × zq_M) :=
  (f_X9_begin N j X (0 : Int32)).bind (fun X1 => zq_loop (fun _ _ => none) (b_X9_fewestComings_8 N j a1 a2 a3) N (0 : Int32) X1)
set_option maxRecDepth 20000 in
set_option maxHeartbeats 8000000 in
theorem s_X9_fewestComings (G : zq_G) (N z j : Nat) (X : zq_M) (a1 : Int32) (a2 : Int32) (a3 : Int32) : zq_V G YX9_fewestComings (7, 0, 0) (zq_si (zq_shX j) z) 0 0 0 (lv_args 0 [.ref (zq_ad G 41), .int a1, .int a2, .int a3]) [] (zq_shX j) z X (f_X9_fewestComings N j X a1 a2 a3) := by
  unfold f_X9_fewestComings
  refine zr_lo (l2 := [(0, .ref (zq_ad G 41)), (1, .int a1), (2, .int a2), (3, .int a3)]) [0, 1, 2, 3] rfl ?_
  refine zr_aload_n (pc := 0) (zq_d eX9_fewestComings 0 rfl) 0 rfl rfl ?_
  refine zr_iconst (pc := 1) (zq_d eX9_fewestComings 1 rfl) zc_i0 ?_
  refine zr_Vv (pc := 2) [_] (zq_d eX9_fewestComings 2 rfl) (s_X9_begin G N z j X _) zd_X9_begin zl_RX9_27 (ox_41 j) rfl rfl rfl rfl (Nat.le_of_ble_eq_true rfl) (Nat.le_of_ble_eq_true rfl) (Nat.le_of_ble_eq_true rfl) ⟨Nat.le_refl _, Nat.le_refl _⟩ (fun X1 => ?_)
  refine zr_iconst (pc := 5) (zq_d eX9_fewestComings 3 rfl) zc_i0 ?_
  refine zr_istore (pc := 6) (lo2 := [(4, .int (0 : Int32)), (0, .ref (zq_ad G 41)), (1, .int a1), (2, .int a2), (3, .int a3)]) (zq_d eX9_fewestComings 4 rfl) (Nat.le_of_ble_eq_true rfl) rfl ?_
  have hbrc8_1 : ∀ rc8_1 : Int32 → zq_M → Option (Int32 × zq_M), (∀ (v2 : Int32) (X3 : zq_M), zq_V G YX9_fewestComings (7, 0, 0) (zq_si (zq_shX j) z) 0 0 8 [(0, .ref (zq_ad G 41)), (1, .int a1), (2, .int a2), (3, .int a3), (4, .int v2)] [] (zq_shX j) z X3 (rc8_1 v2 X3)) → ∀ (v2 : Int32) (X3 : zq_M), zq_V G YX9_fewestComings (7, 0, 0) (zq_si (zq_shX j) z) 0 0 8 [(0, .ref (zq_ad G 41)), (1, .int a1), (2, .int a2), (3, .int a3), (4, .int v2)] [] (zq_shX j) z X3 (b_X9_fewestComings_8 N j a1 a2 a3 rc8_1 v2 X3) := by
    intro rc8_1 hrc8_1 v2 X3
    unfold b_X9_fewestComings_8
    refine zr_iload (pc := 8) (zq_d eX9_fewestComings 5 rfl) 4 rfl ?_
    refine zr_bipush (pc := 10) (zq_d eX9_fewestComings 6 rfl) zc_b12 ?_
    refine zr_icmp_gt (pc := 12) 67 (zq_d eX9_fewestComings 7 rfl) (by decide) (fun _ => ?_) (fun _ => ?_)
    · refine zr_bipush (pc := 67) (zq_d eX9_fewestComings 33 rfl) zc_bm5 ?_
      exact zr_ireturn (pc := 69) (zq_d eX9_fewestComings 34 rfl) rfl rfl (Nat.zero_le _) (Nat.zero_le _)
    · refine zr_aload_n (pc := 15) (zq_d eX9_fewestComings 8 rfl) 0 rfl rfl ?_
      refine zr_iload_n (pc := 16) (zq_d eX9_fewestComings 9 rfl) 1 rfl rfl ?_
      refine zr_iload_n (pc := 17) (zq_d eX9_fewestComings 10 rfl) 2 rfl rfl ?_
      refine zr_Wsi (pc := 18) [_, _] (zq_d eX9_fewestComings 11 rfl) (s_X9_leastWith G N z j X3 _ _) zd_X9_leastWith zl_RX9_31 (ox_41 j) rfl rfl rfl rfl (Nat.le_of_ble_eq_true rfl) (Nat.le_of_ble_eq_true rfl) (Nat.le_of_ble_eq_true rfl) ⟨Nat.le_refl _, Nat.le_refl _⟩ (fun v4 X5 => ?_)
      refine zr_istore (pc := 21) (lo2 := [(5, .int v4), (0, .ref (zq_ad G 41)), (1, .int a1), (2, .int a2), (3, .int a3), (4, .int v2)]) (zq_d eX9_fewestComings 12 rfl) (Nat.le_of_ble_eq_true rfl) rfl ?_
      refine zr_iload (pc := 23) (zq_d eX9_fewestComings 13 rfl) 0 rfl ?_
      refine zr_ldc (pc := 25) (zq_d eX9_fewestComings 14 rfl) zk_RX9_35 ?_
      have hj47_2 : zq_V G YX9_fewestComings (7, 0, 0) (zq_si (zq_shX j) z) 0 0 47 [(0, .ref (zq_ad G 41)), (1, .int a1), (2, .int a2), (3, .int a3), (4, .int v2), (5, .int v4)] [] (zq_shX j) z X5 (j_X9_fewestComings_47 N j v2 rc8_1 v4 X5) := by
        unfold j_X9_fewestComings_47
        refine zr_iload (pc := 47) (zq_d eX9_fewestComings 24 rfl) 5 rfl ?_
        refine zr_ldc (pc := 49) (zq_d eX9_fewestComings 25 rfl) zk_RX9_35 ?_
        refine zr_icmp_eq (pc := 51) 57 (zq_d eX9_fewestComings 26 rfl) (by decide) (fun _ => ?_) (fun _ => ?_)
        · refine zr_aload_n (pc := 57) (zq_d eX9_fewestComings 29 rfl) 0 rfl rfl ?_
          refine zr_Vv (pc := 58) [] (zq_d eX9_fewestComings 30 rfl) (s_X9_goOn G N z j X5 ) zd_X9_goOn zl_RX9_36 (ox_41 j) rfl rfl rfl rfl (Nat.le_of_ble_eq_true rfl) (Nat.le_of_ble_eq_true rfl) (Nat.le_of_ble_eq_true rfl) ⟨Nat.le_refl _, Nat.le_refl _⟩ (fun X6 => ?_)
          refine zr_iinc (pc := 61) (j := 4) (v := (v2 + (1 : Int32))) (lo2 := [(4, .int (v2 + (1 : Int32))), (0, .ref (zq_ad G 41)), (1, .int a1), (2, .int a2), (3, .int a3), (5, .int v4)]) (zq_d eX9_fewestComings 31 rfl) rfl (by rw [zc_i1]) (Nat.le_of_ble_eq_true rfl) rfl ?_
          refine zr_goto (pc := 64) 8 (zq_d eX9_fewestComings 32 rfl) (by decide) ?_
          exact zr_lo [1, 2, 3, 4, 0] rfl (hrc8_1 (v2 + (1 : Int32)) X6)
        · refine zr_iload (pc := 54) (zq_d eX9_fewestComings 27 rfl) 4 rfl ?_
          exact zr_ireturn (pc := 56) (zq_d eX9_fewestComings 28 rfl) rfl rfl (Nat.zero_le _) (Nat.zero_le _)
      refine zr_icmp_eq (pc := 27) 47 (zq_d eX9_fewestComings 15 rfl) (by decide) (fun _ => ?_) (fun _ => ?_)
      · exact zr_lo [1, 2, 3, 4, 5, 0] rfl (hj47_2)
      · refine zr_iload_n (pc := 30) (zq_d eX9_fewestComings 16 rfl) 4 rfl rfl ?_
        refine zr_if_eq (pc := 31) 47 (zq_d eX9_fewestComings 17 rfl) (by decide) (fun _ => ?_) (fun _ => ?_)
        · exact zr_lo [1, 2, 3, 4, 5, 0] rfl (hj47_2)
        · unfold k_X9_fewestComings_34_3
          refine zr_iload (pc := 34) (zq_d eX9_fewestComings 18 rfl) 5 rfl ?_
          refine zr_if_ne (pc := 36) 44 (zq_d eX9_fewestComings 19 rfl) (by decide) (fun _ => ?_) (fun _ => ?_)
          · refine zr_iload (pc := 44) (zq_d eX9_fewestComings 22 rfl) 0 rfl ?_
            exact zr_ireturn (pc := 46) (zq_d eX9_fewestComings 23 rfl) rfl rfl (Nat.zero_le _) (Nat.zero_le _)
          · refine zr_bipush (pc := 39) (zq_d eX9_fewestComings 20 rfl) zc_bm5 ?_
            refine zr_goto (pc := 41) 46 (zq_d eX9_fewestComings 21 rfl) (by decide) ?_
            exact zr_ireturn (pc := 46) (zq_d eX9_fewestComings 23 rfl) rfl rfl (Nat.zero_le _) (Nat.zero_le _)
  have hlrc8_1 := zr_loop (P := fun (rc8_1 : Int32 → zq_M → Option (Int32 × zq_M)) => ∀ (v2 : Int32) (X3 : zq_M), zq_V G YX9_fewestComings (7, 0, 0) (zq_si (zq_shX j) z) 0 0 8 [(0, .ref (zq_ad G 41)), (1, .int a1), (2, .int a2), (3, .int a3), (4, .int v2)] [] (zq_shX j) z X3 (rc8_1 v2 X3)) (fun _ _ => none) (b_X9_fewestComings_8 N j a1 a2 a3) (fun _ _ => zr_none) hbrc8_1 N
  exact zr_lo [1, 2, 3, 4, 0] rfl (hlrc8_1 (0 : Int32) X1)
def k_X9_leastCost_45_2 (v4 : Int32) (X6 : zq_M)  : Option (Int32 × zq_M) :=
  if ¬ v4 = (1073741824 : Int32) then (some (v4, X6)) else (some ((-5 : Int32), X6))
def b_X9_leastCost_16 (N : Nat) (j : Nat) (a1 : Int32) (a2 : Int32) (a3 : Int32) (rc16_1 : Int32 → Int32 → zq_M → Option (Int32 × zq_M)) (v4 : Int32) (v5 : Int32) (X6 : zq_M) : Option (Int32 × zq_M) :=
  if a3 ≤ v5 then (k_X9_leastCost_45_2 v4 X6) else ((f_X9_goOn N j X6).bind (fun X7 => (f_X9_leastWith N j X7 a1 a2).bind (zq_p (fun v8 X9 => rc16_1 (if v8 < v4 then v8 else v4) (v5 + (1 : Int32)) X9))))
def f_X9_leastCost (N j : Nat) (X : zq_M) (a1 : Int32) (a2 : Int32) (a3 : Int32) : Option (Int32 × zq_M) :=
  (f_X9_begin N j X (1 : Int32)).bind (fun X1 => (f_X9_leastWith N j X1 a1 a2).bind (zq_p (fun v2 X3 => zq_loop (fun _ _ _ => none) (b_X9_leastCost_16 N j a1 a2 a3) N v2 (0 : Int32) X3)))
set_option maxRecDepth 20000 in
set_option maxHeartbeats 8000000 in
theorem s_X9_leastCost (G : zq_G) (N z j : Nat) (X : zq_M) (a1 : Int32) (a2 : Int32) (a3 : Int32) : zq_V G YX9_leastCost (7, 0, 0) (zq_si (zq_shX j) z) 0 0 0 (lv_args 0 [.ref (zq_ad G 41), .int a1, .int a2, .int a3]) [] (zq_shX j) z X (f_X9_leastCost N j X a1 a2 a3) := by
  unfold f_X9_leastCost
  refine zr_lo (l2 := [(0, .ref (zq_ad G 41)), (1, .int a1), (2, .int a2), (3, .int a3)]) [0, 1, 2, 3] rfl ?_
  refine zr_aload_n (pc := 0) (zq_d eX9_leastCost 0 rfl) 0 rfl rfl ?_
  refine zr_iconst (pc := 1) (zq_d eX9_leastCost 1 rfl) zc_i1 ?_
  refine zr_Vv (pc := 2) [_] (zq_d eX9_leastCost 2 rfl) (s_X9_begin G N z j X _) zd_X9_begin zl_RX9_27 (ox_41 j) rfl rfl rfl rfl (Nat.le_of_ble_eq_true rfl) (Nat.le_of_ble_eq_true rfl) (Nat.le_of_ble_eq_true rfl) ⟨Nat.le_refl _, Nat.le_refl _⟩ (fun X1 => ?_)
  refine zr_aload_n (pc := 5) (zq_d eX9_leastCost 3 rfl) 0 rfl rfl ?_
  refine zr_iload_n (pc := 6) (zq_d eX9_leastCost 4 rfl) 1 rfl rfl ?_
  refine zr_iload_n (pc := 7) (zq_d eX9_leastCost 5 rfl) 2 rfl rfl ?_
  refine zr_Wsi (pc := 8) [_, _] (zq_d eX9_leastCost 6 rfl) (s_X9_leastWith G N z j X1 _ _) zd_X9_leastWith zl_RX9_31 (ox_41 j) rfl rfl rfl rfl (Nat.le_of_ble_eq_true rfl) (Nat.le_of_ble_eq_true rfl) (Nat.le_of_ble_eq_true rfl) ⟨Nat.le_refl _, Nat.le_refl _⟩ (fun v2 X3 => ?_)
  refine zr_istore (pc := 11) (lo2 := [(4, .int v2), (0, .ref (zq_ad G 41)), (1, .int a1), (2, .int a2), (3, .int a3)]) (zq_d eX9_leastCost 7 rfl) (Nat.le_of_ble_eq_true rfl) rfl ?_
  refine zr_iconst (pc := 13) (zq_d eX9_leastCost 8 rfl) zc_i0 ?_
  refine zr_istore (pc := 14) (lo2 := [(5, .int (0 : Int32)), (4, .int v2), (0, .ref (zq_ad G 41)), (1, .int a1), (2, .int a2), (3, .int a3)]) (zq_d eX9_leastCost 9 rfl) (Nat.le_of_ble_eq_true rfl) rfl ?_
  have hbrc16_1 : ∀ rc16_1 : Int32 → Int32 → zq_M → Option (Int32 × zq_M), (∀ (v4 : Int32) (v5 : Int32) (X6 : zq_M), zq_V G YX9_leastCost (7, 0, 0) (zq_si (zq_shX j) z) 0 0 16 [(0, .ref (zq_ad G 41)), (1, .int a1), (2, .int a2), (3, .int a3), (4, .int v4), (5, .int v5)] [] (zq_shX j) z X6 (rc16_1 v4 v5 X6)) → ∀ (v4 : Int32) (v5 : Int32) (X6 : zq_M), zq_V G YX9_leastCost (7, 0, 0) (zq_si (zq_shX j) z) 0 0 16 [(0, .ref (zq_ad G 41)), (1, .int a1), (2, .int a2), (3, .int a3), (4, .int v4), (5, .int v5)] [] (zq_shX j) z X6 (b_X9_leastCost_16 N j a1 a2 a3 rc16_1 v4 v5 X6) := by
    intro rc16_1 hrc16_1 v4 v5 X6
    unfold b_X9_leastCost_16
    refine zr_iload (pc := 16) (zq_d eX9_leastCost 10 rfl) 5 rfl ?_
    refine zr_iload_n (pc := 18) (zq_d eX9_leastCost 11 rfl) 3 rfl rfl ?_
    refine zr_icmp_ge (pc := 19) 45 (zq_d eX9_leastCost 12 rfl) (by decide) (fun _ => ?_) (fun _ => ?_)
    · unfold k_X9_leastCost_45_2
      refine zr_iload (pc := 45) (zq_d eX9_leastCost 24 rfl) 4 rfl ?_
      refine zr_ldc (pc := 47) (zq_d eX9_leastCost 25 rfl) zk_RX9_35 ?_
      refine zr_icmp_ne (pc := 49) 57 (zq_d eX9_leastCost 26 rfl) (by decide) (fun _ => ?_) (fun _ => ?_)
      · refine zr_iload (pc := 57) (zq_d eX9_leastCost 29 rfl) 4 rfl ?_
        exact zr_ireturn (pc := 59) (zq_d eX9_leastCost 30 rfl) rfl rfl (Nat.zero_le _) (Nat.zero_le _)
      · refine zr_bipush (pc := 52) (zq_d eX9_leastCost 27 rfl) zc_bm5 ?_
        refine zr_goto (pc := 54) 59 (zq_d eX9_leastCost 28 rfl) (by decide) ?_
        exact zr_ireturn (pc := 59) (zq_d eX9_leastCost 30 rfl) rfl rfl (Nat.zero_le _) (Nat.zero_le _)
    · refine zr_aload_n (pc := 22) (zq_d eX9_leastCost 13 rfl) 0 rfl rfl ?_
      refine zr_Vv (pc := 23) [] (zq_d eX9_leastCost 14 rfl) (s_X9_goOn G N z j X6 ) zd_X9_goOn zl_RX9_36 (ox_41 j) rfl rfl rfl rfl (Nat.le_of_ble_eq_true rfl) (Nat.le_of_ble_eq_true rfl) (Nat.le_of_ble_eq_true rfl) ⟨Nat.le_refl _, Nat.le_refl _⟩ (fun X7 => ?_)
      refine zr_iload (pc := 26) (zq_d eX9_leastCost 15 rfl) 4 rfl ?_
      refine zr_aload_n (pc := 28) (zq_d eX9_leastCost 16 rfl) 0 rfl rfl ?_
      refine zr_iload_n (pc := 29) (zq_d eX9_leastCost 17 rfl) 1 rfl rfl ?_
      refine zr_iload_n (pc := 30) (zq_d eX9_leastCost 18 rfl) 2 rfl rfl ?_
      refine zr_Wsi (pc := 31) [_, _] (zq_d eX9_leastCost 19 rfl) (s_X9_leastWith G N z j X7 _ _) zd_X9_leastWith zl_RX9_31 (ox_41 j) rfl rfl rfl rfl (Nat.le_of_ble_eq_true rfl) (Nat.le_of_ble_eq_true rfl) (Nat.le_of_ble_eq_true rfl) ⟨Nat.le_refl _, Nat.le_refl _⟩ (fun v8 X9 => ?_)
      refine zr_min (pc := 34) (zq_d eX9_leastCost 20 rfl) zl_RX9_39 zx_min1 zx_min2 zx_min3 (Nat.le_of_ble_eq_true rfl) (Nat.le_of_ble_eq_true rfl) ⟨Nat.le_refl _, Nat.le_refl _⟩ ?_
      refine zr_istore (pc := 37) (lo2 := [(4, .int (if v8 < v4 then v8 else v4)), (0, .ref (zq_ad G 41)), (1, .int a1), (2, .int a2), (3, .int a3), (5, .int v5)]) (zq_d eX9_leastCost 21 rfl) (Nat.le_of_ble_eq_true rfl) rfl ?_
      refine zr_iinc (pc := 39) (j := 5) (v := (v5 + (1 : Int32))) (lo2 := [(5, .int (v5 + (1 : Int32))), (4, .int (if v8 < v4 then v8 else v4)), (0, .ref (zq_ad G 41)), (1, .int a1), (2, .int a2), (3, .int a3)]) (zq_d eX9_leastCost 22 rfl) rfl (by rw [zc_i1]) (Nat.le_of_ble_eq_true rfl) rfl ?_
      refine zr_goto (pc := 42) 16 (zq_d eX9_leastCost 23 rfl) (by decide) ?_
      exact zr_lo [2, 3, 4, 5, 1, 0] rfl (hrc16_1 (if v8 < v4 then v8 else v4) (v5 + (1 : Int32)) X9)
  have hlrc16_1 := zr_loop (P := fun (rc16_1 : Int32 → Int32 → zq_M → Option (Int32 × zq_M)) => ∀ (v4 : Int32) (v5 : Int32) (X6 : zq_M), zq_V G YX9_leastCost (7, 0, 0) (zq_si (zq_shX j) z) 0 0 16 [(0, .ref (zq_ad G 41)), (1, .int a1), (2, .int a2), (3, .int a3), (4, .int v4), (5, .int v5)] [] (zq_shX j) z X6 (rc16_1 v4 v5 X6)) (fun _ _ _ => none) (b_X9_leastCost_16 N j a1 a2 a3) (fun _ _ _ => zr_none) hbrc16_1 N
  exact zr_lo [2, 3, 4, 5, 1, 0] rfl (hlrc16_1 v2 (0 : Int32) X3)
def b_X9_whoCanSpeak_9 (N : Nat) (j : Nat) (a1 : Int32) (X1 : zq_M) (rc9_1 : Int32 → Int32 → Option (Int32 × zq_M)) (v2 : Int32) (v3 : Int32) : Option (Int32 × zq_M) :=
  if (X1.1 41 4) ≤ v3 then (some (v2, X1)) else (zq_ck v3 1024 (if (X1.1 42 (zq_ix v3)) = (1073741824 : Int32) then (rc9_1 v2 (v3 + (1 : Int32))) else ((f_X6_whoIsAt N j X1 v3 a1).bind (fun v4 => zq_ck v4 32 (rc9_1 (v2 ||| (X1.1 44 (zq_ix v4))) (v3 + (1 : Int32)))))))
def f_X9_whoCanSpeak (N j : Nat) (X : zq_M) (a1 : Int32) : Option (Int32 × zq_M) :=
  (f_X9_tellSpeakers N j X a1).bind (fun X1 => zq_loop (fun _ _ => none) (b_X9_whoCanSpeak_9 N j a1 X1) N (0 : Int32) (0 : Int32))
set_option maxRecDepth 20000 in
set_option maxHeartbeats 8000000 in
theorem s_X9_whoCanSpeak (G : zq_G) (N z j : Nat) (X : zq_M) (a1 : Int32) : zq_V G YX9_whoCanSpeak (5, 0, 0) (zq_si (zq_shX j) z) 0 0 0 (lv_args 0 [.ref (zq_ad G 41), .int a1]) [] (zq_shX j) z X (f_X9_whoCanSpeak N j X a1) := by
  unfold f_X9_whoCanSpeak
  refine zr_lo (l2 := [(0, .ref (zq_ad G 41)), (1, .int a1)]) [0, 1] rfl ?_
  refine zr_aload_n (pc := 0) (zq_d eX9_whoCanSpeak 0 rfl) 0 rfl rfl ?_
  refine zr_iload_n (pc := 1) (zq_d eX9_whoCanSpeak 1 rfl) 1 rfl rfl ?_
  refine zr_Vv (pc := 2) [_] (zq_d eX9_whoCanSpeak 2 rfl) (s_X9_tellSpeakers G N z j X _) zd_X9_tellSpeakers zl_RX9_112 (ox_41 j) rfl rfl rfl rfl (Nat.le_of_ble_eq_true rfl) (Nat.le_of_ble_eq_true rfl) (Nat.le_of_ble_eq_true rfl) ⟨Nat.le_refl _, Nat.le_refl _⟩ (fun X1 => ?_)
  refine zr_iconst (pc := 5) (zq_d eX9_whoCanSpeak 3 rfl) zc_i0 ?_
  refine zr_istore_n (pc := 6) (lo2 := [(2, .int (0 : Int32)), (0, .ref (zq_ad G 41)), (1, .int a1)]) (zq_d eX9_whoCanSpeak 4 rfl) rfl (Nat.le_of_ble_eq_true rfl) rfl ?_
  refine zr_iconst (pc := 7) (zq_d eX9_whoCanSpeak 5 rfl) zc_i0 ?_
  refine zr_istore_n (pc := 8) (lo2 := [(3, .int (0 : Int32)), (2, .int (0 : Int32)), (0, .ref (zq_ad G 41)), (1, .int a1)]) (zq_d eX9_whoCanSpeak 6 rfl) rfl (Nat.le_of_ble_eq_true rfl) rfl ?_
  have hbrc9_1 : ∀ rc9_1 : Int32 → Int32 → Option (Int32 × zq_M), (∀ (v2 : Int32) (v3 : Int32), zq_V G YX9_whoCanSpeak (5, 0, 0) (zq_si (zq_shX j) z) 0 0 9 [(0, .ref (zq_ad G 41)), (1, .int a1), (2, .int v2), (3, .int v3)] [] (zq_shX j) z X1 (rc9_1 v2 v3)) → ∀ (v2 : Int32) (v3 : Int32), zq_V G YX9_whoCanSpeak (5, 0, 0) (zq_si (zq_shX j) z) 0 0 9 [(0, .ref (zq_ad G 41)), (1, .int a1), (2, .int v2), (3, .int v3)] [] (zq_shX j) z X1 (b_X9_whoCanSpeak_9 N j a1 X1 rc9_1 v2 v3) := by
    intro rc9_1 hrc9_1 v2 v3
    unfold b_X9_whoCanSpeak_9
    refine zr_iload_n (pc := 9) (zq_d eX9_whoCanSpeak 7 rfl) 3 rfl rfl ?_
    refine zr_aload_n (pc := 10) (zq_d eX9_whoCanSpeak 8 rfl) 0 rfl rfl ?_
    refine zr_getI (pc := 11) (zq_d eX9_whoCanSpeak 9 rfl) zf_RX9_66 (kx_41_4 j) ?_
    refine zr_icmp_ge (pc := 14) 51 (zq_d eX9_whoCanSpeak 10 rfl) (by decide) (fun _ => ?_) (fun _ => ?_)
    · refine zr_iload_n (pc := 51) (zq_d eX9_whoCanSpeak 30 rfl) 2 rfl rfl ?_
      exact zr_ireturn (pc := 52) (zq_d eX9_whoCanSpeak 31 rfl) rfl rfl (Nat.zero_le _) (Nat.zero_le _)
    · refine zr_aload_n (pc := 17) (zq_d eX9_whoCanSpeak 11 rfl) 0 rfl rfl ?_
      refine zr_getC (pc := 18) (zq_d eX9_whoCanSpeak 12 rfl) zf_RX9_11 (kx_41_1 j) ?_
      refine zr_iload_n (pc := 21) (zq_d eX9_whoCanSpeak 13 rfl) 3 rfl rfl ?_
      refine zr_iald (pc := 22) (zq_d eX9_whoCanSpeak 14 rfl) (ax_42 j) ?_
      refine zr_ldc (pc := 23) (zq_d eX9_whoCanSpeak 15 rfl) zk_RX9_35 ?_
      refine zr_icmp_eq (pc := 25) 45 (zq_d eX9_whoCanSpeak 16 rfl) (by decide) (fun _ => ?_) (fun _ => ?_)
      · refine zr_iinc (pc := 45) (j := 3) (v := (v3 + (1 : Int32))) (lo2 := [(3, .int (v3 + (1 : Int32))), (0, .ref (zq_ad G 41)), (1, .int a1), (2, .int v2)]) (zq_d eX9_whoCanSpeak 28 rfl) rfl (by rw [zc_i1]) (Nat.le_of_ble_eq_true rfl) rfl ?_
        refine zr_goto (pc := 48) 9 (zq_d eX9_whoCanSpeak 29 rfl) (by decide) ?_
        exact zr_lo [1, 2, 3, 0] rfl (hrc9_1 v2 (v3 + (1 : Int32)))
      · refine zr_iload_n (pc := 28) (zq_d eX9_whoCanSpeak 17 rfl) 2 rfl rfl ?_
        refine zr_aload_n (pc := 29) (zq_d eX9_whoCanSpeak 18 rfl) 0 rfl rfl ?_
        refine zr_getC (pc := 30) (zq_d eX9_whoCanSpeak 19 rfl) zf_RX9_20 (kx_41_3 j) ?_
        refine zr_aload_n (pc := 33) (zq_d eX9_whoCanSpeak 20 rfl) 0 rfl rfl ?_
        refine zr_getC (pc := 34) (zq_d eX9_whoCanSpeak 21 rfl) zf_RX9_23 (kx_41_0 j) ?_
        refine zr_iload_n (pc := 37) (zq_d eX9_whoCanSpeak 22 rfl) 3 rfl rfl ?_
        refine zr_iload_n (pc := 38) (zq_d eX9_whoCanSpeak 23 rfl) 1 rfl rfl ?_
        refine zr_Vi (pc := 39) [_, _] (zq_d eX9_whoCanSpeak 24 rfl) (s_X6_whoIsAt G N z j X1 _ _) zd_X6_whoIsAt zl_RX9_115 (ox_35 j) rfl rfl rfl rfl (Nat.le_of_ble_eq_true rfl) (Nat.le_of_ble_eq_true rfl) (Nat.le_of_ble_eq_true rfl) ⟨Nat.le_refl _, Nat.le_refl _⟩ (fun v4 => ?_)
        refine zr_iald (pc := 42) (zq_d eX9_whoCanSpeak 25 rfl) (ax_44 j) ?_
        refine zr_ior (pc := 43) (zq_d eX9_whoCanSpeak 26 rfl) ?_
        refine zr_istore_n (pc := 44) (lo2 := [(2, .int (v2 ||| (X1.1 44 (zq_ix v4)))), (0, .ref (zq_ad G 41)), (1, .int a1), (3, .int v3)]) (zq_d eX9_whoCanSpeak 27 rfl) rfl (Nat.le_of_ble_eq_true rfl) rfl ?_
        refine zr_iinc (pc := 45) (j := 3) (v := (v3 + (1 : Int32))) (lo2 := [(3, .int (v3 + (1 : Int32))), (2, .int (v2 ||| (X1.1 44 (zq_ix v4)))), (0, .ref (zq_ad G 41)), (1, .int a1)]) (zq_d eX9_whoCanSpeak 28 rfl) rfl (by rw [zc_i1]) (Nat.le_of_ble_eq_true rfl) rfl ?_
        refine zr_goto (pc := 48) 9 (zq_d eX9_whoCanSpeak 29 rfl) (by decide) ?_
        exact zr_lo [2, 3, 1, 0] rfl (hrc9_1 (v2 ||| (X1.1 44 (zq_ix v4))) (v3 + (1 : Int32)))
  have hlrc9_1 := zr_loop (P := fun (rc9_1 : Int32 → Int32 → Option (Int32 × zq_M)) => ∀ (v2 : Int32) (v3 : Int32), zq_V G YX9_whoCanSpeak (5, 0, 0) (zq_si (zq_shX j) z) 0 0 9 [(0, .ref (zq_ad G 41)), (1, .int a1), (2, .int v2), (3, .int v3)] [] (zq_shX j) z X1 (rc9_1 v2 v3)) (fun _ _ => none) (b_X9_whoCanSpeak_9 N j a1 X1) (fun _ _ => zr_none) hbrc9_1 N
  exact zr_lo [2, 3, 1, 0] rfl (hlrc9_1 (0 : Int32) (0 : Int32))
def b_X9_whoNeverCan_18 (N : Nat) (j : Nat) (a1 : Int32) (rc18_1 : Int32 → Int32 → zq_M → Option (Int32 × zq_M)) (v3 : Int32) (v4 : Int32) (X5 : zq_M) : Option (Int32 × zq_M) :=
  if (12 : Int32) < v4 then (some (v3, X5)) else (if v3 = 0 then (some (v3, X5)) else ((f_X9_whoCanSpeak N j X5 a1).bind (zq_p (fun v6 X7 => (f_X9_goOn N j X7).bind (fun X8 => rc18_1 (v3 &&& (v6 ^^^ (-1 : Int32))) (v4 + (1 : Int32)) X8)))))
def f_X9_whoNeverCan (N j : Nat) (X : zq_M) (a1 : Int32) : Option (Int32 × zq_M) :=
  (f_X9_begin N j X (0 : Int32)).bind (fun X1 => (f_X5_everybody N j X1 1).bind (fun v2 => zq_loop (fun _ _ _ => none) (b_X9_whoNeverCan_18 N j a1) N v2 (0 : Int32) X1))
set_option maxRecDepth 20000 in
set_option maxHeartbeats 8000000 in
theorem s_X9_whoNeverCan (G : zq_G) (N z j : Nat) (X : zq_M) (a1 : Int32) : zq_V G YX9_whoNeverCan (7, 0, 0) (zq_si (zq_shX j) z) 0 0 0 (lv_args 0 [.ref (zq_ad G 41), .int a1]) [] (zq_shX j) z X (f_X9_whoNeverCan N j X a1) := by
  unfold f_X9_whoNeverCan
  refine zr_lo (l2 := [(0, .ref (zq_ad G 41)), (1, .int a1)]) [0, 1] rfl ?_
  refine zr_aload_n (pc := 0) (zq_d eX9_whoNeverCan 0 rfl) 0 rfl rfl ?_
  refine zr_iconst (pc := 1) (zq_d eX9_whoNeverCan 1 rfl) zc_i0 ?_
  refine zr_Vv (pc := 2) [_] (zq_d eX9_whoNeverCan 2 rfl) (s_X9_begin G N z j X _) zd_X9_begin zl_RX9_27 (ox_41 j) rfl rfl rfl rfl (Nat.le_of_ble_eq_true rfl) (Nat.le_of_ble_eq_true rfl) (Nat.le_of_ble_eq_true rfl) ⟨Nat.le_refl _, Nat.le_refl _⟩ (fun X1 => ?_)
  refine zr_aload_n (pc := 5) (zq_d eX9_whoNeverCan 3 rfl) 0 rfl rfl ?_
  refine zr_getC (pc := 6) (zq_d eX9_whoNeverCan 4 rfl) zf_RX9_23 (kx_41_0 j) ?_
  refine zr_getC (pc := 9) (zq_d eX9_whoNeverCan 5 rfl) zf_RX9_44 (kx_35_0 j) ?_
  refine zr_Vi (pc := 12) [] (zq_d eX9_whoNeverCan 6 rfl) (s_X5_everybody G N z j X1 1 (zsc_1 j)) zd_X5_everybody zl_RX9_48 (ox_1 j) rfl rfl rfl rfl (Nat.le_of_ble_eq_true rfl) (Nat.le_of_ble_eq_true rfl) (Nat.le_of_ble_eq_true rfl) ⟨Nat.le_refl _, Nat.le_refl _⟩ (fun v2 => ?_)
  refine zr_istore_n (pc := 15) (lo2 := [(2, .int v2), (0, .ref (zq_ad G 41)), (1, .int a1)]) (zq_d eX9_whoNeverCan 7 rfl) rfl (Nat.le_of_ble_eq_true rfl) rfl ?_
  refine zr_iconst (pc := 16) (zq_d eX9_whoNeverCan 8 rfl) zc_i0 ?_
  refine zr_istore_n (pc := 17) (lo2 := [(3, .int (0 : Int32)), (2, .int v2), (0, .ref (zq_ad G 41)), (1, .int a1)]) (zq_d eX9_whoNeverCan 9 rfl) rfl (Nat.le_of_ble_eq_true rfl) rfl ?_
  have hbrc18_1 : ∀ rc18_1 : Int32 → Int32 → zq_M → Option (Int32 × zq_M), (∀ (v3 : Int32) (v4 : Int32) (X5 : zq_M), zq_V G YX9_whoNeverCan (7, 0, 0) (zq_si (zq_shX j) z) 0 0 18 [(0, .ref (zq_ad G 41)), (1, .int a1), (2, .int v3), (3, .int v4)] [] (zq_shX j) z X5 (rc18_1 v3 v4 X5)) → ∀ (v3 : Int32) (v4 : Int32) (X5 : zq_M), zq_V G YX9_whoNeverCan (7, 0, 0) (zq_si (zq_shX j) z) 0 0 18 [(0, .ref (zq_ad G 41)), (1, .int a1), (2, .int v3), (3, .int v4)] [] (zq_shX j) z X5 (b_X9_whoNeverCan_18 N j a1 rc18_1 v3 v4 X5) := by
    intro rc18_1 hrc18_1 v3 v4 X5
    unfold b_X9_whoNeverCan_18
    refine zr_iload_n (pc := 18) (zq_d eX9_whoNeverCan 10 rfl) 3 rfl rfl ?_
    refine zr_bipush (pc := 19) (zq_d eX9_whoNeverCan 11 rfl) zc_b12 ?_
    refine zr_icmp_gt (pc := 21) 48 (zq_d eX9_whoNeverCan 12 rfl) (by decide) (fun _ => ?_) (fun _ => ?_)
    · refine zr_iload_n (pc := 48) (zq_d eX9_whoNeverCan 27 rfl) 2 rfl rfl ?_
      exact zr_ireturn (pc := 49) (zq_d eX9_whoNeverCan 28 rfl) rfl rfl (Nat.zero_le _) (Nat.zero_le _)
    · refine zr_iload_n (pc := 24) (zq_d eX9_whoNeverCan 13 rfl) 2 rfl rfl ?_
      refine zr_if_eq (pc := 25) 48 (zq_d eX9_whoNeverCan 14 rfl) (by decide) (fun _ => ?_) (fun _ => ?_)
      · refine zr_iload_n (pc := 48) (zq_d eX9_whoNeverCan 27 rfl) 2 rfl rfl ?_
        exact zr_ireturn (pc := 49) (zq_d eX9_whoNeverCan 28 rfl) rfl rfl (Nat.zero_le _) (Nat.zero_le _)
      · refine zr_iload_n (pc := 28) (zq_d eX9_whoNeverCan 15 rfl) 2 rfl rfl ?_
        refine zr_aload_n (pc := 29) (zq_d eX9_whoNeverCan 16 rfl) 0 rfl rfl ?_
        refine zr_iload_n (pc := 30) (zq_d eX9_whoNeverCan 17 rfl) 1 rfl rfl ?_
        refine zr_Wsi (pc := 31) [_] (zq_d eX9_whoNeverCan 18 rfl) (s_X9_whoCanSpeak G N z j X5 _) zd_X9_whoCanSpeak zl_RX9_54 (ox_41 j) rfl rfl rfl rfl (Nat.le_of_ble_eq_true rfl) (Nat.le_of_ble_eq_true rfl) (Nat.le_of_ble_eq_true rfl) ⟨Nat.le_refl _, Nat.le_refl _⟩ (fun v6 X7 => ?_)
        refine zr_iconst (pc := 34) (zq_d eX9_whoNeverCan 19 rfl) zc_im1 ?_
        refine zr_ixor (pc := 35) (zq_d eX9_whoNeverCan 20 rfl) ?_
        refine zr_iand (pc := 36) (zq_d eX9_whoNeverCan 21 rfl) ?_
        refine zr_istore_n (pc := 37) (lo2 := [(2, .int (v3 &&& (v6 ^^^ (-1 : Int32)))), (0, .ref (zq_ad G 41)), (1, .int a1), (3, .int v4)]) (zq_d eX9_whoNeverCan 22 rfl) rfl (Nat.le_of_ble_eq_true rfl) rfl ?_
        refine zr_aload_n (pc := 38) (zq_d eX9_whoNeverCan 23 rfl) 1 rfl rfl ?_
        refine zr_Vv (pc := 39) [] (zq_d eX9_whoNeverCan 24 rfl) (s_X9_goOn G N z j X7 ) zd_X9_goOn zl_RX9_36 (ox_41 j) rfl rfl rfl rfl (Nat.le_of_ble_eq_true rfl) (Nat.le_of_ble_eq_true rfl) (Nat.le_of_ble_eq_true rfl) ⟨Nat.le_refl _, Nat.le_refl _⟩ (fun X8 => ?_)
        refine zr_iinc (pc := 42) (j := 3) (v := (v4 + (1 : Int32))) (lo2 := [(3, .int (v4 + (1 : Int32))), (2, .int (v3 &&& (v6 ^^^ (-1 : Int32)))), (0, .ref (zq_ad G 41)), (1, .int a1)]) (zq_d eX9_whoNeverCan 25 rfl) rfl (by rw [zc_i1]) (Nat.le_of_ble_eq_true rfl) rfl ?_
        refine zr_goto (pc := 45) 18 (zq_d eX9_whoNeverCan 26 rfl) (by decide) ?_
        exact zr_lo [2, 3, 1, 0] rfl (hrc18_1 (v3 &&& (v6 ^^^ (-1 : Int32))) (v4 + (1 : Int32)) X8)
  have hlrc18_1 := zr_loop (P := fun (rc18_1 : Int32 → Int32 → zq_M → Option (Int32 × zq_M)) => ∀ (v3 : Int32) (v4 : Int32) (X5 : zq_M), zq_V G YX9_whoNeverCan (7, 0, 0) (zq_si (zq_shX j) z) 0 0 18 [(0, .ref (zq_ad G 41)), (1, .int a1), (2, .int v3), (3, .int v4)] [] (zq_shX j) z X5 (rc18_1 v3 v4 X5)) (fun _ _ _ => none) (b_X9_whoNeverCan_18 N j a1) (fun _ _ _ => zr_none) hbrc18_1 N
  exact zr_lo [2, 3, 1, 0] rfl (hlrc18_1 v2 (0 : Int32) X1)
def f_X10_isPlace (N j : Nat) (X : zq_M) (a1 : Int32) : Option Int32 :=
  (f_X10_isFromTo N j X a1 (0 : Int32) (3 : Int32)).bind (fun v1 => zq_gz v1 (some v1))
set_option maxRecDepth 20000 in
set_option maxHeartbeats 8000000 in
theorem s_X10_isPlace (G : zq_G) (N z j : Nat) (X : zq_M) (a1 : Int32) : zq_V G YX10_isPlace (2, 0, 0) (zq_ei (zq_shX j) z X) 0 0 0 (lv_args 0 [.int a1]) [] (zq_shX j) z X (f_X10_isPlace N j X a1) := by
  unfold f_X10_isPlace
  refine zr_lo (l2 := [(0, .int a1)]) [0] rfl ?_
  refine zr_iload_n (pc := 0) (zq_d eX10_isPlace 0 rfl) 0 rfl rfl ?_
  refine zr_iconst (pc := 1) (zq_d eX10_isPlace 1 rfl) zc_i0 ?_
  refine zr_iconst (pc := 2) (zq_d eX10_isPlace 2 rfl) zc_i3 ?_
  refine zr_Si (pc := 3) [_, _, _] (zq_d eX10_isPlace 3 rfl) (s_X10_isFromTo G N z j X _ _ _) zd_X10_isFromTo zl_RX10_98 rfl rfl (Nat.le_of_ble_eq_true rfl) (Nat.le_of_ble_eq_true rfl) (Nat.le_of_ble_eq_true rfl) ⟨Nat.le_refl _, Nat.le_refl _⟩ (fun v1 => ?_)
  exact zr_zreturnG (pc := 6) (zq_d eX10_isPlace 4 rfl) rfl rfl (Nat.zero_le _) (Nat.zero_le _)
def f_X10_person (N j : Nat) (X : zq_M) (a1 : Int32) (a2 : Int32) (a3 : Int32) : Option (Int32 × zq_M) :=
  (f_X10_isFromTo N j X a1 (0 : Int32) (99 : Int32)).bind (fun v1 => if v1 = 0 then (some ((-2 : Int32), X)) else ((f_X10_isFromTo N j X a2 (0 : Int32) (99 : Int32)).bind (fun v2 => if ¬ v2 = 0 then ((f_X10_isPlace N j X a3).bind (fun v3 => if ¬ v3 = 0 then (if (X.1 1 0) < (5 : Int32) then ((f_X5_addPerson N j X 1 a1 a2 a3).bind (zq_p (fun v4 X5 => some (v4, X5)))) else (some ((-4 : Int32), X))) else (some ((-1 : Int32), X)))) else (some ((-2 : Int32), X)))))
set_option maxRecDepth 20000 in
set_option maxHeartbeats 8000000 in
theorem s_X10_person (G : zq_G) (N z j : Nat) (X : zq_M) (a1 : Int32) (a2 : Int32) (a3 : Int32) : zq_V G YX10_person (3, 0, 0) (zq_si (zq_shX j) z) 0 0 0 (lv_args 0 [.ref (zq_ad G 0), .int a1, .int a2, .int a3]) [] (zq_shX j) z X (f_X10_person N j X a1 a2 a3) := by
  unfold f_X10_person
  refine zr_lo (l2 := [(0, .ref (zq_ad G 0)), (1, .int a1), (2, .int a2), (3, .int a3)]) [0, 1, 2, 3] rfl ?_
  refine zr_iload_n (pc := 0) (zq_d eX10_person 0 rfl) 1 rfl rfl ?_
  refine zr_iconst (pc := 1) (zq_d eX10_person 1 rfl) zc_i0 ?_
  refine zr_bipush (pc := 2) (zq_d eX10_person 2 rfl) zc_b99 ?_
  refine zr_Si (pc := 4) [_, _, _] (zq_d eX10_person 3 rfl) (s_X10_isFromTo G N z j X _ _ _) zd_X10_isFromTo zl_RX10_98 rfl rfl (Nat.le_of_ble_eq_true rfl) (Nat.le_of_ble_eq_true rfl) (Nat.le_of_ble_eq_true rfl) ⟨Nat.le_refl _, Nat.le_refl _⟩ (fun v1 => ?_)
  refine zr_if_eq (pc := 7) 20 (zq_d eX10_person 4 rfl) (by decide) (fun _ => ?_) (fun _ => ?_)
  · refine zr_bipush (pc := 20) (zq_d eX10_person 10 rfl) zc_bm2 ?_
    exact zr_ireturn (pc := 22) (zq_d eX10_person 11 rfl) rfl rfl (Nat.zero_le _) (Nat.zero_le _)
  · refine zr_iload_n (pc := 10) (zq_d eX10_person 5 rfl) 2 rfl rfl ?_
    refine zr_iconst (pc := 11) (zq_d eX10_person 6 rfl) zc_i0 ?_
    refine zr_bipush (pc := 12) (zq_d eX10_person 7 rfl) zc_b99 ?_
    refine zr_Si (pc := 14) [_, _, _] (zq_d eX10_person 8 rfl) (s_X10_isFromTo G N z j X _ _ _) zd_X10_isFromTo zl_RX10_98 rfl rfl (Nat.le_of_ble_eq_true rfl) (Nat.le_of_ble_eq_true rfl) (Nat.le_of_ble_eq_true rfl) ⟨Nat.le_refl _, Nat.le_refl _⟩ (fun v2 => ?_)
    refine zr_if_ne (pc := 17) 23 (zq_d eX10_person 9 rfl) (by decide) (fun _ => ?_) (fun _ => ?_)
    · refine zr_iload_n (pc := 23) (zq_d eX10_person 12 rfl) 3 rfl rfl ?_
      refine zr_Si (pc := 24) [_] (zq_d eX10_person 13 rfl) (s_X10_isPlace G N z j X _) zd_X10_isPlace zl_RX10_102 rfl rfl (Nat.le_of_ble_eq_true rfl) (Nat.le_of_ble_eq_true rfl) (Nat.le_of_ble_eq_true rfl) ⟨Nat.le_refl _, Nat.le_refl _⟩ (fun v3 => ?_)
      refine zr_if_ne (pc := 27) 32 (zq_d eX10_person 14 rfl) (by decide) (fun _ => ?_) (fun _ => ?_)
      · refine zr_aload_n (pc := 32) (zq_d eX10_person 17 rfl) 0 rfl rfl ?_
        refine zr_getC (pc := 33) (zq_d eX10_person 18 rfl) zf_RX10_12 (kx_0_0 j) ?_
        refine zr_getI (pc := 36) (zq_d eX10_person 19 rfl) zf_RX10_106 (kx_1_0 j) ?_
        refine zr_iconst (pc := 39) (zq_d eX10_person 20 rfl) zc_i5 ?_
        refine zr_icmp_lt (pc := 40) 46 (zq_d eX10_person 21 rfl) (by decide) (fun _ => ?_) (fun _ => ?_)
        · refine zr_aload_n (pc := 46) (zq_d eX10_person 24 rfl) 0 rfl rfl ?_
          refine zr_getC (pc := 47) (zq_d eX10_person 25 rfl) zf_RX10_12 (kx_0_0 j) ?_
          refine zr_iload_n (pc := 50) (zq_d eX10_person 26 rfl) 1 rfl rfl ?_
          refine zr_iload_n (pc := 51) (zq_d eX10_person 27 rfl) 2 rfl rfl ?_
          refine zr_iload_n (pc := 52) (zq_d eX10_person 28 rfl) 3 rfl rfl ?_
          refine zr_Wsi (pc := 53) [_, _, _] (zq_d eX10_person 29 rfl) (s_X5_addPerson G N z j X 1 (zsc_1 j) _ _ _) zd_X5_addPerson zl_RX10_110 (ox_1 j) rfl rfl rfl rfl (Nat.le_of_ble_eq_true rfl) (Nat.le_of_ble_eq_true rfl) (Nat.le_of_ble_eq_true rfl) ⟨Nat.le_refl _, Nat.le_refl _⟩ (fun v4 X5 => ?_)
          exact zr_ireturn (pc := 56) (zq_d eX10_person 30 rfl) rfl rfl (Nat.zero_le _) (Nat.zero_le _)
        · refine zr_bipush (pc := 43) (zq_d eX10_person 22 rfl) zc_bm4 ?_
          exact zr_ireturn (pc := 45) (zq_d eX10_person 23 rfl) rfl rfl (Nat.zero_le _) (Nat.zero_le _)
      · refine zr_iconst (pc := 30) (zq_d eX10_person 15 rfl) zc_im1 ?_
        exact zr_ireturn (pc := 31) (zq_d eX10_person 16 rfl) rfl rfl (Nat.zero_le _) (Nat.zero_le _)
    · refine zr_bipush (pc := 20) (zq_d eX10_person 10 rfl) zc_bm2 ?_
      exact zr_ireturn (pc := 22) (zq_d eX10_person 11 rfl) rfl rfl (Nat.zero_le _) (Nat.zero_le _)
def f_X10_isPerson (N j : Nat) (X : zq_M) (a1 : Int32) : Option Int32 :=
  (f_X10_isFromTo N j X a1 (0 : Int32) ((X.1 1 0) - (1 : Int32))).bind (fun v1 => zq_gz v1 (some v1))
set_option maxRecDepth 20000 in
set_option maxHeartbeats 8000000 in
theorem s_X10_isPerson (G : zq_G) (N z j : Nat) (X : zq_M) (a1 : Int32) : zq_V G YX10_isPerson (2, 0, 0) (zq_ei (zq_shX j) z X) 0 0 0 (lv_args 0 [.ref (zq_ad G 0), .int a1]) [] (zq_shX j) z X (f_X10_isPerson N j X a1) := by
  unfold f_X10_isPerson
  refine zr_lo (l2 := [(0, .ref (zq_ad G 0)), (1, .int a1)]) [0, 1] rfl ?_
  refine zr_iload_n (pc := 0) (zq_d eX10_isPerson 0 rfl) 1 rfl rfl ?_
  refine zr_iconst (pc := 1) (zq_d eX10_isPerson 1 rfl) zc_i0 ?_
  refine zr_aload_n (pc := 2) (zq_d eX10_isPerson 2 rfl) 0 rfl rfl ?_
  refine zr_getC (pc := 3) (zq_d eX10_isPerson 3 rfl) zf_RX10_12 (kx_0_0 j) ?_
  refine zr_getI (pc := 6) (zq_d eX10_isPerson 4 rfl) zf_RX10_106 (kx_1_0 j) ?_
  refine zr_iconst (pc := 9) (zq_d eX10_isPerson 5 rfl) zc_i1 ?_
  refine zr_isub (pc := 10) (zq_d eX10_isPerson 6 rfl) ?_
  refine zr_Si (pc := 11) [_, _, _] (zq_d eX10_isPerson 7 rfl) (s_X10_isFromTo G N z j X _ _ _) zd_X10_isFromTo zl_RX10_98 rfl rfl (Nat.le_of_ble_eq_true rfl) (Nat.le_of_ble_eq_true rfl) (Nat.le_of_ble_eq_true rfl) ⟨Nat.le_refl _, Nat.le_refl _⟩ (fun v1 => ?_)
  exact zr_zreturnG (pc := 14) (zq_d eX10_isPerson 8 rfl) rfl rfl (Nat.zero_le _) (Nat.zero_le _)
def f_X10_holding (N j : Nat) (X : zq_M)  : Option Nat :=
  (f_X10_isFromTo N j X (X.1 1 14) (0 : Int32) ((X.1 0 6) - (1 : Int32))).bind (fun v1 => if v1 = 0 then (some 23) else (zq_ck (X.1 1 14) 6 (zq_nn (X.2.2 22 (zq_ix (X.1 1 14))) (zq_ho (zq_shX j)) (fun h2 => some h2))))
set_option maxRecDepth 20000 in
set_option maxHeartbeats 8000000 in
theorem s_X10_holding (G : zq_G) (N z j : Nat) (X : zq_M)  : zq_V G YX10_holding (2, 0, 0) (zq_er G (zq_shX j) z X) 0 0 0 (lv_args 0 [.ref (zq_ad G 0)]) [] (zq_shX j) z X (f_X10_holding N j X ) := by
  unfold f_X10_holding
  refine zr_lo (l2 := [(0, .ref (zq_ad G 0))]) [0] rfl ?_
  refine zr_aload_n (pc := 0) (zq_d eX10_holding 0 rfl) 0 rfl rfl ?_
  refine zr_getC (pc := 1) (zq_d eX10_holding 1 rfl) zf_RX10_12 (kx_0_0 j) ?_
  refine zr_getI (pc := 4) (zq_d eX10_holding 2 rfl) zf_RX10_158 (kx_1_14 j) ?_
  refine zr_iconst (pc := 7) (zq_d eX10_holding 3 rfl) zc_i0 ?_
  refine zr_aload_n (pc := 8) (zq_d eX10_holding 4 rfl) 0 rfl rfl ?_
  refine zr_getI (pc := 9) (zq_d eX10_holding 5 rfl) zf_RX10_151 (kx_0_6 j) ?_
  refine zr_iconst (pc := 12) (zq_d eX10_holding 6 rfl) zc_i1 ?_
  refine zr_isub (pc := 13) (zq_d eX10_holding 7 rfl) ?_
  refine zr_Si (pc := 14) [_, _, _] (zq_d eX10_holding 8 rfl) (s_X10_isFromTo G N z j X _ _ _) zd_X10_isFromTo zl_RX10_98 rfl rfl (Nat.le_of_ble_eq_true rfl) (Nat.le_of_ble_eq_true rfl) (Nat.le_of_ble_eq_true rfl) ⟨Nat.le_refl _, Nat.le_refl _⟩ (fun v1 => ?_)
  refine zr_if_eq (pc := 17) 35 (zq_d eX10_holding 9 rfl) (by decide) (fun _ => ?_) (fun _ => ?_)
  · refine zr_aload_n (pc := 35) (zq_d eX10_holding 17 rfl) 0 rfl rfl ?_
    refine zr_getC (pc := 36) (zq_d eX10_holding 18 rfl) zf_RX10_32 (kx_0_7 j) ?_
    exact zr_areturn (pc := 39) (zq_d eX10_holding 19 rfl) rfl rfl (Nat.zero_le _) (Nat.zero_le _)
  · refine zr_aload_n (pc := 20) (zq_d eX10_holding 10 rfl) 0 rfl rfl ?_
    refine zr_getC (pc := 21) (zq_d eX10_holding 11 rfl) zf_RX10_27 (kx_0_5 j) ?_
    refine zr_aload_n (pc := 24) (zq_d eX10_holding 12 rfl) 0 rfl rfl ?_
    refine zr_getC (pc := 25) (zq_d eX10_holding 13 rfl) zf_RX10_12 (kx_0_0 j) ?_
    refine zr_getI (pc := 28) (zq_d eX10_holding 14 rfl) zf_RX10_158 (kx_1_14 j) ?_
    refine zr_aald (pc := 31) (zq_d eX10_holding 15 rfl) (ax_22 j) rfl (fun _ _ _ => rfl) (fun h2 gh2 => ?_)
    refine zr_goto (pc := 32) 39 (zq_d eX10_holding 16 rfl) (by decide) ?_
    exact zr_areturn (pc := 39) (zq_d eX10_holding 19 rfl) rfl rfl (Nat.zero_le _) (Nat.zero_le _)
def f_X10_speakersNow (N j : Nat) (X : zq_M) (a1 : Int32) : Option (Int32 × zq_M) :=
  (f_X10_holding N j X).bind (fun h1 => zq_gd (zq_ho (zq_shX j) h1) ((f_X6_look N j X h1).bind (fun X2 => (f_X5_whoIsAt N j X2 1 a1).bind (fun v3 => (f_X6_speakers N j X2 a1 v3 (X2.1 1 7)).bind (zq_p (fun v4 X5 => some (v4, X5)))))))
set_option maxRecDepth 20000 in
set_option maxHeartbeats 8000000 in
theorem s_X10_speakersNow (G : zq_G) (N z j : Nat) (X : zq_M) (a1 : Int32) : zq_V G YX10_speakersNow (4, 0, 0) (zq_si (zq_shX j) z) 0 0 0 (lv_args 0 [.ref (zq_ad G 0), .int a1]) [] (zq_shX j) z X (f_X10_speakersNow N j X a1) := by
  unfold f_X10_speakersNow
  refine zr_lo (l2 := [(0, .ref (zq_ad G 0)), (1, .int a1)]) [0, 1] rfl ?_
  refine zr_aload_n (pc := 0) (zq_d eX10_speakersNow 0 rfl) 0 rfl rfl ?_
  refine zr_getC (pc := 1) (zq_d eX10_speakersNow 1 rfl) zf_RX10_48 (kx_0_9 j) ?_
  refine zr_aload_n (pc := 4) (zq_d eX10_speakersNow 2 rfl) 0 rfl rfl ?_
  refine zr_Vr (pc := 5) [] (zq_d eX10_speakersNow 3 rfl) (s_X10_holding G N z j X ) zd_X10_holding zl_RX10_161 (ox_0 j) rfl rfl rfl rfl (Nat.le_of_ble_eq_true rfl) (Nat.le_of_ble_eq_true rfl) (Nat.le_of_ble_eq_true rfl) ⟨Nat.le_refl _, Nat.le_refl _⟩ (fun h1 => zr_gd (fun gh1 => ?_))
  refine zr_Vv (pc := 8) [_] (zq_d eX10_speakersNow 4 rfl) (s_X6_look G N z j X h1 gh1) zd_X6_look zl_RX10_254 (ox_35 j) rfl rfl rfl rfl (Nat.le_of_ble_eq_true rfl) (Nat.le_of_ble_eq_true rfl) (Nat.le_of_ble_eq_true rfl) ⟨Nat.le_refl _, Nat.le_refl _⟩ (fun X2 => ?_)
  refine zr_aload_n (pc := 11) (zq_d eX10_speakersNow 5 rfl) 0 rfl rfl ?_
  refine zr_getC (pc := 12) (zq_d eX10_speakersNow 6 rfl) zf_RX10_48 (kx_0_9 j) ?_
  refine zr_iload_n (pc := 15) (zq_d eX10_speakersNow 7 rfl) 1 rfl rfl ?_
  refine zr_aload_n (pc := 16) (zq_d eX10_speakersNow 8 rfl) 0 rfl rfl ?_
  refine zr_getC (pc := 17) (zq_d eX10_speakersNow 9 rfl) zf_RX10_12 (kx_0_0 j) ?_
  refine zr_iload_n (pc := 20) (zq_d eX10_speakersNow 10 rfl) 1 rfl rfl ?_
  refine zr_Vi (pc := 21) [_] (zq_d eX10_speakersNow 11 rfl) (s_X5_whoIsAt G N z j X2 1 (zsc_1 j) _) zd_X5_whoIsAt zl_RX10_141 (ox_1 j) rfl rfl rfl rfl (Nat.le_of_ble_eq_true rfl) (Nat.le_of_ble_eq_true rfl) (Nat.le_of_ble_eq_true rfl) ⟨Nat.le_refl _, Nat.le_refl _⟩ (fun v3 => ?_)
  refine zr_aload_n (pc := 24) (zq_d eX10_speakersNow 12 rfl) 0 rfl rfl ?_
  refine zr_getC (pc := 25) (zq_d eX10_speakersNow 13 rfl) zf_RX10_12 (kx_0_0 j) ?_
  refine zr_getI (pc := 28) (zq_d eX10_speakersNow 14 rfl) zf_RX10_168 (kx_1_7 j) ?_
  refine zr_Wsi (pc := 31) [_, _, _] (zq_d eX10_speakersNow 15 rfl) (s_X6_speakers G N z j X2 _ _ _) zd_X6_speakers zl_RX10_331 (ox_35 j) rfl rfl rfl rfl (Nat.le_of_ble_eq_true rfl) (Nat.le_of_ble_eq_true rfl) (Nat.le_of_ble_eq_true rfl) ⟨Nat.le_refl _, Nat.le_refl _⟩ (fun v4 X5 => ?_)
  exact zr_ireturn (pc := 34) (zq_d eX10_speakersNow 16 rfl) rfl rfl (Nat.zero_le _) (Nat.zero_le _)
def f_X10_maySpeakNow (N j : Nat) (X : zq_M) (a1 : Int32) : Option (Int32 × zq_M) :=
  zq_ck a1 5 ((f_X10_speakersNow N j X (X.1 4 (zq_ix a1))).bind (zq_p (fun v1 X2 => if ¬ ((zq_shr v1 a1) &&& (1 : Int32)) = (1 : Int32) then (some ((0 : Int32), X2)) else (some ((1 : Int32), X2)))))
set_option maxRecDepth 20000 in
set_option maxHeartbeats 8000000 in
theorem s_X10_maySpeakNow (G : zq_G) (N z j : Nat) (X : zq_M) (a1 : Int32) : zq_V G YX10_maySpeakNow (5, 0, 0) (zq_si (zq_shX j) z) 0 0 0 (lv_args 0 [.ref (zq_ad G 0), .int a1]) [] (zq_shX j) z X (f_X10_maySpeakNow N j X a1) := by
  unfold f_X10_maySpeakNow
  refine zr_lo (l2 := [(0, .ref (zq_ad G 0)), (1, .int a1)]) [0, 1] rfl ?_
  refine zr_aload_n (pc := 0) (zq_d eX10_maySpeakNow 0 rfl) 0 rfl rfl ?_
  refine zr_aload_n (pc := 1) (zq_d eX10_maySpeakNow 1 rfl) 0 rfl rfl ?_
  refine zr_getC (pc := 2) (zq_d eX10_maySpeakNow 2 rfl) zf_RX10_12 (kx_0_0 j) ?_
  refine zr_getC (pc := 5) (zq_d eX10_maySpeakNow 3 rfl) zf_RX10_123 (kx_1_3 j) ?_
  refine zr_iload_n (pc := 8) (zq_d eX10_maySpeakNow 4 rfl) 1 rfl rfl ?_
  refine zr_iald (pc := 9) (zq_d eX10_maySpeakNow 5 rfl) (ax_4 j) ?_
  refine zr_Wsi (pc := 10) [_] (zq_d eX10_maySpeakNow 6 rfl) (s_X10_speakersNow G N z j X _) zd_X10_speakersNow zl_RX10_145 (ox_0 j) rfl rfl rfl rfl (Nat.le_of_ble_eq_true rfl) (Nat.le_of_ble_eq_true rfl) (Nat.le_of_ble_eq_true rfl) ⟨Nat.le_refl _, Nat.le_refl _⟩ (fun v1 X2 => ?_)
  refine zr_iload_n (pc := 13) (zq_d eX10_maySpeakNow 7 rfl) 1 rfl rfl ?_
  refine zr_ishr (pc := 14) (zq_d eX10_maySpeakNow 8 rfl) ?_
  refine zr_iconst (pc := 15) (zq_d eX10_maySpeakNow 9 rfl) zc_i1 ?_
  refine zr_iand (pc := 16) (zq_d eX10_maySpeakNow 10 rfl) ?_
  refine zr_iconst (pc := 17) (zq_d eX10_maySpeakNow 11 rfl) zc_i1 ?_
  refine zr_icmp_ne (pc := 18) 25 (zq_d eX10_maySpeakNow 12 rfl) (by decide) (fun _ => ?_) (fun _ => ?_)
  · refine zr_iconst (pc := 25) (zq_d eX10_maySpeakNow 15 rfl) zc_i0 ?_
    exact zr_zreturn (pc := 26) (zq_d eX10_maySpeakNow 16 rfl) rfl rfl rfl (Nat.zero_le _) (Nat.zero_le _)
  · refine zr_iconst (pc := 21) (zq_d eX10_maySpeakNow 13 rfl) zc_i1 ?_
    refine zr_goto (pc := 22) 26 (zq_d eX10_maySpeakNow 14 rfl) (by decide) ?_
    exact zr_zreturn (pc := 26) (zq_d eX10_maySpeakNow 16 rfl) rfl rfl rfl (Nat.zero_le _) (Nat.zero_le _)
def f_X10_of (N j : Nat) (X : zq_M) (a1 : Int32) (a2 : Int32) : Option (Int32 × zq_M) :=
  (f_X10_isPerson N j X a1).bind (fun v1 => if ¬ v1 = 0 then (if a2 = (0 : Int32) then (zq_ck a1 5 (some ((X.1 2 (zq_ix a1)), X))) else (if a2 = (1 : Int32) then (zq_ck a1 5 (some ((X.1 3 (zq_ix a1)), X))) else (if a2 = (2 : Int32) then (zq_ck a1 5 (some ((X.1 4 (zq_ix a1)), X))) else (if a2 = (3 : Int32) then (zq_ck a1 5 (some ((X.1 5 (zq_ix a1)), X))) else (if a2 = (4 : Int32) then ((f_X10_maySpeakNow N j X a1).bind (zq_p (fun v2 X3 => if v2 = 0 then (some ((0 : Int32), X3)) else (some ((1 : Int32), X3))))) else (some ((-1 : Int32), X))))))) else (some ((-1 : Int32), X)))
set_option maxRecDepth 20000 in
set_option maxHeartbeats 8000000 in
theorem s_X10_of (G : zq_G) (N z j : Nat) (X : zq_M) (a1 : Int32) (a2 : Int32) : zq_V G YX10_of (6, 0, 0) (zq_si (zq_shX j) z) 0 0 0 (lv_args 0 [.ref (zq_ad G 0), .int a1, .int a2]) [] (zq_shX j) z X (f_X10_of N j X a1 a2) := by
  unfold f_X10_of
  refine zr_lo (l2 := [(0, .ref (zq_ad G 0)), (1, .int a1), (2, .int a2)]) [0, 1, 2] rfl ?_
  refine zr_aload_n (pc := 0) (zq_d eX10_of 0 rfl) 0 rfl rfl ?_
  refine zr_iload_n (pc := 1) (zq_d eX10_of 1 rfl) 1 rfl rfl ?_
  refine zr_Vi (pc := 2) [_] (zq_d eX10_of 2 rfl) (s_X10_isPerson G N z j X _) zd_X10_isPerson zl_RX10_114 (ox_0 j) rfl rfl rfl rfl (Nat.le_of_ble_eq_true rfl) (Nat.le_of_ble_eq_true rfl) (Nat.le_of_ble_eq_true rfl) ⟨Nat.le_refl _, Nat.le_refl _⟩ (fun v1 => ?_)
  refine zr_if_ne (pc := 5) 10 (zq_d eX10_of 3 rfl) (by decide) (fun _ => ?_) (fun _ => ?_)
  · refine zr_iload_n (pc := 10) (zq_d eX10_of 6 rfl) 2 rfl rfl ?_
    refine zr_cs (fun q1 => ?_) (fun q1 => ?_)
    · refine zr_tab (pc := 11) (n := 0) 44 (zq_d eX10_of 7 rfl) q1 (by decide) (by decide) (by decide) rfl (by decide) ?_
      refine zr_aload_n (pc := 44) (zq_d eX10_of 8 rfl) 0 rfl rfl ?_
      refine zr_getC (pc := 45) (zq_d eX10_of 9 rfl) zf_RX10_12 (kx_0_0 j) ?_
      refine zr_getC (pc := 48) (zq_d eX10_of 10 rfl) zf_RX10_117 (kx_1_1 j) ?_
      refine zr_iload_n (pc := 51) (zq_d eX10_of 11 rfl) 1 rfl rfl ?_
      refine zr_iald (pc := 52) (zq_d eX10_of 12 rfl) (ax_2 j) ?_
      exact zr_ireturn (pc := 53) (zq_d eX10_of 13 rfl) rfl rfl (Nat.zero_le _) (Nat.zero_le _)
    · refine zr_cs (fun q2 => ?_) (fun q2 => ?_)
      · refine zr_tab (pc := 11) (n := 1) 54 (zq_d eX10_of 7 rfl) q2 (by decide) (by decide) (by decide) rfl (by decide) ?_
        refine zr_aload_n (pc := 54) (zq_d eX10_of 14 rfl) 0 rfl rfl ?_
        refine zr_getC (pc := 55) (zq_d eX10_of 15 rfl) zf_RX10_12 (kx_0_0 j) ?_
        refine zr_getC (pc := 58) (zq_d eX10_of 16 rfl) zf_RX10_120 (kx_1_2 j) ?_
        refine zr_iload_n (pc := 61) (zq_d eX10_of 17 rfl) 1 rfl rfl ?_
        refine zr_iald (pc := 62) (zq_d eX10_of 18 rfl) (ax_3 j) ?_
        exact zr_ireturn (pc := 63) (zq_d eX10_of 19 rfl) rfl rfl (Nat.zero_le _) (Nat.zero_le _)
      · refine zr_cs (fun q3 => ?_) (fun q3 => ?_)
        · refine zr_tab (pc := 11) (n := 2) 64 (zq_d eX10_of 7 rfl) q3 (by decide) (by decide) (by decide) rfl (by decide) ?_
          refine zr_aload_n (pc := 64) (zq_d eX10_of 20 rfl) 0 rfl rfl ?_
          refine zr_getC (pc := 65) (zq_d eX10_of 21 rfl) zf_RX10_12 (kx_0_0 j) ?_
          refine zr_getC (pc := 68) (zq_d eX10_of 22 rfl) zf_RX10_123 (kx_1_3 j) ?_
          refine zr_iload_n (pc := 71) (zq_d eX10_of 23 rfl) 1 rfl rfl ?_
          refine zr_iald (pc := 72) (zq_d eX10_of 24 rfl) (ax_4 j) ?_
          exact zr_ireturn (pc := 73) (zq_d eX10_of 25 rfl) rfl rfl (Nat.zero_le _) (Nat.zero_le _)
        · refine zr_cs (fun q4 => ?_) (fun q4 => ?_)
          · refine zr_tab (pc := 11) (n := 3) 74 (zq_d eX10_of 7 rfl) q4 (by decide) (by decide) (by decide) rfl (by decide) ?_
            refine zr_aload_n (pc := 74) (zq_d eX10_of 26 rfl) 0 rfl rfl ?_
            refine zr_getC (pc := 75) (zq_d eX10_of 27 rfl) zf_RX10_12 (kx_0_0 j) ?_
            refine zr_getC (pc := 78) (zq_d eX10_of 28 rfl) zf_RX10_126 (kx_1_4 j) ?_
            refine zr_iload_n (pc := 81) (zq_d eX10_of 29 rfl) 1 rfl rfl ?_
            refine zr_iald (pc := 82) (zq_d eX10_of 30 rfl) (ax_5 j) ?_
            exact zr_ireturn (pc := 83) (zq_d eX10_of 31 rfl) rfl rfl (Nat.zero_le _) (Nat.zero_le _)
          · refine zr_cs (fun q5 => ?_) (fun q5 => ?_)
            · refine zr_tab (pc := 11) (n := 4) 84 (zq_d eX10_of 7 rfl) q5 (by decide) (by decide) (by decide) rfl (by decide) ?_
              refine zr_aload_n (pc := 84) (zq_d eX10_of 32 rfl) 0 rfl rfl ?_
              refine zr_iload_n (pc := 85) (zq_d eX10_of 33 rfl) 1 rfl rfl ?_
              refine zr_Wsi (pc := 86) [_] (zq_d eX10_of 34 rfl) (s_X10_maySpeakNow G N z j X _) zd_X10_maySpeakNow zl_RX10_129 (ox_0 j) rfl rfl rfl rfl (Nat.le_of_ble_eq_true rfl) (Nat.le_of_ble_eq_true rfl) (Nat.le_of_ble_eq_true rfl) ⟨Nat.le_refl _, Nat.le_refl _⟩ (fun v2 X3 => ?_)
              refine zr_if_eq (pc := 89) 96 (zq_d eX10_of 35 rfl) (by decide) (fun _ => ?_) (fun _ => ?_)
              · refine zr_iconst (pc := 96) (zq_d eX10_of 38 rfl) zc_i0 ?_
                exact zr_ireturn (pc := 97) (zq_d eX10_of 39 rfl) rfl rfl (Nat.zero_le _) (Nat.zero_le _)
              · refine zr_iconst (pc := 92) (zq_d eX10_of 36 rfl) zc_i1 ?_
                refine zr_goto (pc := 93) 97 (zq_d eX10_of 37 rfl) (by decide) ?_
                exact zr_ireturn (pc := 97) (zq_d eX10_of 39 rfl) rfl rfl (Nat.zero_le _) (Nat.zero_le _)
            · refine zr_tabD (pc := 11) 98 (zq_d eX10_of 7 rfl) (by have t0 := zq_nt (n := 0) (by decide) q1; have t1 := zq_nt (n := 1) (by decide) q2; have t2 := zq_nt (n := 2) (by decide) q3; have t3 := zq_nt (n := 3) (by decide) q4; have t4 := zq_nt (n := 4) (by decide) q5; omega) (by decide) ?_
              refine zr_iconst (pc := 98) (zq_d eX10_of 40 rfl) zc_im1 ?_
              exact zr_ireturn (pc := 99) (zq_d eX10_of 41 rfl) rfl rfl (Nat.zero_le _) (Nat.zero_le _)
  · refine zr_iconst (pc := 8) (zq_d eX10_of 4 rfl) zc_im1 ?_
    exact zr_ireturn (pc := 9) (zq_d eX10_of 5 rfl) rfl rfl (Nat.zero_le _) (Nat.zero_le _)
def f_X10_learn (N j : Nat) (X : zq_M) (a1 : Int32) (a2 : Int32) : Option (Int32 × zq_M) :=
  (f_X10_isPerson N j X a1).bind (fun v1 => if ¬ v1 = 0 then ((f_X10_isFromTo N j X a2 (0 : Int32) (255 : Int32)).bind (fun v2 => if ¬ v2 = 0 then (zq_ck a1 5 (zq_ck a1 5 (zq_b (zq_u1 X 5 (zq_ix a1) a2) (fun X3 => some ((X.1 5 (zq_ix a1)), X3))))) else (some ((-2 : Int32), X)))) else (some ((-1 : Int32), X)))
set_option maxRecDepth 20000 in
set_option maxHeartbeats 8000000 in
theorem s_X10_learn (G : zq_G) (N z j : Nat) (X : zq_M) (a1 : Int32) (a2 : Int32) : zq_V G YX10_learn (3, 0, 0) (zq_si (zq_shX j) z) 0 0 0 (lv_args 0 [.ref (zq_ad G 0), .int a1, .int a2]) [] (zq_shX j) z X (f_X10_learn N j X a1 a2) := by
  unfold f_X10_learn
  refine zr_lo (l2 := [(0, .ref (zq_ad G 0)), (1, .int a1), (2, .int a2)]) [0, 1, 2] rfl ?_
  refine zr_aload_n (pc := 0) (zq_d eX10_learn 0 rfl) 0 rfl rfl ?_
  refine zr_iload_n (pc := 1) (zq_d eX10_learn 1 rfl) 1 rfl rfl ?_
  refine zr_Vi (pc := 2) [_] (zq_d eX10_learn 2 rfl) (s_X10_isPerson G N z j X _) zd_X10_isPerson zl_RX10_114 (ox_0 j) rfl rfl rfl rfl (Nat.le_of_ble_eq_true rfl) (Nat.le_of_ble_eq_true rfl) (Nat.le_of_ble_eq_true rfl) ⟨Nat.le_refl _, Nat.le_refl _⟩ (fun v1 => ?_)
  refine zr_if_ne (pc := 5) 10 (zq_d eX10_learn 3 rfl) (by decide) (fun _ => ?_) (fun _ => ?_)
  · refine zr_iload_n (pc := 10) (zq_d eX10_learn 6 rfl) 2 rfl rfl ?_
    refine zr_iconst (pc := 11) (zq_d eX10_learn 7 rfl) zc_i0 ?_
    refine zr_sipush (pc := 12) (zq_d eX10_learn 8 rfl) zc_s255 ?_
    refine zr_Si (pc := 15) [_, _, _] (zq_d eX10_learn 9 rfl) (s_X10_isFromTo G N z j X _ _ _) zd_X10_isFromTo zl_RX10_98 rfl rfl (Nat.le_of_ble_eq_true rfl) (Nat.le_of_ble_eq_true rfl) (Nat.le_of_ble_eq_true rfl) ⟨Nat.le_refl _, Nat.le_refl _⟩ (fun v2 => ?_)
    refine zr_if_ne (pc := 18) 24 (zq_d eX10_learn 10 rfl) (by decide) (fun _ => ?_) (fun _ => ?_)
    · refine zr_aload_n (pc := 24) (zq_d eX10_learn 13 rfl) 0 rfl rfl ?_
      refine zr_getC (pc := 25) (zq_d eX10_learn 14 rfl) zf_RX10_12 (kx_0_0 j) ?_
      refine zr_getC (pc := 28) (zq_d eX10_learn 15 rfl) zf_RX10_126 (kx_1_4 j) ?_
      refine zr_iload_n (pc := 31) (zq_d eX10_learn 16 rfl) 1 rfl rfl ?_
      refine zr_iald (pc := 32) (zq_d eX10_learn 17 rfl) (ax_5 j) ?_
      refine zr_istore_n (pc := 33) (lo2 := [(3, .int (X.1 5 (zq_ix a1))), (0, .ref (zq_ad G 0)), (1, .int a1), (2, .int a2)]) (zq_d eX10_learn 18 rfl) rfl (Nat.le_of_ble_eq_true rfl) rfl ?_
      refine zr_aload_n (pc := 34) (zq_d eX10_learn 19 rfl) 1 rfl rfl ?_
      refine zr_getC (pc := 35) (zq_d eX10_learn 20 rfl) zf_RX10_12 (kx_0_0 j) ?_
      refine zr_getC (pc := 38) (zq_d eX10_learn 21 rfl) zf_RX10_126 (kx_1_4 j) ?_
      refine zr_iload_n (pc := 41) (zq_d eX10_learn 22 rfl) 2 rfl rfl ?_
      refine zr_iload_n (pc := 42) (zq_d eX10_learn 23 rfl) 3 rfl rfl ?_
      refine zr_iast (pc := 43) (zq_d eX10_learn 24 rfl) (ax_5 j) (fun X3 => ?_)
      refine zr_iload_n (pc := 44) (zq_d eX10_learn 25 rfl) 0 rfl rfl ?_
      exact zr_ireturn (pc := 45) (zq_d eX10_learn 26 rfl) rfl rfl (Nat.zero_le _) (Nat.zero_le _)
    · refine zr_bipush (pc := 21) (zq_d eX10_learn 11 rfl) zc_bm2 ?_
      exact zr_ireturn (pc := 23) (zq_d eX10_learn 12 rfl) rfl rfl (Nat.zero_le _) (Nat.zero_le _)
  · refine zr_iconst (pc := 8) (zq_d eX10_learn 4 rfl) zc_im1 ?_
    exact zr_ireturn (pc := 9) (zq_d eX10_learn 5 rfl) rfl rfl (Nat.zero_le _) (Nat.zero_le _)
def f_X10_room (N j : Nat) (X : zq_M) (a1 : Int32) (a2 : Int32) (a3 : Int32) : Option (Int32 × zq_M) :=
  (f_X10_isRoom N j X a1).bind (fun v1 => if v1 = 0 then (some ((-1 : Int32), X)) else ((f_X10_isFromTo N j X a2 (0 : Int32) (6 : Int32)).bind (fun v2 => if ¬ v2 = 0 then ((f_X10_isFromTo N j X a3 (0 : Int32) (9 : Int32)).bind (fun v3 => if ¬ v3 = 0 then (zq_ck a1 3 (zq_ck a1 3 (zq_b (zq_u1 X 6 (zq_ix a1) a2) (fun X4 => zq_ck a1 3 (zq_b (zq_u1 X4 7 (zq_ix a1) a3) (fun X5 => some ((X.1 6 (zq_ix a1)), X5))))))) else (some ((-2 : Int32), X)))) else (some ((-1 : Int32), X)))))
set_option maxRecDepth 20000 in
set_option maxHeartbeats 8000000 in
theorem s_X10_room (G : zq_G) (N z j : Nat) (X : zq_M) (a1 : Int32) (a2 : Int32) (a3 : Int32) : zq_V G YX10_room (3, 0, 0) (zq_si (zq_shX j) z) 0 0 0 (lv_args 0 [.ref (zq_ad G 0), .int a1, .int a2, .int a3]) [] (zq_shX j) z X (f_X10_room N j X a1 a2 a3) := by
  unfold f_X10_room
  refine zr_lo (l2 := [(0, .ref (zq_ad G 0)), (1, .int a1), (2, .int a2), (3, .int a3)]) [0, 1, 2, 3] rfl ?_
  refine zr_iload_n (pc := 0) (zq_d eX10_room 0 rfl) 1 rfl rfl ?_
  refine zr_Si (pc := 1) [_] (zq_d eX10_room 1 rfl) (s_X10_isRoom G N z j X _) zd_X10_isRoom zl_RX10_132 rfl rfl (Nat.le_of_ble_eq_true rfl) (Nat.le_of_ble_eq_true rfl) (Nat.le_of_ble_eq_true rfl) ⟨Nat.le_refl _, Nat.le_refl _⟩ (fun v1 => ?_)
  refine zr_if_eq (pc := 4) 17 (zq_d eX10_room 2 rfl) (by decide) (fun _ => ?_) (fun _ => ?_)
  · refine zr_iconst (pc := 17) (zq_d eX10_room 8 rfl) zc_im1 ?_
    exact zr_ireturn (pc := 18) (zq_d eX10_room 9 rfl) rfl rfl (Nat.zero_le _) (Nat.zero_le _)
  · refine zr_iload_n (pc := 7) (zq_d eX10_room 3 rfl) 2 rfl rfl ?_
    refine zr_iconst (pc := 8) (zq_d eX10_room 4 rfl) zc_i0 ?_
    refine zr_bipush (pc := 9) (zq_d eX10_room 5 rfl) zc_b6 ?_
    refine zr_Si (pc := 11) [_, _, _] (zq_d eX10_room 6 rfl) (s_X10_isFromTo G N z j X _ _ _) zd_X10_isFromTo zl_RX10_98 rfl rfl (Nat.le_of_ble_eq_true rfl) (Nat.le_of_ble_eq_true rfl) (Nat.le_of_ble_eq_true rfl) ⟨Nat.le_refl _, Nat.le_refl _⟩ (fun v2 => ?_)
    refine zr_if_ne (pc := 14) 19 (zq_d eX10_room 7 rfl) (by decide) (fun _ => ?_) (fun _ => ?_)
    · refine zr_iload_n (pc := 19) (zq_d eX10_room 10 rfl) 3 rfl rfl ?_
      refine zr_iconst (pc := 20) (zq_d eX10_room 11 rfl) zc_i0 ?_
      refine zr_bipush (pc := 21) (zq_d eX10_room 12 rfl) zc_b9 ?_
      refine zr_Si (pc := 23) [_, _, _] (zq_d eX10_room 13 rfl) (s_X10_isFromTo G N z j X _ _ _) zd_X10_isFromTo zl_RX10_98 rfl rfl (Nat.le_of_ble_eq_true rfl) (Nat.le_of_ble_eq_true rfl) (Nat.le_of_ble_eq_true rfl) ⟨Nat.le_refl _, Nat.le_refl _⟩ (fun v3 => ?_)
      refine zr_if_ne (pc := 26) 32 (zq_d eX10_room 14 rfl) (by decide) (fun _ => ?_) (fun _ => ?_)
      · refine zr_aload_n (pc := 32) (zq_d eX10_room 17 rfl) 0 rfl rfl ?_
        refine zr_getC (pc := 33) (zq_d eX10_room 18 rfl) zf_RX10_12 (kx_0_0 j) ?_
        refine zr_getC (pc := 36) (zq_d eX10_room 19 rfl) zf_RX10_135 (kx_1_5 j) ?_
        refine zr_iload_n (pc := 39) (zq_d eX10_room 20 rfl) 1 rfl rfl ?_
        refine zr_iald (pc := 40) (zq_d eX10_room 21 rfl) (ax_6 j) ?_
        refine zr_istore (pc := 41) (lo2 := [(4, .int (X.1 6 (zq_ix a1))), (0, .ref (zq_ad G 0)), (1, .int a1), (2, .int a2), (3, .int a3)]) (zq_d eX10_room 22 rfl) (Nat.le_of_ble_eq_true rfl) rfl ?_
        refine zr_aload_n (pc := 43) (zq_d eX10_room 23 rfl) 1 rfl rfl ?_
        refine zr_getC (pc := 44) (zq_d eX10_room 24 rfl) zf_RX10_12 (kx_0_0 j) ?_
        refine zr_getC (pc := 47) (zq_d eX10_room 25 rfl) zf_RX10_135 (kx_1_5 j) ?_
        refine zr_iload_n (pc := 50) (zq_d eX10_room 26 rfl) 2 rfl rfl ?_
        refine zr_iload_n (pc := 51) (zq_d eX10_room 27 rfl) 3 rfl rfl ?_
        refine zr_iast (pc := 52) (zq_d eX10_room 28 rfl) (ax_6 j) (fun X4 => ?_)
        refine zr_aload_n (pc := 53) (zq_d eX10_room 29 rfl) 1 rfl rfl ?_
        refine zr_getC (pc := 54) (zq_d eX10_room 30 rfl) zf_RX10_12 (kx_0_0 j) ?_
        refine zr_getC (pc := 57) (zq_d eX10_room 31 rfl) zf_RX10_138 (kx_1_6 j) ?_
        refine zr_iload_n (pc := 60) (zq_d eX10_room 32 rfl) 2 rfl rfl ?_
        refine zr_iload_n (pc := 61) (zq_d eX10_room 33 rfl) 4 rfl rfl ?_
        refine zr_iast (pc := 62) (zq_d eX10_room 34 rfl) (ax_7 j) (fun X5 => ?_)
        refine zr_iload (pc := 63) (zq_d eX10_room 35 rfl) 0 rfl ?_
        exact zr_ireturn (pc := 65) (zq_d eX10_room 36 rfl) rfl rfl (Nat.zero_le _) (Nat.zero_le _)
      · refine zr_bipush (pc := 29) (zq_d eX10_room 15 rfl) zc_bm2 ?_
        exact zr_ireturn (pc := 31) (zq_d eX10_room 16 rfl) rfl rfl (Nat.zero_le _) (Nat.zero_le _)
    · refine zr_iconst (pc := 17) (zq_d eX10_room 8 rfl) zc_im1 ?_
      exact zr_ireturn (pc := 18) (zq_d eX10_room 9 rfl) rfl rfl (Nat.zero_le _) (Nat.zero_le _)
def f_X10_inside (N j : Nat) (X : zq_M) (a1 : Int32) (a2 : Int32) : Option (Int32 × zq_M) :=
  (f_X10_isRoom N j X a1).bind (fun v1 => if ¬ v1 = 0 then (if a2 = (0 : Int32) then (zq_ck a1 3 (some ((X.1 6 (zq_ix a1)), X))) else (if a2 = (1 : Int32) then (zq_ck a1 3 (some ((X.1 7 (zq_ix a1)), X))) else (if a2 = (2 : Int32) then ((f_X5_whoIsAt N j X 1 a1).bind (fun v4 => some (v4, X))) else (if a2 = (3 : Int32) then ((f_X10_speakersNow N j X a1).bind (zq_p (fun v2 X3 => some (v2, X3)))) else (some ((-1 : Int32), X)))))) else (some ((-1 : Int32), X)))
set_option maxRecDepth 20000 in
set_option maxHeartbeats 8000000 in
theorem s_X10_inside (G : zq_G) (N z j : Nat) (X : zq_M) (a1 : Int32) (a2 : Int32) : zq_V G YX10_inside (5, 0, 0) (zq_si (zq_shX j) z) 0 0 0 (lv_args 0 [.ref (zq_ad G 0), .int a1, .int a2]) [] (zq_shX j) z X (f_X10_inside N j X a1 a2) := by
  unfold f_X10_inside
  refine zr_lo (l2 := [(0, .ref (zq_ad G 0)), (1, .int a1), (2, .int a2)]) [0, 1, 2] rfl ?_
  refine zr_iload_n (pc := 0) (zq_d eX10_inside 0 rfl) 1 rfl rfl ?_
  refine zr_Si (pc := 1) [_] (zq_d eX10_inside 1 rfl) (s_X10_isRoom G N z j X _) zd_X10_isRoom zl_RX10_132 rfl rfl (Nat.le_of_ble_eq_true rfl) (Nat.le_of_ble_eq_true rfl) (Nat.le_of_ble_eq_true rfl) ⟨Nat.le_refl _, Nat.le_refl _⟩ (fun v1 => ?_)
  refine zr_if_ne (pc := 4) 9 (zq_d eX10_inside 2 rfl) (by decide) (fun _ => ?_) (fun _ => ?_)
  · refine zr_iload_n (pc := 9) (zq_d eX10_inside 5 rfl) 2 rfl rfl ?_
    refine zr_cs (fun q1 => ?_) (fun q1 => ?_)
    · refine zr_tab (pc := 10) (n := 0) 40 (zq_d eX10_inside 6 rfl) q1 (by decide) (by decide) (by decide) rfl (by decide) ?_
      refine zr_aload_n (pc := 40) (zq_d eX10_inside 7 rfl) 0 rfl rfl ?_
      refine zr_getC (pc := 41) (zq_d eX10_inside 8 rfl) zf_RX10_12 (kx_0_0 j) ?_
      refine zr_getC (pc := 44) (zq_d eX10_inside 9 rfl) zf_RX10_135 (kx_1_5 j) ?_
      refine zr_iload_n (pc := 47) (zq_d eX10_inside 10 rfl) 1 rfl rfl ?_
      refine zr_iald (pc := 48) (zq_d eX10_inside 11 rfl) (ax_6 j) ?_
      exact zr_ireturn (pc := 49) (zq_d eX10_inside 12 rfl) rfl rfl (Nat.zero_le _) (Nat.zero_le _)
    · refine zr_cs (fun q2 => ?_) (fun q2 => ?_)
      · refine zr_tab (pc := 10) (n := 1) 50 (zq_d eX10_inside 6 rfl) q2 (by decide) (by decide) (by decide) rfl (by decide) ?_
        refine zr_aload_n (pc := 50) (zq_d eX10_inside 13 rfl) 0 rfl rfl ?_
        refine zr_getC (pc := 51) (zq_d eX10_inside 14 rfl) zf_RX10_12 (kx_0_0 j) ?_
        refine zr_getC (pc := 54) (zq_d eX10_inside 15 rfl) zf_RX10_138 (kx_1_6 j) ?_
        refine zr_iload_n (pc := 57) (zq_d eX10_inside 16 rfl) 1 rfl rfl ?_
        refine zr_iald (pc := 58) (zq_d eX10_inside 17 rfl) (ax_7 j) ?_
        exact zr_ireturn (pc := 59) (zq_d eX10_inside 18 rfl) rfl rfl (Nat.zero_le _) (Nat.zero_le _)
      · refine zr_cs (fun q3 => ?_) (fun q3 => ?_)
        · refine zr_tab (pc := 10) (n := 2) 60 (zq_d eX10_inside 6 rfl) q3 (by decide) (by decide) (by decide) rfl (by decide) ?_
          refine zr_aload_n (pc := 60) (zq_d eX10_inside 19 rfl) 0 rfl rfl ?_
          refine zr_getC (pc := 61) (zq_d eX10_inside 20 rfl) zf_RX10_12 (kx_0_0 j) ?_
          refine zr_iload_n (pc := 64) (zq_d eX10_inside 21 rfl) 1 rfl rfl ?_
          refine zr_Vi (pc := 65) [_] (zq_d eX10_inside 22 rfl) (s_X5_whoIsAt G N z j X 1 (zsc_1 j) _) zd_X5_whoIsAt zl_RX10_141 (ox_1 j) rfl rfl rfl rfl (Nat.le_of_ble_eq_true rfl) (Nat.le_of_ble_eq_true rfl) (Nat.le_of_ble_eq_true rfl) ⟨Nat.le_refl _, Nat.le_refl _⟩ (fun v4 => ?_)
          exact zr_ireturn (pc := 68) (zq_d eX10_inside 23 rfl) rfl rfl (Nat.zero_le _) (Nat.zero_le _)
        · refine zr_cs (fun q4 => ?_) (fun q4 => ?_)
          · refine zr_tab (pc := 10) (n := 3) 69 (zq_d eX10_inside 6 rfl) q4 (by decide) (by decide) (by decide) rfl (by decide) ?_
            refine zr_aload_n (pc := 69) (zq_d eX10_inside 24 rfl) 0 rfl rfl ?_
            refine zr_iload_n (pc := 70) (zq_d eX10_inside 25 rfl) 1 rfl rfl ?_
            refine zr_Wsi (pc := 71) [_] (zq_d eX10_inside 26 rfl) (s_X10_speakersNow G N z j X _) zd_X10_speakersNow zl_RX10_145 (ox_0 j) rfl rfl rfl rfl (Nat.le_of_ble_eq_true rfl) (Nat.le_of_ble_eq_true rfl) (Nat.le_of_ble_eq_true rfl) ⟨Nat.le_refl _, Nat.le_refl _⟩ (fun v2 X3 => ?_)
            exact zr_ireturn (pc := 74) (zq_d eX10_inside 27 rfl) rfl rfl (Nat.zero_le _) (Nat.zero_le _)
          · refine zr_tabD (pc := 10) 75 (zq_d eX10_inside 6 rfl) (by have t0 := zq_nt (n := 0) (by decide) q1; have t1 := zq_nt (n := 1) (by decide) q2; have t2 := zq_nt (n := 2) (by decide) q3; have t3 := zq_nt (n := 3) (by decide) q4; omega) (by decide) ?_
            refine zr_iconst (pc := 75) (zq_d eX10_inside 28 rfl) zc_im1 ?_
            exact zr_ireturn (pc := 76) (zq_d eX10_inside 29 rfl) rfl rfl (Nat.zero_le _) (Nat.zero_le _)
  · refine zr_iconst (pc := 7) (zq_d eX10_inside 3 rfl) zc_im1 ?_
    exact zr_ireturn (pc := 8) (zq_d eX10_inside 4 rfl) rfl rfl (Nat.zero_le _) (Nat.zero_le _)
def f_X10_feed (N j : Nat) (X : zq_M) (a1 : Int32) : Option (Int32 × zq_M) :=
  (f_X10_isFromTo N j X a1 (0 : Int32) (127 : Int32)).bind (fun v1 => if ¬ v1 = 0 then (if (X.1 0 4) < (100 : Int32) then (zq_ck (X.1 0 4) 100 (zq_b (zq_u1 X 21 (zq_ix (X.1 0 4)) a1) (fun X2 => zq_b (zq_u1 X2 0 4 ((X2.1 0 4) + (1 : Int32))) (fun X3 => some ((X3.1 0 4), X3))))) else (some ((-4 : Int32), X))) else (some ((-2 : Int32), X)))
set_option maxRecDepth 20000 in
set_option maxHeartbeats 8000000 in
theorem s_X10_feed (G : zq_G) (N z j : Nat) (X : zq_M) (a1 : Int32) : zq_V G YX10_feed (2, 0, 0) (zq_si (zq_shX j) z) 0 0 0 (lv_args 0 [.ref (zq_ad G 0), .int a1]) [] (zq_shX j) z X (f_X10_feed N j X a1) := by
  unfold f_X10_feed
  refine zr_lo (l2 := [(0, .ref (zq_ad G 0)), (1, .int a1)]) [0, 1] rfl ?_
  refine zr_iload_n (pc := 0) (zq_d eX10_feed 0 rfl) 1 rfl rfl ?_
  refine zr_iconst (pc := 1) (zq_d eX10_feed 1 rfl) zc_i0 ?_
  refine zr_bipush (pc := 2) (zq_d eX10_feed 2 rfl) zc_b127 ?_
  refine zr_Si (pc := 4) [_, _, _] (zq_d eX10_feed 3 rfl) (s_X10_isFromTo G N z j X _ _ _) zd_X10_isFromTo zl_RX10_98 rfl rfl (Nat.le_of_ble_eq_true rfl) (Nat.le_of_ble_eq_true rfl) (Nat.le_of_ble_eq_true rfl) ⟨Nat.le_refl _, Nat.le_refl _⟩ (fun v1 => ?_)
  refine zr_if_ne (pc := 7) 13 (zq_d eX10_feed 4 rfl) (by decide) (fun _ => ?_) (fun _ => ?_)
  · refine zr_aload_n (pc := 13) (zq_d eX10_feed 7 rfl) 0 rfl rfl ?_
    refine zr_getI (pc := 14) (zq_d eX10_feed 8 rfl) zf_RX10_148 (kx_0_4 j) ?_
    refine zr_bipush (pc := 17) (zq_d eX10_feed 9 rfl) zc_b100 ?_
    refine zr_icmp_lt (pc := 19) 25 (zq_d eX10_feed 10 rfl) (by decide) (fun _ => ?_) (fun _ => ?_)
    · refine zr_aload_n (pc := 25) (zq_d eX10_feed 13 rfl) 0 rfl rfl ?_
      refine zr_getC (pc := 26) (zq_d eX10_feed 14 rfl) zf_RX10_21 (kx_0_3 j) ?_
      refine zr_aload_n (pc := 29) (zq_d eX10_feed 15 rfl) 0 rfl rfl ?_
      refine zr_getI (pc := 30) (zq_d eX10_feed 16 rfl) zf_RX10_148 (kx_0_4 j) ?_
      refine zr_iload_n (pc := 33) (zq_d eX10_feed 17 rfl) 1 rfl rfl ?_
      refine zr_iast (pc := 34) (zq_d eX10_feed 18 rfl) (ax_21 j) (fun X2 => ?_)
      refine zr_aload_n (pc := 35) (zq_d eX10_feed 19 rfl) 0 rfl rfl ?_
      refine zr_dup (pc := 36) (zq_d eX10_feed 20 rfl) rfl ?_
      refine zr_getI (pc := 37) (zq_d eX10_feed 21 rfl) zf_RX10_148 (kx_0_4 j) ?_
      refine zr_iconst (pc := 40) (zq_d eX10_feed 22 rfl) zc_i1 ?_
      refine zr_iadd (pc := 41) (zq_d eX10_feed 23 rfl) ?_
      refine zr_putI (pc := 42) (zq_d eX10_feed 24 rfl) zf_RX10_148 (kx_0_4 j) zn_10_4 (fun X3 => ?_)
      refine zr_aload_n (pc := 45) (zq_d eX10_feed 25 rfl) 0 rfl rfl ?_
      refine zr_getI (pc := 46) (zq_d eX10_feed 26 rfl) zf_RX10_148 (kx_0_4 j) ?_
      exact zr_ireturn (pc := 49) (zq_d eX10_feed 27 rfl) rfl rfl (Nat.zero_le _) (Nat.zero_le _)
    · refine zr_bipush (pc := 22) (zq_d eX10_feed 11 rfl) zc_bm4 ?_
      exact zr_ireturn (pc := 24) (zq_d eX10_feed 12 rfl) rfl rfl (Nat.zero_le _) (Nat.zero_le _)
  · refine zr_bipush (pc := 10) (zq_d eX10_feed 5 rfl) zc_bm2 ?_
    exact zr_ireturn (pc := 12) (zq_d eX10_feed 6 rfl) rfl rfl (Nat.zero_le _) (Nat.zero_le _)
def f_X10_house (N j : Nat) (X : zq_M)  : Option (Int32 × zq_M) :=
  if (X.1 0 6) < (6 : Int32) then (zq_ck (X.1 0 6) 6 (zq_nn (X.2.2 22 (zq_ix (X.1 0 6))) (zq_ho (zq_shX j)) (fun h1 => (f_X3_readInto N j X h1 (X.1 0 4)).bind (zq_p (fun v2 X3 => zq_b (zq_u1 X3 0 4 (0 : Int32)) (fun X4 => if v2 < 0 then (zq_b (zq_u1 X4 1 14 (X4.1 0 6)) (fun X5 => zq_b (zq_u1 X5 0 6 ((X5.1 0 6) + (1 : Int32))) (fun X6 => some ((X6.1 1 14), X6)))) else (some (((-10 : Int32) - v2), X4)))))))) else (some ((-4 : Int32), X))
set_option maxRecDepth 20000 in
set_option maxHeartbeats 8000000 in
theorem s_X10_house (G : zq_G) (N z j : Nat) (X : zq_M)  : zq_V G YX10_house (204, 0, 0) (zq_si (zq_shX j) z) 0 0 0 (lv_args 0 [.ref (zq_ad G 0)]) [] (zq_shX j) z X (f_X10_house N j X ) := by
  unfold f_X10_house
  refine zr_lo (l2 := [(0, .ref (zq_ad G 0))]) [0] rfl ?_
  refine zr_aload_n (pc := 0) (zq_d eX10_house 0 rfl) 0 rfl rfl ?_
  refine zr_getI (pc := 1) (zq_d eX10_house 1 rfl) zf_RX10_151 (kx_0_6 j) ?_
  refine zr_bipush (pc := 4) (zq_d eX10_house 2 rfl) zc_b6 ?_
  refine zr_icmp_lt (pc := 6) 12 (zq_d eX10_house 3 rfl) (by decide) (fun _ => ?_) (fun _ => ?_)
  · refine zr_aload_n (pc := 12) (zq_d eX10_house 6 rfl) 0 rfl rfl ?_
    refine zr_getC (pc := 13) (zq_d eX10_house 7 rfl) zf_RX10_39 (kx_0_8 j) ?_
    refine zr_aload_n (pc := 16) (zq_d eX10_house 8 rfl) 0 rfl rfl ?_
    refine zr_getC (pc := 17) (zq_d eX10_house 9 rfl) zf_RX10_27 (kx_0_5 j) ?_
    refine zr_aload_n (pc := 20) (zq_d eX10_house 10 rfl) 0 rfl rfl ?_
    refine zr_getI (pc := 21) (zq_d eX10_house 11 rfl) zf_RX10_151 (kx_0_6 j) ?_
    refine zr_aald (pc := 24) (zq_d eX10_house 12 rfl) (ax_22 j) rfl (fun _ _ _ => rfl) (fun h1 gh1 => ?_)
    refine zr_aload_n (pc := 25) (zq_d eX10_house 13 rfl) 0 rfl rfl ?_
    refine zr_getC (pc := 26) (zq_d eX10_house 14 rfl) zf_RX10_21 (kx_0_3 j) ?_
    refine zr_aload_n (pc := 29) (zq_d eX10_house 15 rfl) 0 rfl rfl ?_
    refine zr_getI (pc := 30) (zq_d eX10_house 16 rfl) zf_RX10_148 (kx_0_4 j) ?_
    refine zr_Wsi (pc := 33) [_, _, _] (zq_d eX10_house 17 rfl) (s_X3_readInto G N z j X h1 gh1 _) zd_X3_readInto zl_RX10_154 (ox_28 j) rfl rfl rfl rfl (Nat.le_of_ble_eq_true rfl) (Nat.le_of_ble_eq_true rfl) (Nat.le_of_ble_eq_true rfl) ⟨Nat.le_refl _, Nat.le_refl _⟩ (fun v2 X3 => ?_)
    refine zr_istore_n (pc := 36) (lo2 := [(1, .int v2), (0, .ref (zq_ad G 0))]) (zq_d eX10_house 18 rfl) rfl (Nat.le_of_ble_eq_true rfl) rfl ?_
    refine zr_aload_n (pc := 37) (zq_d eX10_house 19 rfl) 1 rfl rfl ?_
    refine zr_iconst (pc := 38) (zq_d eX10_house 20 rfl) zc_i0 ?_
    refine zr_putI (pc := 39) (zq_d eX10_house 21 rfl) zf_RX10_148 (kx_0_4 j) zn_10_4 (fun X4 => ?_)
    refine zr_iload_n (pc := 42) (zq_d eX10_house 22 rfl) 0 rfl rfl ?_
    refine zr_if_lt (pc := 43) 51 (zq_d eX10_house 23 rfl) (by decide) (fun _ => ?_) (fun _ => ?_)
    · refine zr_aload_n (pc := 51) (zq_d eX10_house 28 rfl) 1 rfl rfl ?_
      refine zr_getC (pc := 52) (zq_d eX10_house 29 rfl) zf_RX10_12 (kx_0_0 j) ?_
      refine zr_aload_n (pc := 55) (zq_d eX10_house 30 rfl) 1 rfl rfl ?_
      refine zr_getI (pc := 56) (zq_d eX10_house 31 rfl) zf_RX10_151 (kx_0_6 j) ?_
      refine zr_putI (pc := 59) (zq_d eX10_house 32 rfl) zf_RX10_158 (kx_1_14 j) zn_5_14 (fun X5 => ?_)
      refine zr_aload_n (pc := 62) (zq_d eX10_house 33 rfl) 1 rfl rfl ?_
      refine zr_dup (pc := 63) (zq_d eX10_house 34 rfl) rfl ?_
      refine zr_getI (pc := 64) (zq_d eX10_house 35 rfl) zf_RX10_151 (kx_0_6 j) ?_
      refine zr_iconst (pc := 67) (zq_d eX10_house 36 rfl) zc_i1 ?_
      refine zr_iadd (pc := 68) (zq_d eX10_house 37 rfl) ?_
      refine zr_putI (pc := 69) (zq_d eX10_house 38 rfl) zf_RX10_151 (kx_0_6 j) zn_10_6 (fun X6 => ?_)
      refine zr_aload_n (pc := 72) (zq_d eX10_house 39 rfl) 1 rfl rfl ?_
      refine zr_getC (pc := 73) (zq_d eX10_house 40 rfl) zf_RX10_12 (kx_0_0 j) ?_
      refine zr_getI (pc := 76) (zq_d eX10_house 41 rfl) zf_RX10_158 (kx_1_14 j) ?_
      exact zr_ireturn (pc := 79) (zq_d eX10_house 42 rfl) rfl rfl (Nat.zero_le _) (Nat.zero_le _)
    · refine zr_bipush (pc := 46) (zq_d eX10_house 24 rfl) zc_bm10 ?_
      refine zr_iload_n (pc := 48) (zq_d eX10_house 25 rfl) 0 rfl rfl ?_
      refine zr_isub (pc := 49) (zq_d eX10_house 26 rfl) ?_
      exact zr_ireturn (pc := 50) (zq_d eX10_house 27 rfl) rfl rfl (Nat.zero_le _) (Nat.zero_le _)
  · refine zr_bipush (pc := 9) (zq_d eX10_house 4 rfl) zc_bm4 ?_
    exact zr_ireturn (pc := 11) (zq_d eX10_house 5 rfl) rfl rfl (Nat.zero_le _) (Nat.zero_le _)
def f_X10_told (N j : Nat) (X : zq_M) (a1 : Int32) : Option Int32 :=
  if a1 = (0 : Int32) then ((f_X10_holding N j X).bind (fun h1 => zq_gd (zq_ho (zq_shX j) h1) (some (X.1 h1 6)))) else (if a1 = (1 : Int32) then (some (X.1 1 7)) else (if a1 = (2 : Int32) then (some (X.1 1 8)) else (some (-1 : Int32))))
set_option maxRecDepth 20000 in
set_option maxHeartbeats 8000000 in
theorem s_X10_told (G : zq_G) (N z j : Nat) (X : zq_M) (a1 : Int32) : zq_V G YX10_told (3, 0, 0) (zq_ei (zq_shX j) z X) 0 0 0 (lv_args 0 [.ref (zq_ad G 0), .int a1]) [] (zq_shX j) z X (f_X10_told N j X a1) := by
  unfold f_X10_told
  refine zr_lo (l2 := [(0, .ref (zq_ad G 0)), (1, .int a1)]) [0, 1] rfl ?_
  refine zr_iload_n (pc := 0) (zq_d eX10_told 0 rfl) 1 rfl rfl ?_
  refine zr_cs (fun q1 => ?_) (fun q1 => ?_)
  · refine zr_tab (pc := 1) (n := 0) 28 (zq_d eX10_told 1 rfl) q1 (by decide) (by decide) (by decide) rfl (by decide) ?_
    refine zr_aload_n (pc := 28) (zq_d eX10_told 2 rfl) 0 rfl rfl ?_
    refine zr_Vr (pc := 29) [] (zq_d eX10_told 3 rfl) (s_X10_holding G N z j X ) zd_X10_holding zl_RX10_161 (ox_0 j) rfl rfl rfl rfl (Nat.le_of_ble_eq_true rfl) (Nat.le_of_ble_eq_true rfl) (Nat.le_of_ble_eq_true rfl) ⟨Nat.le_refl _, Nat.le_refl _⟩ (fun h1 => zr_gd (fun gh1 => ?_))
    refine zr_getI (pc := 32) (zq_d eX10_told 4 rfl) zf_RX10_165 (zq_ho_k6 gh1) ?_
    exact zr_ireturn (pc := 35) (zq_d eX10_told 5 rfl) rfl rfl (Nat.zero_le _) (Nat.zero_le _)
  · refine zr_cs (fun q2 => ?_) (fun q2 => ?_)
    · refine zr_tab (pc := 1) (n := 1) 36 (zq_d eX10_told 1 rfl) q2 (by decide) (by decide) (by decide) rfl (by decide) ?_
      refine zr_aload_n (pc := 36) (zq_d eX10_told 6 rfl) 0 rfl rfl ?_
      refine zr_getC (pc := 37) (zq_d eX10_told 7 rfl) zf_RX10_12 (kx_0_0 j) ?_
      refine zr_getI (pc := 40) (zq_d eX10_told 8 rfl) zf_RX10_168 (kx_1_7 j) ?_
      exact zr_ireturn (pc := 43) (zq_d eX10_told 9 rfl) rfl rfl (Nat.zero_le _) (Nat.zero_le _)
    · refine zr_cs (fun q3 => ?_) (fun q3 => ?_)
      · refine zr_tab (pc := 1) (n := 2) 44 (zq_d eX10_told 1 rfl) q3 (by decide) (by decide) (by decide) rfl (by decide) ?_
        refine zr_aload_n (pc := 44) (zq_d eX10_told 10 rfl) 0 rfl rfl ?_
        refine zr_getC (pc := 45) (zq_d eX10_told 11 rfl) zf_RX10_12 (kx_0_0 j) ?_
        refine zr_getI (pc := 48) (zq_d eX10_told 12 rfl) zf_RX10_171 (kx_1_8 j) ?_
        exact zr_ireturn (pc := 51) (zq_d eX10_told 13 rfl) rfl rfl (Nat.zero_le _) (Nat.zero_le _)
      · refine zr_tabD (pc := 1) 52 (zq_d eX10_told 1 rfl) (by have t0 := zq_nt (n := 0) (by decide) q1; have t1 := zq_nt (n := 1) (by decide) q2; have t2 := zq_nt (n := 2) (by decide) q3; omega) (by decide) ?_
        refine zr_iconst (pc := 52) (zq_d eX10_told 14 rfl) zc_im1 ?_
        exact zr_ireturn (pc := 53) (zq_d eX10_told 15 rfl) rfl rfl (Nat.zero_le _) (Nat.zero_le _)
def f_X10_numberWith (N j : Nat) (X : zq_M) (a1 : Int32) : Option Int32 :=
  (f_X5_whoIsAt N j X 1 a1).bind (fun v1 => (f_J6_bitCount_0f7a4 N (zq_shX j) X v1).bind (fun v2 => some (v2 + (1 : Int32))))
set_option maxRecDepth 20000 in
set_option maxHeartbeats 8000000 in
theorem s_X10_numberWith (G : zq_G) (N z j : Nat) (X : zq_M) (a1 : Int32) : zq_V G YX10_numberWith (2, 0, 0) (zq_ei (zq_shX j) z X) 0 0 0 (lv_args 0 [.ref (zq_ad G 0), .int a1]) [] (zq_shX j) z X (f_X10_numberWith N j X a1) := by
  unfold f_X10_numberWith
  refine zr_lo (l2 := [(0, .ref (zq_ad G 0)), (1, .int a1)]) [0, 1] rfl ?_
  refine zr_aload_n (pc := 0) (zq_d eX10_numberWith 0 rfl) 0 rfl rfl ?_
  refine zr_getC (pc := 1) (zq_d eX10_numberWith 1 rfl) zf_RX10_12 (kx_0_0 j) ?_
  refine zr_iload_n (pc := 4) (zq_d eX10_numberWith 2 rfl) 1 rfl rfl ?_
  refine zr_Vi (pc := 5) [_] (zq_d eX10_numberWith 3 rfl) (s_X5_whoIsAt G N z j X 1 (zsc_1 j) _) zd_X5_whoIsAt zl_RX10_141 (ox_1 j) rfl rfl rfl rfl (Nat.le_of_ble_eq_true rfl) (Nat.le_of_ble_eq_true rfl) (Nat.le_of_ble_eq_true rfl) ⟨Nat.le_refl _, Nat.le_refl _⟩ (fun v1 => ?_)
  refine zr_Si (pc := 8) [_] (zq_d eX10_numberWith 4 rfl) (s_J6_bitCount_0f7a4 G N z (zq_shX j) X _) zd_J6_bitCount_0f7a4 zl_RX10_225 rfl rfl (Nat.le_of_ble_eq_true rfl) (Nat.le_of_ble_eq_true rfl) (Nat.le_of_ble_eq_true rfl) ⟨Nat.le_refl _, Nat.le_refl _⟩ (fun v2 => ?_)
  refine zr_iconst (pc := 11) (zq_d eX10_numberWith 5 rfl) zc_i1 ?_
  refine zr_iadd (pc := 12) (zq_d eX10_numberWith 6 rfl) ?_
  exact zr_ireturn (pc := 13) (zq_d eX10_numberWith 7 rfl) rfl rfl (Nat.zero_le _) (Nat.zero_le _)
def f_X10_priceNow (N j : Nat) (X : zq_M) (a1 : Int32) (a2 : Int32) : Option (Int32 × zq_M) :=
  (f_X10_holding N j X).bind (fun h1 => zq_gd (zq_ho (zq_shX j) h1) ((f_X6_look N j X h1).bind (fun X2 => (f_X10_numberWith N j X2 a2).bind (fun v3 => (f_X6_priceOf N j X2 a1 a2 v3).bind (zq_p (fun v4 X5 => some (v4, X5)))))))
set_option maxRecDepth 20000 in
set_option maxHeartbeats 8000000 in
theorem s_X10_priceNow (G : zq_G) (N z j : Nat) (X : zq_M) (a1 : Int32) (a2 : Int32) : zq_V G YX10_priceNow (5, 0, 0) (zq_si (zq_shX j) z) 0 0 0 (lv_args 0 [.ref (zq_ad G 0), .int a1, .int a2]) [] (zq_shX j) z X (f_X10_priceNow N j X a1 a2) := by
  unfold f_X10_priceNow
  refine zr_lo (l2 := [(0, .ref (zq_ad G 0)), (1, .int a1), (2, .int a2)]) [0, 1, 2] rfl ?_
  refine zr_aload_n (pc := 0) (zq_d eX10_priceNow 0 rfl) 0 rfl rfl ?_
  refine zr_getC (pc := 1) (zq_d eX10_priceNow 1 rfl) zf_RX10_48 (kx_0_9 j) ?_
  refine zr_aload_n (pc := 4) (zq_d eX10_priceNow 2 rfl) 0 rfl rfl ?_
  refine zr_Vr (pc := 5) [] (zq_d eX10_priceNow 3 rfl) (s_X10_holding G N z j X ) zd_X10_holding zl_RX10_161 (ox_0 j) rfl rfl rfl rfl (Nat.le_of_ble_eq_true rfl) (Nat.le_of_ble_eq_true rfl) (Nat.le_of_ble_eq_true rfl) ⟨Nat.le_refl _, Nat.le_refl _⟩ (fun h1 => zr_gd (fun gh1 => ?_))
  refine zr_Vv (pc := 8) [_] (zq_d eX10_priceNow 4 rfl) (s_X6_look G N z j X h1 gh1) zd_X6_look zl_RX10_254 (ox_35 j) rfl rfl rfl rfl (Nat.le_of_ble_eq_true rfl) (Nat.le_of_ble_eq_true rfl) (Nat.le_of_ble_eq_true rfl) ⟨Nat.le_refl _, Nat.le_refl _⟩ (fun X2 => ?_)
  refine zr_aload_n (pc := 11) (zq_d eX10_priceNow 5 rfl) 0 rfl rfl ?_
  refine zr_getC (pc := 12) (zq_d eX10_priceNow 6 rfl) zf_RX10_48 (kx_0_9 j) ?_
  refine zr_iload_n (pc := 15) (zq_d eX10_priceNow 7 rfl) 1 rfl rfl ?_
  refine zr_iload_n (pc := 16) (zq_d eX10_priceNow 8 rfl) 2 rfl rfl ?_
  refine zr_aload_n (pc := 17) (zq_d eX10_priceNow 9 rfl) 0 rfl rfl ?_
  refine zr_iload_n (pc := 18) (zq_d eX10_priceNow 10 rfl) 2 rfl rfl ?_
  refine zr_Vi (pc := 19) [_] (zq_d eX10_priceNow 11 rfl) (s_X10_numberWith G N z j X2 _) zd_X10_numberWith zl_RX10_334 (ox_0 j) rfl rfl rfl rfl (Nat.le_of_ble_eq_true rfl) (Nat.le_of_ble_eq_true rfl) (Nat.le_of_ble_eq_true rfl) ⟨Nat.le_refl _, Nat.le_refl _⟩ (fun v3 => ?_)
  refine zr_Wsi (pc := 22) [_, _, _] (zq_d eX10_priceNow 12 rfl) (s_X6_priceOf G N z j X2 _ _ _) zd_X6_priceOf zl_RX10_337 (ox_35 j) rfl rfl rfl rfl (Nat.le_of_ble_eq_true rfl) (Nat.le_of_ble_eq_true rfl) (Nat.le_of_ble_eq_true rfl) ⟨Nat.le_refl _, Nat.le_refl _⟩ (fun v4 X5 => ?_)
  exact zr_ireturn (pc := 25) (zq_d eX10_priceNow 13 rfl) rfl rfl (Nat.zero_le _) (Nat.zero_le _)
def f_X10_isBarredNow (N j : Nat) (X : zq_M) (a1 : Int32) (a2 : Int32) : Option (Int32 × zq_M) :=
  (f_X10_holding N j X).bind (fun h1 => zq_gd (zq_ho (zq_shX j) h1) ((f_X6_look N j X h1).bind (fun X2 => (f_X10_numberWith N j X2 a2).bind (fun v3 => (f_X6_isBarred N j X2 a1 a2 v3).bind (zq_p (fun v4 X5 => zq_gz v4 (some (v4, X5))))))))
set_option maxRecDepth 20000 in
set_option maxHeartbeats 8000000 in
theorem s_X10_isBarredNow (G : zq_G) (N z j : Nat) (X : zq_M) (a1 : Int32) (a2 : Int32) : zq_V G YX10_isBarredNow (5, 0, 0) (zq_si (zq_shX j) z) 0 0 0 (lv_args 0 [.ref (zq_ad G 0), .int a1, .int a2]) [] (zq_shX j) z X (f_X10_isBarredNow N j X a1 a2) := by
  unfold f_X10_isBarredNow
  refine zr_lo (l2 := [(0, .ref (zq_ad G 0)), (1, .int a1), (2, .int a2)]) [0, 1, 2] rfl ?_
  refine zr_aload_n (pc := 0) (zq_d eX10_isBarredNow 0 rfl) 0 rfl rfl ?_
  refine zr_getC (pc := 1) (zq_d eX10_isBarredNow 1 rfl) zf_RX10_48 (kx_0_9 j) ?_
  refine zr_aload_n (pc := 4) (zq_d eX10_isBarredNow 2 rfl) 0 rfl rfl ?_
  refine zr_Vr (pc := 5) [] (zq_d eX10_isBarredNow 3 rfl) (s_X10_holding G N z j X ) zd_X10_holding zl_RX10_161 (ox_0 j) rfl rfl rfl rfl (Nat.le_of_ble_eq_true rfl) (Nat.le_of_ble_eq_true rfl) (Nat.le_of_ble_eq_true rfl) ⟨Nat.le_refl _, Nat.le_refl _⟩ (fun h1 => zr_gd (fun gh1 => ?_))
  refine zr_Vv (pc := 8) [_] (zq_d eX10_isBarredNow 4 rfl) (s_X6_look G N z j X h1 gh1) zd_X6_look zl_RX10_254 (ox_35 j) rfl rfl rfl rfl (Nat.le_of_ble_eq_true rfl) (Nat.le_of_ble_eq_true rfl) (Nat.le_of_ble_eq_true rfl) ⟨Nat.le_refl _, Nat.le_refl _⟩ (fun X2 => ?_)
  refine zr_aload_n (pc := 11) (zq_d eX10_isBarredNow 5 rfl) 0 rfl rfl ?_
  refine zr_getC (pc := 12) (zq_d eX10_isBarredNow 6 rfl) zf_RX10_48 (kx_0_9 j) ?_
  refine zr_iload_n (pc := 15) (zq_d eX10_isBarredNow 7 rfl) 1 rfl rfl ?_
  refine zr_iload_n (pc := 16) (zq_d eX10_isBarredNow 8 rfl) 2 rfl rfl ?_
  refine zr_aload_n (pc := 17) (zq_d eX10_isBarredNow 9 rfl) 0 rfl rfl ?_
  refine zr_iload_n (pc := 18) (zq_d eX10_isBarredNow 10 rfl) 2 rfl rfl ?_
  refine zr_Vi (pc := 19) [_] (zq_d eX10_isBarredNow 11 rfl) (s_X10_numberWith G N z j X2 _) zd_X10_numberWith zl_RX10_334 (ox_0 j) rfl rfl rfl rfl (Nat.le_of_ble_eq_true rfl) (Nat.le_of_ble_eq_true rfl) (Nat.le_of_ble_eq_true rfl) ⟨Nat.le_refl _, Nat.le_refl _⟩ (fun v3 => ?_)
  refine zr_Wsi (pc := 22) [_, _, _] (zq_d eX10_isBarredNow 12 rfl) (s_X6_isBarred G N z j X2 _ _ _) zd_X6_isBarred zl_RX10_340 (ox_35 j) rfl rfl rfl rfl (Nat.le_of_ble_eq_true rfl) (Nat.le_of_ble_eq_true rfl) (Nat.le_of_ble_eq_true rfl) ⟨Nat.le_refl _, Nat.le_refl _⟩ (fun v4 X5 => ?_)
  exact zr_zreturnG (pc := 25) (zq_d eX10_isBarredNow 13 rfl) rfl rfl (Nat.zero_le _) (Nat.zero_le _)
