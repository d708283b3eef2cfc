def f_X11_isDigit (N : Nat) (X : zq_M)  : Option Int32 :=
  (f_X11_next N X).bind (fun v1 => (f_X11_within N X v1 (48 : Int32) (57 : Int32)).bind (fun v2 => zq_gz v2 (some v2)))
set_option maxRecDepth 20000 in
set_option maxHeartbeats 8000000 in
theorem s_X11_isDigit (G : zq_G) (N z : Nat) (X : zq_M)  : zq_V G YX11_isDigit (2, 0, 0) (zq_ei zq_shM z X) 0 0 0 (lv_args 0 [.ref (zq_ad G 69)]) [] zq_shM z X (f_X11_isDigit N X ) := by
  unfold f_X11_isDigit
  refine zr_lo (l2 := [(0, .ref (zq_ad G 69))]) [0] rfl ?_
  refine zr_aload_n (pc := 0) (zq_d eX11_isDigit 0 rfl) 0 rfl rfl ?_
  refine zr_aload_n (pc := 1) (zq_d eX11_isDigit 1 rfl) 0 rfl rfl ?_
  refine zr_Vi (pc := 2) [] (zq_d eX11_isDigit 2 rfl) (s_X11_next G N z X ) zd_X11_next zl_RX11_262 om_69 rfl rfl rfl rfl (Nat.le_of_ble_eq_true rfl) (Nat.le_of_ble_eq_true rfl) (Nat.le_of_ble_eq_true rfl) ⟨Nat.le_refl _, Nat.le_refl _⟩ (fun v1 => ?_)
  refine zr_bipush (pc := 5) (zq_d eX11_isDigit 3 rfl) zc_b48 ?_
  refine zr_bipush (pc := 7) (zq_d eX11_isDigit 4 rfl) zc_b57 ?_
  refine zr_Vi (pc := 9) [_, _, _] (zq_d eX11_isDigit 5 rfl) (s_X11_within G N z X _ _ _) zd_X11_within zl_RX11_217 om_69 rfl rfl rfl rfl (Nat.le_of_ble_eq_true rfl) (Nat.le_of_ble_eq_true rfl) (Nat.le_of_ble_eq_true rfl) ⟨Nat.le_refl _, Nat.le_refl _⟩ (fun v2 => ?_)
  exact zr_zreturnG (pc := 12) (zq_d eX11_isDigit 6 rfl) rfl rfl (Nat.zero_le _) (Nat.zero_le _)
def b_X11_takesNumber_16 (N : Nat) (rc16_1 : Int32 → zq_M → Option (Int32 × zq_M)) (v3 : Int32) (X4 : zq_M) : Option (Int32 × zq_M) :=
  if (2 : Int32) ≤ v3 then (some ((1 : Int32), X4)) else ((f_X11_isDigit N X4).bind (fun v5 => if v5 = 0 then (some ((1 : Int32), X4)) else ((f_X11_next N X4).bind (fun v6 => zq_b (zq_u1 X4 69 14 ((((10 : Int32) * (X4.1 69 14)) + v6) - (48 : Int32))) (fun X7 => zq_b (zq_u1 X7 69 13 ((X7.1 69 13) + (1 : Int32))) (fun X8 => rc16_1 (v3 + (1 : Int32)) X8))))))
def f_X11_takesNumber (N : Nat) (X : zq_M)  : Option (Int32 × zq_M) :=
  (f_X11_isDigit N X).bind (fun v1 => if ¬ v1 = 0 then (zq_b (zq_u1 X 69 14 (0 : Int32)) (fun X2 => zq_loop (fun _ _ => none) (b_X11_takesNumber_16 N) N (0 : Int32) X2)) else (some ((0 : Int32), X)))
set_option maxRecDepth 20000 in
set_option maxHeartbeats 8000000 in
theorem s_X11_takesNumber (G : zq_G) (N z : Nat) (X : zq_M)  : zq_V G YX11_takesNumber (3, 0, 0) (zq_si zq_shM z) 0 0 0 (lv_args 0 [.ref (zq_ad G 69)]) [] zq_shM z X (f_X11_takesNumber N X ) := by
  unfold f_X11_takesNumber
  refine zr_lo (l2 := [(0, .ref (zq_ad G 69))]) [0] rfl ?_
  refine zr_aload_n (pc := 0) (zq_d eX11_takesNumber 0 rfl) 0 rfl rfl ?_
  refine zr_Vi (pc := 1) [] (zq_d eX11_takesNumber 1 rfl) (s_X11_isDigit G N z X ) zd_X11_isDigit zl_RX11_268 om_69 rfl rfl rfl rfl (Nat.le_of_ble_eq_true rfl) (Nat.le_of_ble_eq_true rfl) (Nat.le_of_ble_eq_true rfl) ⟨Nat.le_refl _, Nat.le_refl _⟩ (fun v1 => ?_)
  refine zr_if_ne (pc := 4) 9 (zq_d eX11_takesNumber 2 rfl) (by decide) (fun _ => ?_) (fun _ => ?_)
  · refine zr_aload_n (pc := 9) (zq_d eX11_takesNumber 5 rfl) 0 rfl rfl ?_
    refine zr_iconst (pc := 10) (zq_d eX11_takesNumber 6 rfl) zc_i0 ?_
    refine zr_putI (pc := 11) (zq_d eX11_takesNumber 7 rfl) zf_RX11_53 km_69_14 zn_11_14 (fun X2 => ?_)
    refine zr_iconst (pc := 14) (zq_d eX11_takesNumber 8 rfl) zc_i0 ?_
    refine zr_istore_n (pc := 15) (lo2 := [(1, .int (0 : Int32)), (0, .ref (zq_ad G 69))]) (zq_d eX11_takesNumber 9 rfl) rfl (Nat.le_of_ble_eq_true rfl) rfl ?_
    have hbrc16_1 : ∀ rc16_1 : Int32 → zq_M → Option (Int32 × zq_M), (∀ (v3 : Int32) (X4 : zq_M), zq_V G YX11_takesNumber (3, 0, 0) (zq_si zq_shM z) 0 0 16 [(0, .ref (zq_ad G 69)), (1, .int v3)] [] zq_shM z X4 (rc16_1 v3 X4)) → ∀ (v3 : Int32) (X4 : zq_M), zq_V G YX11_takesNumber (3, 0, 0) (zq_si zq_shM z) 0 0 16 [(0, .ref (zq_ad G 69)), (1, .int v3)] [] zq_shM z X4 (b_X11_takesNumber_16 N rc16_1 v3 X4) := by
      intro rc16_1 hrc16_1 v3 X4
      unfold b_X11_takesNumber_16
      refine zr_iload_n (pc := 16) (zq_d eX11_takesNumber 10 rfl) 1 rfl rfl ?_
      refine zr_iconst (pc := 17) (zq_d eX11_takesNumber 11 rfl) zc_i2 ?_
      refine zr_icmp_ge (pc := 18) 63 (zq_d eX11_takesNumber 12 rfl) (by decide) (fun _ => ?_) (fun _ => ?_)
      · refine zr_iconst (pc := 63) (zq_d eX11_takesNumber 35 rfl) zc_i1 ?_
        exact zr_zreturn (pc := 64) (zq_d eX11_takesNumber 36 rfl) rfl rfl rfl (Nat.zero_le _) (Nat.zero_le _)
      · refine zr_aload_n (pc := 21) (zq_d eX11_takesNumber 13 rfl) 0 rfl rfl ?_
        refine zr_Vi (pc := 22) [] (zq_d eX11_takesNumber 14 rfl) (s_X11_isDigit G N z X4 ) zd_X11_isDigit zl_RX11_268 om_69 rfl rfl rfl rfl (Nat.le_of_ble_eq_true rfl) (Nat.le_of_ble_eq_true rfl) (Nat.le_of_ble_eq_true rfl) ⟨Nat.le_refl _, Nat.le_refl _⟩ (fun v5 => ?_)
        refine zr_if_eq (pc := 25) 63 (zq_d eX11_takesNumber 15 rfl) (by decide) (fun _ => ?_) (fun _ => ?_)
        · refine zr_iconst (pc := 63) (zq_d eX11_takesNumber 35 rfl) zc_i1 ?_
          exact zr_zreturn (pc := 64) (zq_d eX11_takesNumber 36 rfl) rfl rfl rfl (Nat.zero_le _) (Nat.zero_le _)
        · refine zr_aload_n (pc := 28) (zq_d eX11_takesNumber 16 rfl) 0 rfl rfl ?_
          refine zr_bipush (pc := 29) (zq_d eX11_takesNumber 17 rfl) zc_b10 ?_
          refine zr_aload_n (pc := 31) (zq_d eX11_takesNumber 18 rfl) 0 rfl rfl ?_
          refine zr_getI (pc := 32) (zq_d eX11_takesNumber 19 rfl) zf_RX11_53 km_69_14 ?_
          refine zr_imul (pc := 35) (zq_d eX11_takesNumber 20 rfl) ?_
          refine zr_aload_n (pc := 36) (zq_d eX11_takesNumber 21 rfl) 0 rfl rfl ?_
          refine zr_Vi (pc := 37) [] (zq_d eX11_takesNumber 22 rfl) (s_X11_next G N z X4 ) zd_X11_next zl_RX11_262 om_69 rfl rfl rfl rfl (Nat.le_of_ble_eq_true rfl) (Nat.le_of_ble_eq_true rfl) (Nat.le_of_ble_eq_true rfl) ⟨Nat.le_refl _, Nat.le_refl _⟩ (fun v6 => ?_)
          refine zr_iadd (pc := 40) (zq_d eX11_takesNumber 23 rfl) ?_
          refine zr_bipush (pc := 41) (zq_d eX11_takesNumber 24 rfl) zc_b48 ?_
          refine zr_isub (pc := 43) (zq_d eX11_takesNumber 25 rfl) ?_
          refine zr_putI (pc := 44) (zq_d eX11_takesNumber 26 rfl) zf_RX11_53 km_69_14 zn_11_14 (fun X7 => ?_)
          refine zr_aload_n (pc := 47) (zq_d eX11_takesNumber 27 rfl) 0 rfl rfl ?_
          refine zr_dup (pc := 48) (zq_d eX11_takesNumber 28 rfl) rfl ?_
          refine zr_getI (pc := 49) (zq_d eX11_takesNumber 29 rfl) zf_RX11_50 km_69_13 ?_
          refine zr_iconst (pc := 52) (zq_d eX11_takesNumber 30 rfl) zc_i1 ?_
          refine zr_iadd (pc := 53) (zq_d eX11_takesNumber 31 rfl) ?_
          refine zr_putI (pc := 54) (zq_d eX11_takesNumber 32 rfl) zf_RX11_50 km_69_13 zn_11_13 (fun X8 => ?_)
          refine zr_iinc (pc := 57) (j := 1) (v := (v3 + (1 : Int32))) (lo2 := [(1, .int (v3 + (1 : Int32))), (0, .ref (zq_ad G 69))]) (zq_d eX11_takesNumber 33 rfl) rfl (by rw [zc_i1]) (Nat.le_of_ble_eq_true rfl) rfl ?_
          refine zr_goto (pc := 60) 16 (zq_d eX11_takesNumber 34 rfl) (by decide) ?_
          exact zr_lo [1, 0] rfl (hrc16_1 (v3 + (1 : Int32)) X8)
    have hlrc16_1 := zr_loop (P := fun (rc16_1 : Int32 → zq_M → Option (Int32 × zq_M)) => ∀ (v3 : Int32) (X4 : zq_M), zq_V G YX11_takesNumber (3, 0, 0) (zq_si zq_shM z) 0 0 16 [(0, .ref (zq_ad G 69)), (1, .int v3)] [] zq_shM z X4 (rc16_1 v3 X4)) (fun _ _ => none) (b_X11_takesNumber_16 N) (fun _ _ => zr_none) hbrc16_1 N
    exact zr_lo [1, 0] rfl (hlrc16_1 (0 : Int32) X2)
  · refine zr_iconst (pc := 7) (zq_d eX11_takesNumber 3 rfl) zc_i0 ?_
    exact zr_zreturn (pc := 8) (zq_d eX11_takesNumber 4 rfl) rfl rfl rfl (Nat.zero_le _) (Nat.zero_le _)
def f_X11_put (N : Nat) (X : zq_M) (a1 : Int32) : Option zq_M :=
  zq_ck (X.1 69 23) 600 (zq_b (zq_u1 X 81 (zq_ix (X.1 69 23)) a1) (fun X1 => zq_b (zq_u1 X1 69 23 ((X1.1 69 23) + (1 : Int32))) (fun X2 => some X2)))
set_option maxRecDepth 20000 in
set_option maxHeartbeats 8000000 in
theorem s_X11_put (G : zq_G) (N z : Nat) (X : zq_M) (a1 : Int32) : zq_V G YX11_put (1, 0, 0) (zq_sv zq_shM z) 0 0 0 (lv_args 0 [.ref (zq_ad G 69), .int a1]) [] zq_shM z X (f_X11_put N X a1) := by
  unfold f_X11_put
  refine zr_lo (l2 := [(0, .ref (zq_ad G 69)), (1, .int a1)]) [0, 1] rfl ?_
  refine zr_aload_n (pc := 0) (zq_d eX11_put 0 rfl) 0 rfl rfl ?_
  refine zr_getC (pc := 1) (zq_d eX11_put 1 rfl) zf_RX11_74 km_69_21 ?_
  refine zr_aload_n (pc := 4) (zq_d eX11_put 2 rfl) 0 rfl rfl ?_
  refine zr_getI (pc := 5) (zq_d eX11_put 3 rfl) zf_RX11_80 km_69_23 ?_
  refine zr_iload_n (pc := 8) (zq_d eX11_put 4 rfl) 1 rfl rfl ?_
  refine zr_iast (pc := 9) (zq_d eX11_put 5 rfl) am_81 (fun X1 => ?_)
  refine zr_aload_n (pc := 10) (zq_d eX11_put 6 rfl) 0 rfl rfl ?_
  refine zr_dup (pc := 11) (zq_d eX11_put 7 rfl) rfl ?_
  refine zr_getI (pc := 12) (zq_d eX11_put 8 rfl) zf_RX11_80 km_69_23 ?_
  refine zr_iconst (pc := 15) (zq_d eX11_put 9 rfl) zc_i1 ?_
  refine zr_iadd (pc := 16) (zq_d eX11_put 10 rfl) ?_
  refine zr_putI (pc := 17) (zq_d eX11_put 11 rfl) zf_RX11_80 km_69_23 zn_11_23 (fun X2 => ?_)
  exact zr_vreturn (pc := 20) (zq_d eX11_put 12 rfl) rfl rfl (Nat.zero_le _) (Nat.zero_le _)
def b_X11_whole_0 (N : Nat) (rc0_1 : zq_M → Option zq_M) (X1 : zq_M) : Option zq_M :=
  if (X1.1 69 24) ≤ 0 then (some X1) else (zq_ck ((X1.1 69 24) - (1 : Int32)) 101 (if ¬ (X1.1 82 (zq_ix ((X1.1 69 24) - (1 : Int32)))) = (33 : Int32) then (some X1) else ((f_X11_put N X1 (-33 : Int32)).bind (fun X2 => zq_b (zq_u1 X2 69 24 ((X2.1 69 24) - (1 : Int32))) (fun X3 => zq_b (zq_u1 X3 69 25 ((X3.1 69 25) - (1 : Int32))) (fun X4 => rc0_1 X4))))))
def f_X11_whole (N : Nat) (X : zq_M)  : Option zq_M :=
  zq_loop (fun _ => none) (b_X11_whole_0 N) N X
set_option maxRecDepth 20000 in
set_option maxHeartbeats 8000000 in
theorem s_X11_whole (G : zq_G) (N z : Nat) (X : zq_M)  : zq_V G YX11_whole (2, 0, 0) (zq_sv zq_shM z) 0 0 0 (lv_args 0 [.ref (zq_ad G 69)]) [] zq_shM z X (f_X11_whole N X ) := by
  unfold f_X11_whole
  refine zr_lo (l2 := [(0, .ref (zq_ad G 69))]) [0] rfl ?_
  have hbrc0_1 : ∀ rc0_1 : zq_M → Option zq_M, (∀ (X1 : zq_M), zq_V G YX11_whole (2, 0, 0) (zq_sv zq_shM z) 0 0 0 [(0, .ref (zq_ad G 69))] [] zq_shM z X1 (rc0_1 X1)) → ∀ (X1 : zq_M), zq_V G YX11_whole (2, 0, 0) (zq_sv zq_shM z) 0 0 0 [(0, .ref (zq_ad G 69))] [] zq_shM z X1 (b_X11_whole_0 N rc0_1 X1) := by
    intro rc0_1 hrc0_1 X1
    unfold b_X11_whole_0
    refine zr_aload_n (pc := 0) (zq_d eX11_whole 0 rfl) 0 rfl rfl ?_
    refine zr_getI (pc := 1) (zq_d eX11_whole 1 rfl) zf_RX11_83 km_69_24 ?_
    refine zr_if_le (pc := 4) 52 (zq_d eX11_whole 2 rfl) (by decide) (fun _ => ?_) (fun _ => ?_)
    · exact zr_vreturn (pc := 52) (zq_d eX11_whole 28 rfl) rfl rfl (Nat.zero_le _) (Nat.zero_le _)
    · refine zr_aload_n (pc := 7) (zq_d eX11_whole 3 rfl) 0 rfl rfl ?_
      refine zr_getC (pc := 8) (zq_d eX11_whole 4 rfl) zf_RX11_77 km_69_22 ?_
      refine zr_aload_n (pc := 11) (zq_d eX11_whole 5 rfl) 0 rfl rfl ?_
      refine zr_getI (pc := 12) (zq_d eX11_whole 6 rfl) zf_RX11_83 km_69_24 ?_
      refine zr_iconst (pc := 15) (zq_d eX11_whole 7 rfl) zc_i1 ?_
      refine zr_isub (pc := 16) (zq_d eX11_whole 8 rfl) ?_
      refine zr_iald (pc := 17) (zq_d eX11_whole 9 rfl) am_82 ?_
      refine zr_bipush (pc := 18) (zq_d eX11_whole 10 rfl) zc_b33 ?_
      refine zr_icmp_ne (pc := 20) 52 (zq_d eX11_whole 11 rfl) (by decide) (fun _ => ?_) (fun _ => ?_)
      · exact zr_vreturn (pc := 52) (zq_d eX11_whole 28 rfl) rfl rfl (Nat.zero_le _) (Nat.zero_le _)
      · refine zr_aload_n (pc := 23) (zq_d eX11_whole 12 rfl) 0 rfl rfl ?_
        refine zr_bipush (pc := 24) (zq_d eX11_whole 13 rfl) zc_bm33 ?_
        refine zr_Vv (pc := 26) [_] (zq_d eX11_whole 14 rfl) (s_X11_put G N z X1 _) zd_X11_put zl_RX11_272 om_69 rfl rfl rfl rfl (Nat.le_of_ble_eq_true rfl) (Nat.le_of_ble_eq_true rfl) (Nat.le_of_ble_eq_true rfl) ⟨Nat.le_refl _, Nat.le_refl _⟩ (fun X2 => ?_)
        refine zr_aload_n (pc := 29) (zq_d eX11_whole 15 rfl) 0 rfl rfl ?_
        refine zr_dup (pc := 30) (zq_d eX11_whole 16 rfl) rfl ?_
        refine zr_getI (pc := 31) (zq_d eX11_whole 17 rfl) zf_RX11_83 km_69_24 ?_
        refine zr_iconst (pc := 34) (zq_d eX11_whole 18 rfl) zc_i1 ?_
        refine zr_isub (pc := 35) (zq_d eX11_whole 19 rfl) ?_
        refine zr_putI (pc := 36) (zq_d eX11_whole 20 rfl) zf_RX11_83 km_69_24 zn_11_24 (fun X3 => ?_)
        refine zr_aload_n (pc := 39) (zq_d eX11_whole 21 rfl) 0 rfl rfl ?_
        refine zr_dup (pc := 40) (zq_d eX11_whole 22 rfl) rfl ?_
        refine zr_getI (pc := 41) (zq_d eX11_whole 23 rfl) zf_RX11_86 km_69_25 ?_
        refine zr_iconst (pc := 44) (zq_d eX11_whole 24 rfl) zc_i1 ?_
        refine zr_isub (pc := 45) (zq_d eX11_whole 25 rfl) ?_
        refine zr_putI (pc := 46) (zq_d eX11_whole 26 rfl) zf_RX11_86 km_69_25 zn_11_25 (fun X4 => ?_)
        refine zr_goto (pc := 49) 0 (zq_d eX11_whole 27 rfl) (by decide) ?_
        exact zr_lo [0] rfl (hrc0_1 X4)
  have hlrc0_1 := zr_loop (P := fun (rc0_1 : zq_M → Option zq_M) => ∀ (X1 : zq_M), zq_V G YX11_whole (2, 0, 0) (zq_sv zq_shM z) 0 0 0 [(0, .ref (zq_ad G 69))] [] zq_shM z X1 (rc0_1 X1)) (fun _ => none) (b_X11_whole_0 N) (fun _ => zr_none) hbrc0_1 N
  exact zr_lo [0] rfl (hlrc0_1 X)
def j_X11_settle_45 (N : Nat) (X1 : zq_M) (rc0_1 : zq_M → Option zq_M)  : Option zq_M :=
  zq_b (zq_u1 X1 69 24 ((X1.1 69 24) - (1 : Int32))) (fun X2 => zq_ck (X2.1 69 24) 101 ((f_X11_put N X2 (-(X2.1 82 (zq_ix (X2.1 69 24))))).bind (fun X3 => rc0_1 X3)))
def b_X11_settle_0 (N : Nat) (a1 : Int32) (rc0_1 : zq_M → Option zq_M) (X1 : zq_M) : Option zq_M :=
  if (X1.1 69 24) ≤ 0 then (some X1) else (zq_ck ((X1.1 69 24) - (1 : Int32)) 101 (if (X1.1 82 (zq_ix ((X1.1 69 24) - (1 : Int32)))) = (38 : Int32) then (j_X11_settle_45 N X1 rc0_1) else (zq_ck ((X1.1 69 24) - (1 : Int32)) 101 (if ¬ (X1.1 82 (zq_ix ((X1.1 69 24) - (1 : Int32)))) = (124 : Int32) then (some X1) else (if a1 = (38 : Int32) then (some X1) else (j_X11_settle_45 N X1 rc0_1))))))
def f_X11_settle (N : Nat) (X : zq_M) (a1 : Int32) : Option zq_M :=
  zq_loop (fun _ => none) (b_X11_settle_0 N a1) N X
set_option maxRecDepth 20000 in
set_option maxHeartbeats 8000000 in
theorem s_X11_settle (G : zq_G) (N z : Nat) (X : zq_M) (a1 : Int32) : zq_V G YX11_settle (2, 0, 0) (zq_sv zq_shM z) 0 0 0 (lv_args 0 [.ref (zq_ad G 69), .int a1]) [] zq_shM z X (f_X11_settle N X a1) := by
  unfold f_X11_settle
  refine zr_lo (l2 := [(0, .ref (zq_ad G 69)), (1, .int a1)]) [0, 1] rfl ?_
  have hbrc0_1 : ∀ rc0_1 : zq_M → Option zq_M, (∀ (X1 : zq_M), zq_V G YX11_settle (2, 0, 0) (zq_sv zq_shM z) 0 0 0 [(0, .ref (zq_ad G 69)), (1, .int a1)] [] zq_shM z X1 (rc0_1 X1)) → ∀ (X1 : zq_M), zq_V G YX11_settle (2, 0, 0) (zq_sv zq_shM z) 0 0 0 [(0, .ref (zq_ad G 69)), (1, .int a1)] [] zq_shM z X1 (b_X11_settle_0 N a1 rc0_1 X1) := by
    intro rc0_1 hrc0_1 X1
    unfold b_X11_settle_0
    refine zr_aload_n (pc := 0) (zq_d eX11_settle 0 rfl) 0 rfl rfl ?_
    refine zr_getI (pc := 1) (zq_d eX11_settle 1 rfl) zf_RX11_83 km_69_24 ?_
    refine zr_if_le (pc := 4) 72 (zq_d eX11_settle 2 rfl) (by decide) (fun _ => ?_) (fun _ => ?_)
    · exact zr_vreturn (pc := 72) (zq_d eX11_settle 39 rfl) rfl rfl (Nat.zero_le _) (Nat.zero_le _)
    · refine zr_aload_n (pc := 7) (zq_d eX11_settle 3 rfl) 0 rfl rfl ?_
      refine zr_getC (pc := 8) (zq_d eX11_settle 4 rfl) zf_RX11_77 km_69_22 ?_
      refine zr_aload_n (pc := 11) (zq_d eX11_settle 5 rfl) 0 rfl rfl ?_
      refine zr_getI (pc := 12) (zq_d eX11_settle 6 rfl) zf_RX11_83 km_69_24 ?_
      refine zr_iconst (pc := 15) (zq_d eX11_settle 7 rfl) zc_i1 ?_
      refine zr_isub (pc := 16) (zq_d eX11_settle 8 rfl) ?_
      refine zr_iald (pc := 17) (zq_d eX11_settle 9 rfl) am_82 ?_
      refine zr_bipush (pc := 18) (zq_d eX11_settle 10 rfl) zc_b38 ?_
      have hj45_2 : zq_V G YX11_settle (2, 0, 0) (zq_sv zq_shM z) 0 0 45 [(0, .ref (zq_ad G 69)), (1, .int a1)] [] zq_shM z X1 (j_X11_settle_45 N X1 rc0_1) := by
        unfold j_X11_settle_45
        refine zr_aload_n (pc := 45) (zq_d eX11_settle 24 rfl) 0 rfl rfl ?_
        refine zr_dup (pc := 46) (zq_d eX11_settle 25 rfl) rfl ?_
        refine zr_getI (pc := 47) (zq_d eX11_settle 26 rfl) zf_RX11_83 km_69_24 ?_
        refine zr_iconst (pc := 50) (zq_d eX11_settle 27 rfl) zc_i1 ?_
        refine zr_isub (pc := 51) (zq_d eX11_settle 28 rfl) ?_
        refine zr_putI (pc := 52) (zq_d eX11_settle 29 rfl) zf_RX11_83 km_69_24 zn_11_24 (fun X2 => ?_)
        refine zr_aload_n (pc := 55) (zq_d eX11_settle 30 rfl) 0 rfl rfl ?_
        refine zr_aload_n (pc := 56) (zq_d eX11_settle 31 rfl) 0 rfl rfl ?_
        refine zr_getC (pc := 57) (zq_d eX11_settle 32 rfl) zf_RX11_77 km_69_22 ?_
        refine zr_aload_n (pc := 60) (zq_d eX11_settle 33 rfl) 0 rfl rfl ?_
        refine zr_getI (pc := 61) (zq_d eX11_settle 34 rfl) zf_RX11_83 km_69_24 ?_
        refine zr_iald (pc := 64) (zq_d eX11_settle 35 rfl) am_82 ?_
        refine zr_ineg (pc := 65) (zq_d eX11_settle 36 rfl) ?_
        refine zr_Vv (pc := 66) [_] (zq_d eX11_settle 37 rfl) (s_X11_put G N z X2 _) zd_X11_put zl_RX11_272 om_69 rfl rfl rfl rfl (Nat.le_of_ble_eq_true rfl) (Nat.le_of_ble_eq_true rfl) (Nat.le_of_ble_eq_true rfl) ⟨Nat.le_refl _, Nat.le_refl _⟩ (fun X3 => ?_)
        refine zr_goto (pc := 69) 0 (zq_d eX11_settle 38 rfl) (by decide) ?_
        exact zr_lo [0, 1] rfl (hrc0_1 X3)
      refine zr_icmp_eq (pc := 20) 45 (zq_d eX11_settle 11 rfl) (by decide) (fun _ => ?_) (fun _ => ?_)
      · exact zr_lo [0, 1] rfl (hj45_2)
      · refine zr_aload_n (pc := 23) (zq_d eX11_settle 12 rfl) 0 rfl rfl ?_
        refine zr_getC (pc := 24) (zq_d eX11_settle 13 rfl) zf_RX11_77 km_69_22 ?_
        refine zr_aload_n (pc := 27) (zq_d eX11_settle 14 rfl) 0 rfl rfl ?_
        refine zr_getI (pc := 28) (zq_d eX11_settle 15 rfl) zf_RX11_83 km_69_24 ?_
        refine zr_iconst (pc := 31) (zq_d eX11_settle 16 rfl) zc_i1 ?_
        refine zr_isub (pc := 32) (zq_d eX11_settle 17 rfl) ?_
        refine zr_iald (pc := 33) (zq_d eX11_settle 18 rfl) am_82 ?_
        refine zr_bipush (pc := 34) (zq_d eX11_settle 19 rfl) zc_b124 ?_
        refine zr_icmp_ne (pc := 36) 72 (zq_d eX11_settle 20 rfl) (by decide) (fun _ => ?_) (fun _ => ?_)
        · exact zr_vreturn (pc := 72) (zq_d eX11_settle 39 rfl) rfl rfl (Nat.zero_le _) (Nat.zero_le _)
        · refine zr_iload_n (pc := 39) (zq_d eX11_settle 21 rfl) 1 rfl rfl ?_
          refine zr_bipush (pc := 40) (zq_d eX11_settle 22 rfl) zc_b38 ?_
          refine zr_icmp_eq (pc := 42) 72 (zq_d eX11_settle 23 rfl) (by decide) (fun _ => ?_) (fun _ => ?_)
          · exact zr_vreturn (pc := 72) (zq_d eX11_settle 39 rfl) rfl rfl (Nat.zero_le _) (Nat.zero_le _)
          · exact zr_lo [0, 1] rfl (hj45_2)
  have hlrc0_1 := zr_loop (P := fun (rc0_1 : zq_M → Option zq_M) => ∀ (X1 : zq_M), zq_V G YX11_settle (2, 0, 0) (zq_sv zq_shM z) 0 0 0 [(0, .ref (zq_ad G 69)), (1, .int a1)] [] zq_shM z X1 (rc0_1 X1)) (fun _ => none) (b_X11_settle_0 N a1) (fun _ => zr_none) hbrc0_1 N
  exact zr_lo [0, 1] rfl (hlrc0_1 X)
def f_X11_place (N : Nat) (X : zq_M) (a1 : Int32) : Option Int32 :=
  if a1 = (97 : Int32) then (some (2 : Int32)) else (if a1 = (98 : Int32) then (some (-1 : Int32)) else (if a1 = (99 : Int32) then (some (-1 : Int32)) else (if a1 = (100 : Int32) then (some (-1 : Int32)) else (if a1 = (101 : Int32) then (some (-1 : Int32)) else (if a1 = (102 : Int32) then (some (-1 : Int32)) else (if a1 = (103 : Int32) then (some (-1 : Int32)) else (if a1 = (104 : Int32) then (some (-1 : Int32)) else (if a1 = (105 : Int32) then (some (-1 : Int32)) else (if a1 = (106 : Int32) then (some (-1 : Int32)) else (if a1 = (107 : Int32) then (some (4 : Int32)) else (if a1 = (108 : Int32) then (some (-1 : Int32)) else (if a1 = (109 : Int32) then (some (-1 : Int32)) else (if a1 = (110 : Int32) then (some (3 : Int32)) else (if a1 = (111 : Int32) then (some (-1 : Int32)) else (if a1 = (112 : Int32) then (some (0 : Int32)) else (if a1 = (113 : Int32) then (some (-1 : Int32)) else (if a1 = (114 : Int32) then (some (1 : Int32)) else (if a1 = (115 : Int32) then (some (-1 : Int32)) else (if a1 = (116 : Int32) then (some (5 : Int32)) else (some (-1 : Int32)))))))))))))))))))))
set_option maxRecDepth 20000 in
set_option maxHeartbeats 8000000 in
theorem s_X11_place (G : zq_G) (N z : Nat) (X : zq_M) (a1 : Int32) : zq_V G YX11_place (1, 0, 0) (zq_ei zq_shM z X) 0 0 0 (lv_args 0 [.ref (zq_ad G 69), .int a1]) [] zq_shM z X (f_X11_place N X a1) := by
  unfold f_X11_place
  refine zr_lo (l2 := [(1, .int a1)]) [1] rfl ?_
  refine zr_iload_n (pc := 0) (zq_d eX11_place 0 rfl) 0 rfl rfl ?_
  refine zr_cs (fun q1 => ?_) (fun q1 => ?_)
  · refine zr_tab (pc := 1) (n := 97) 100 (zq_d eX11_place 1 rfl) q1 (by decide) (by decide) (by decide) rfl (by decide) ?_
    refine zr_iconst (pc := 100) (zq_d eX11_place 6 rfl) zc_i2 ?_
    exact zr_ireturn (pc := 101) (zq_d eX11_place 7 rfl) rfl rfl (Nat.zero_le _) (Nat.zero_le _)
  · refine zr_cs (fun q2 => ?_) (fun q2 => ?_)
    · refine zr_tab (pc := 1) (n := 98) 108 (zq_d eX11_place 1 rfl) q2 (by decide) (by decide) (by decide) rfl (by decide) ?_
      refine zr_iconst (pc := 108) (zq_d eX11_place 14 rfl) zc_im1 ?_
      exact zr_ireturn (pc := 109) (zq_d eX11_place 15 rfl) rfl rfl (Nat.zero_le _) (Nat.zero_le _)
    · refine zr_cs (fun q3 => ?_) (fun q3 => ?_)
      · refine zr_tab (pc := 1) (n := 99) 108 (zq_d eX11_place 1 rfl) q3 (by decide) (by decide) (by decide) rfl (by decide) ?_
        refine zr_iconst (pc := 108) (zq_d eX11_place 14 rfl) zc_im1 ?_
        exact zr_ireturn (pc := 109) (zq_d eX11_place 15 rfl) rfl rfl (Nat.zero_le _) (Nat.zero_le _)
      · refine zr_cs (fun q4 => ?_) (fun q4 => ?_)
        · refine zr_tab (pc := 1) (n := 100) 108 (zq_d eX11_place 1 rfl) q4 (by decide) (by decide) (by decide) rfl (by decide) ?_
          refine zr_iconst (pc := 108) (zq_d eX11_place 14 rfl) zc_im1 ?_
          exact zr_ireturn (pc := 109) (zq_d eX11_place 15 rfl) rfl rfl (Nat.zero_le _) (Nat.zero_le _)
        · refine zr_cs (fun q5 => ?_) (fun q5 => ?_)
          · refine zr_tab (pc := 1) (n := 101) 108 (zq_d eX11_place 1 rfl) q5 (by decide) (by decide) (by decide) rfl (by decide) ?_
            refine zr_iconst (pc := 108) (zq_d eX11_place 14 rfl) zc_im1 ?_
            exact zr_ireturn (pc := 109) (zq_d eX11_place 15 rfl) rfl rfl (Nat.zero_le _) (Nat.zero_le _)
          · refine zr_cs (fun q6 => ?_) (fun q6 => ?_)
            · refine zr_tab (pc := 1) (n := 102) 108 (zq_d eX11_place 1 rfl) q6 (by decide) (by decide) (by decide) rfl (by decide) ?_
              refine zr_iconst (pc := 108) (zq_d eX11_place 14 rfl) zc_im1 ?_
              exact zr_ireturn (pc := 109) (zq_d eX11_place 15 rfl) rfl rfl (Nat.zero_le _) (Nat.zero_le _)
            · refine zr_cs (fun q7 => ?_) (fun q7 => ?_)
              · refine zr_tab (pc := 1) (n := 103) 108 (zq_d eX11_place 1 rfl) q7 (by decide) (by decide) (by decide) rfl (by decide) ?_
                refine zr_iconst (pc := 108) (zq_d eX11_place 14 rfl) zc_im1 ?_
                exact zr_ireturn (pc := 109) (zq_d eX11_place 15 rfl) rfl rfl (Nat.zero_le _) (Nat.zero_le _)
              · refine zr_cs (fun q8 => ?_) (fun q8 => ?_)
                · refine zr_tab (pc := 1) (n := 104) 108 (zq_d eX11_place 1 rfl) q8 (by decide) (by decide) (by decide) rfl (by decide) ?_
                  refine zr_iconst (pc := 108) (zq_d eX11_place 14 rfl) zc_im1 ?_
                  exact zr_ireturn (pc := 109) (zq_d eX11_place 15 rfl) rfl rfl (Nat.zero_le _) (Nat.zero_le _)
                · refine zr_cs (fun q9 => ?_) (fun q9 => ?_)
                  · refine zr_tab (pc := 1) (n := 105) 108 (zq_d eX11_place 1 rfl) q9 (by decide) (by decide) (by decide) rfl (by decide) ?_
                    refine zr_iconst (pc := 108) (zq_d eX11_place 14 rfl) zc_im1 ?_
                    exact zr_ireturn (pc := 109) (zq_d eX11_place 15 rfl) rfl rfl (Nat.zero_le _) (Nat.zero_le _)
                  · refine zr_cs (fun q10 => ?_) (fun q10 => ?_)
                    · refine zr_tab (pc := 1) (n := 106) 108 (zq_d eX11_place 1 rfl) q10 (by decide) (by decide) (by decide) rfl (by decide) ?_
                      refine zr_iconst (pc := 108) (zq_d eX11_place 14 rfl) zc_im1 ?_
                      exact zr_ireturn (pc := 109) (zq_d eX11_place 15 rfl) rfl rfl (Nat.zero_le _) (Nat.zero_le _)
                    · refine zr_cs (fun q11 => ?_) (fun q11 => ?_)
                      · refine zr_tab (pc := 1) (n := 107) 104 (zq_d eX11_place 1 rfl) q11 (by decide) (by decide) (by decide) rfl (by decide) ?_
                        refine zr_iconst (pc := 104) (zq_d eX11_place 10 rfl) zc_i4 ?_
                        exact zr_ireturn (pc := 105) (zq_d eX11_place 11 rfl) rfl rfl (Nat.zero_le _) (Nat.zero_le _)
                      · refine zr_cs (fun q12 => ?_) (fun q12 => ?_)
                        · refine zr_tab (pc := 1) (n := 108) 108 (zq_d eX11_place 1 rfl) q12 (by decide) (by decide) (by decide) rfl (by decide) ?_
                          refine zr_iconst (pc := 108) (zq_d eX11_place 14 rfl) zc_im1 ?_
                          exact zr_ireturn (pc := 109) (zq_d eX11_place 15 rfl) rfl rfl (Nat.zero_le _) (Nat.zero_le _)
                        · refine zr_cs (fun q13 => ?_) (fun q13 => ?_)
                          · refine zr_tab (pc := 1) (n := 109) 108 (zq_d eX11_place 1 rfl) q13 (by decide) (by decide) (by decide) rfl (by decide) ?_
                            refine zr_iconst (pc := 108) (zq_d eX11_place 14 rfl) zc_im1 ?_
                            exact zr_ireturn (pc := 109) (zq_d eX11_place 15 rfl) rfl rfl (Nat.zero_le _) (Nat.zero_le _)
                          · refine zr_cs (fun q14 => ?_) (fun q14 => ?_)
                            · refine zr_tab (pc := 1) (n := 110) 102 (zq_d eX11_place 1 rfl) q14 (by decide) (by decide) (by decide) rfl (by decide) ?_
                              refine zr_iconst (pc := 102) (zq_d eX11_place 8 rfl) zc_i3 ?_
                              exact zr_ireturn (pc := 103) (zq_d eX11_place 9 rfl) rfl rfl (Nat.zero_le _) (Nat.zero_le _)
                            · refine zr_cs (fun q15 => ?_) (fun q15 => ?_)
                              · refine zr_tab (pc := 1) (n := 111) 108 (zq_d eX11_place 1 rfl) q15 (by decide) (by decide) (by decide) rfl (by decide) ?_
                                refine zr_iconst (pc := 108) (zq_d eX11_place 14 rfl) zc_im1 ?_
                                exact zr_ireturn (pc := 109) (zq_d eX11_place 15 rfl) rfl rfl (Nat.zero_le _) (Nat.zero_le _)
                              · refine zr_cs (fun q16 => ?_) (fun q16 => ?_)
                                · refine zr_tab (pc := 1) (n := 112) 96 (zq_d eX11_place 1 rfl) q16 (by decide) (by decide) (by decide) rfl (by decide) ?_
                                  refine zr_iconst (pc := 96) (zq_d eX11_place 2 rfl) zc_i0 ?_
                                  exact zr_ireturn (pc := 97) (zq_d eX11_place 3 rfl) rfl rfl (Nat.zero_le _) (Nat.zero_le _)
                                · refine zr_cs (fun q17 => ?_) (fun q17 => ?_)
                                  · refine zr_tab (pc := 1) (n := 113) 108 (zq_d eX11_place 1 rfl) q17 (by decide) (by decide) (by decide) rfl (by decide) ?_
                                    refine zr_iconst (pc := 108) (zq_d eX11_place 14 rfl) zc_im1 ?_
                                    exact zr_ireturn (pc := 109) (zq_d eX11_place 15 rfl) rfl rfl (Nat.zero_le _) (Nat.zero_le _)
                                  · refine zr_cs (fun q18 => ?_) (fun q18 => ?_)
                                    · refine zr_tab (pc := 1) (n := 114) 98 (zq_d eX11_place 1 rfl) q18 (by decide) (by decide) (by decide) rfl (by decide) ?_
                                      refine zr_iconst (pc := 98) (zq_d eX11_place 4 rfl) zc_i1 ?_
                                      exact zr_ireturn (pc := 99) (zq_d eX11_place 5 rfl) rfl rfl (Nat.zero_le _) (Nat.zero_le _)
                                    · refine zr_cs (fun q19 => ?_) (fun q19 => ?_)
                                      · refine zr_tab (pc := 1) (n := 115) 108 (zq_d eX11_place 1 rfl) q19 (by decide) (by decide) (by decide) rfl (by decide) ?_
                                        refine zr_iconst (pc := 108) (zq_d eX11_place 14 rfl) zc_im1 ?_
                                        exact zr_ireturn (pc := 109) (zq_d eX11_place 15 rfl) rfl rfl (Nat.zero_le _) (Nat.zero_le _)
                                      · refine zr_cs (fun q20 => ?_) (fun q20 => ?_)
                                        · refine zr_tab (pc := 1) (n := 116) 106 (zq_d eX11_place 1 rfl) q20 (by decide) (by decide) (by decide) rfl (by decide) ?_
                                          refine zr_iconst (pc := 106) (zq_d eX11_place 12 rfl) zc_i5 ?_
                                          exact zr_ireturn (pc := 107) (zq_d eX11_place 13 rfl) rfl rfl (Nat.zero_le _) (Nat.zero_le _)
                                        · refine zr_tabD (pc := 1) 108 (zq_d eX11_place 1 rfl) (by have t0 := zq_nt (n := 97) (by decide) q1; have t1 := zq_nt (n := 98) (by decide) q2; have t2 := zq_nt (n := 99) (by decide) q3; have t3 := zq_nt (n := 100) (by decide) q4; have t4 := zq_nt (n := 101) (by decide) q5; have t5 := zq_nt (n := 102) (by decide) q6; have t6 := zq_nt (n := 103) (by decide) q7; have t7 := zq_nt (n := 104) (by decide) q8; have t8 := zq_nt (n := 105) (by decide) q9; have t9 := zq_nt (n := 106) (by decide) q10; have t10 := zq_nt (n := 107) (by decide) q11; have t11 := zq_nt (n := 108) (by decide) q12; have t12 := zq_nt (n := 109) (by decide) q13; have t13 := zq_nt (n := 110) (by decide) q14; have t14 := zq_nt (n := 111) (by decide) q15; have t15 := zq_nt (n := 112) (by decide) q16; have t16 := zq_nt (n := 113) (by decide) q17; have t17 := zq_nt (n := 114) (by decide) q18; have t18 := zq_nt (n := 115) (by decide) q19; have t19 := zq_nt (n := 116) (by decide) q20; omega) (by decide) ?_
                                          refine zr_iconst (pc := 108) (zq_d eX11_place 14 rfl) zc_im1 ?_
                                          exact zr_ireturn (pc := 109) (zq_d eX11_place 15 rfl) rfl rfl (Nat.zero_le _) (Nat.zero_le _)
def f_X11_takesTest (N : Nat) (X : zq_M)  : Option (Int32 × zq_M) :=
  (f_X11_next N X).bind (fun v1 => (f_X11_place N X v1).bind (fun v2 => if 0 ≤ v2 then (zq_b (zq_u1 X 69 13 ((X.1 69 13) + (1 : Int32))) (fun X3 => (f_X11_next N X3).bind (fun v4 => (f_X11_within N X3 v4 (60 : Int32) (62 : Int32)).bind (fun v5 => if ¬ v5 = 0 then (zq_b (zq_u1 X3 69 13 ((X3.1 69 13) + (1 : Int32))) (fun X6 => (f_X11_takesNumber N X6).bind (zq_p (fun v7 X8 => if ¬ v7 = 0 then ((f_X11_put N X8 ((((1000 : Int32) * v2) + ((100 : Int32) * (v4 - (60 : Int32)))) + (X8.1 69 14))).bind (fun X9 => (f_X11_whole N X9).bind (fun X10 => some ((1 : Int32), X10)))) else (some ((0 : Int32), X8)))))) else (some ((0 : Int32), X3)))))) else (some ((0 : Int32), X))))
set_option maxRecDepth 20000 in
set_option maxHeartbeats 8000000 in
theorem s_X11_takesTest (G : zq_G) (N z : Nat) (X : zq_M)  : zq_V G YX11_takesTest (4, 0, 0) (zq_si zq_shM z) 0 0 0 (lv_args 0 [.ref (zq_ad G 69)]) [] zq_shM z X (f_X11_takesTest N X ) := by
  unfold f_X11_takesTest
  refine zr_lo (l2 := [(0, .ref (zq_ad G 69))]) [0] rfl ?_
  refine zr_aload_n (pc := 0) (zq_d eX11_takesTest 0 rfl) 0 rfl rfl ?_
  refine zr_aload_n (pc := 1) (zq_d eX11_takesTest 1 rfl) 0 rfl rfl ?_
  refine zr_Vi (pc := 2) [] (zq_d eX11_takesTest 2 rfl) (s_X11_next G N z X ) zd_X11_next zl_RX11_262 om_69 rfl rfl rfl rfl (Nat.le_of_ble_eq_true rfl) (Nat.le_of_ble_eq_true rfl) (Nat.le_of_ble_eq_true rfl) ⟨Nat.le_refl _, Nat.le_refl _⟩ (fun v1 => ?_)
  refine zr_Vi (pc := 5) [_] (zq_d eX11_takesTest 3 rfl) (s_X11_place G N z X _) zd_X11_place zl_RX11_276 om_69 rfl rfl rfl rfl (Nat.le_of_ble_eq_true rfl) (Nat.le_of_ble_eq_true rfl) (Nat.le_of_ble_eq_true rfl) ⟨Nat.le_refl _, Nat.le_refl _⟩ (fun v2 => ?_)
  refine zr_istore_n (pc := 8) (lo2 := [(1, .int v2), (0, .ref (zq_ad G 69))]) (zq_d eX11_takesTest 4 rfl) rfl (Nat.le_of_ble_eq_true rfl) rfl ?_
  refine zr_iload_n (pc := 9) (zq_d eX11_takesTest 5 rfl) 0 rfl rfl ?_
  refine zr_if_ge (pc := 10) 15 (zq_d eX11_takesTest 6 rfl) (by decide) (fun _ => ?_) (fun _ => ?_)
  · refine zr_aload_n (pc := 15) (zq_d eX11_takesTest 9 rfl) 1 rfl rfl ?_
    refine zr_dup (pc := 16) (zq_d eX11_takesTest 10 rfl) rfl ?_
    refine zr_getI (pc := 17) (zq_d eX11_takesTest 11 rfl) zf_RX11_50 km_69_13 ?_
    refine zr_iconst (pc := 20) (zq_d eX11_takesTest 12 rfl) zc_i1 ?_
    refine zr_iadd (pc := 21) (zq_d eX11_takesTest 13 rfl) ?_
    refine zr_putI (pc := 22) (zq_d eX11_takesTest 14 rfl) zf_RX11_50 km_69_13 zn_11_13 (fun X3 => ?_)
    refine zr_aload_n (pc := 25) (zq_d eX11_takesTest 15 rfl) 1 rfl rfl ?_
    refine zr_Vi (pc := 26) [] (zq_d eX11_takesTest 16 rfl) (s_X11_next G N z X3 ) zd_X11_next zl_RX11_262 om_69 rfl rfl rfl rfl (Nat.le_of_ble_eq_true rfl) (Nat.le_of_ble_eq_true rfl) (Nat.le_of_ble_eq_true rfl) ⟨Nat.le_refl _, Nat.le_refl _⟩ (fun v4 => ?_)
    refine zr_istore_n (pc := 29) (lo2 := [(2, .int v4), (1, .int v2), (0, .ref (zq_ad G 69))]) (zq_d eX11_takesTest 17 rfl) rfl (Nat.le_of_ble_eq_true rfl) rfl ?_
    refine zr_aload_n (pc := 30) (zq_d eX11_takesTest 18 rfl) 2 rfl rfl ?_
    refine zr_iload_n (pc := 31) (zq_d eX11_takesTest 19 rfl) 0 rfl rfl ?_
    refine zr_bipush (pc := 32) (zq_d eX11_takesTest 20 rfl) zc_b60 ?_
    refine zr_bipush (pc := 34) (zq_d eX11_takesTest 21 rfl) zc_b62 ?_
    refine zr_Vi (pc := 36) [_, _, _] (zq_d eX11_takesTest 22 rfl) (s_X11_within G N z X3 _ _ _) zd_X11_within zl_RX11_217 om_69 rfl rfl rfl rfl (Nat.le_of_ble_eq_true rfl) (Nat.le_of_ble_eq_true rfl) (Nat.le_of_ble_eq_true rfl) ⟨Nat.le_refl _, Nat.le_refl _⟩ (fun v5 => ?_)
    refine zr_if_ne (pc := 39) 44 (zq_d eX11_takesTest 23 rfl) (by decide) (fun _ => ?_) (fun _ => ?_)
    · refine zr_aload_n (pc := 44) (zq_d eX11_takesTest 26 rfl) 2 rfl rfl ?_
      refine zr_dup (pc := 45) (zq_d eX11_takesTest 27 rfl) rfl ?_
      refine zr_getI (pc := 46) (zq_d eX11_takesTest 28 rfl) zf_RX11_50 km_69_13 ?_
      refine zr_iconst (pc := 49) (zq_d eX11_takesTest 29 rfl) zc_i1 ?_
      refine zr_iadd (pc := 50) (zq_d eX11_takesTest 30 rfl) ?_
      refine zr_putI (pc := 51) (zq_d eX11_takesTest 31 rfl) zf_RX11_50 km_69_13 zn_11_13 (fun X6 => ?_)
      refine zr_aload_n (pc := 54) (zq_d eX11_takesTest 32 rfl) 2 rfl rfl ?_
      refine zr_Wsi (pc := 55) [] (zq_d eX11_takesTest 33 rfl) (s_X11_takesNumber G N z X6 ) zd_X11_takesNumber zl_RX11_280 om_69 rfl rfl rfl rfl (Nat.le_of_ble_eq_true rfl) (Nat.le_of_ble_eq_true rfl) (Nat.le_of_ble_eq_true rfl) ⟨Nat.le_refl _, Nat.le_refl _⟩ (fun v7 X8 => ?_)
      refine zr_if_ne (pc := 58) 63 (zq_d eX11_takesTest 34 rfl) (by decide) (fun _ => ?_) (fun _ => ?_)
      · refine zr_aload_n (pc := 63) (zq_d eX11_takesTest 37 rfl) 2 rfl rfl ?_
        refine zr_sipush (pc := 64) (zq_d eX11_takesTest 38 rfl) zc_s1000 ?_
        refine zr_iload_n (pc := 67) (zq_d eX11_takesTest 39 rfl) 1 rfl rfl ?_
        refine zr_imul (pc := 68) (zq_d eX11_takesTest 40 rfl) ?_
        refine zr_bipush (pc := 69) (zq_d eX11_takesTest 41 rfl) zc_b100 ?_
        refine zr_iload_n (pc := 71) (zq_d eX11_takesTest 42 rfl) 0 rfl rfl ?_
        refine zr_bipush (pc := 72) (zq_d eX11_takesTest 43 rfl) zc_b60 ?_
        refine zr_isub (pc := 74) (zq_d eX11_takesTest 44 rfl) ?_
        refine zr_imul (pc := 75) (zq_d eX11_takesTest 45 rfl) ?_
        refine zr_iadd (pc := 76) (zq_d eX11_takesTest 46 rfl) ?_
        refine zr_aload_n (pc := 77) (zq_d eX11_takesTest 47 rfl) 2 rfl rfl ?_
        refine zr_getI (pc := 78) (zq_d eX11_takesTest 48 rfl) zf_RX11_53 km_69_14 ?_
        refine zr_iadd (pc := 81) (zq_d eX11_takesTest 49 rfl) ?_
        refine zr_Vv (pc := 82) [_] (zq_d eX11_takesTest 50 rfl) (s_X11_put G N z X8 _) zd_X11_put zl_RX11_272 om_69 rfl rfl rfl rfl (Nat.le_of_ble_eq_true rfl) (Nat.le_of_ble_eq_true rfl) (Nat.le_of_ble_eq_true rfl) ⟨Nat.le_refl _, Nat.le_refl _⟩ (fun X9 => ?_)
        refine zr_aload_n (pc := 85) (zq_d eX11_takesTest 51 rfl) 2 rfl rfl ?_
        refine zr_Vv (pc := 86) [] (zq_d eX11_takesTest 52 rfl) (s_X11_whole G N z X9 ) zd_X11_whole zl_RX11_283 om_69 rfl rfl rfl rfl (Nat.le_of_ble_eq_true rfl) (Nat.le_of_ble_eq_true rfl) (Nat.le_of_ble_eq_true rfl) ⟨Nat.le_refl _, Nat.le_refl _⟩ (fun X10 => ?_)
        refine zr_iconst (pc := 89) (zq_d eX11_takesTest 53 rfl) zc_i1 ?_
        exact zr_zreturn (pc := 90) (zq_d eX11_takesTest 54 rfl) rfl rfl rfl (Nat.zero_le _) (Nat.zero_le _)
      · refine zr_iconst (pc := 61) (zq_d eX11_takesTest 35 rfl) zc_i0 ?_
        exact zr_zreturn (pc := 62) (zq_d eX11_takesTest 36 rfl) rfl rfl rfl (Nat.zero_le _) (Nat.zero_le _)
    · refine zr_iconst (pc := 42) (zq_d eX11_takesTest 24 rfl) zc_i0 ?_
      exact zr_zreturn (pc := 43) (zq_d eX11_takesTest 25 rfl) rfl rfl rfl (Nat.zero_le _) (Nat.zero_le _)
  · refine zr_iconst (pc := 13) (zq_d eX11_takesTest 7 rfl) zc_i0 ?_
    exact zr_zreturn (pc := 14) (zq_d eX11_takesTest 8 rfl) rfl rfl rfl (Nat.zero_le _) (Nat.zero_le _)
def j_X11_takesE_122 (N : Nat) (X5 : zq_M) (rc22_1 : Int32 → zq_M → Option (Int32 × zq_M)) (v6 : Int32)  : Option (Int32 × zq_M) :=
  (f_X11_settle N X5 v6).bind (fun X7 => zq_ck (X7.1 69 24) 101 (zq_b (zq_u1 X7 82 (zq_ix (X7.1 69 24)) v6) (fun X8 => zq_b (zq_u1 X8 69 24 ((X8.1 69 24) + (1 : Int32))) (fun X9 => zq_b (zq_u1 X9 69 13 ((X9.1 69 13) + (1 : Int32))) (fun X10 => rc22_1 (1 : Int32) X10)))))
def j_X11_takesE_43 (v4 : Int32) (X5 : zq_M) (rc22_1 : Int32 → zq_M → Option (Int32 × zq_M)) (v6 : Int32)  : Option (Int32 × zq_M) :=
  if ¬ (X5.1 69 25) = (4 : Int32) then (zq_b (zq_u1 X5 69 25 ((X5.1 69 25) + (1 : Int32))) (fun X17 => zq_ck (X17.1 69 24) 101 (zq_b (zq_u1 X17 82 (zq_ix (X17.1 69 24)) v6) (fun X18 => zq_b (zq_u1 X18 69 24 ((X18.1 69 24) + (1 : Int32))) (fun X19 => zq_b (zq_u1 X19 69 13 ((X19.1 69 13) + (1 : Int32))) (fun X20 => rc22_1 v4 X20)))))) else (some ((0 : Int32), X5))
def b_X11_takesE_22 (N : Nat) (a1 : Int32) (rc22_1 : Int32 → zq_M → Option (Int32 × zq_M)) (v4 : Int32) (X5 : zq_M) : Option (Int32 × zq_M) :=
  (f_X11_next N X5).bind (fun v6 => if v4 = 0 then (if v6 = (38 : Int32) then (j_X11_takesE_122 N X5 rc22_1 v6) else (if ¬ v6 = (124 : Int32) then ((f_X11_settle N X5 (124 : Int32)).bind (fun X11 => zq_ck a1 60 (zq_b (zq_u1 X11 80 (zq_ix a1) (X11.1 69 23)) (fun X12 => if ¬ (X12.1 69 24) = 0 then (if v6 = (41 : Int32) then (zq_b (zq_u1 X12 69 24 ((X12.1 69 24) - (1 : Int32))) (fun X13 => zq_b (zq_u1 X13 69 25 ((X13.1 69 25) - (1 : Int32))) (fun X14 => zq_b (zq_u1 X14 69 13 ((X14.1 69 13) + (1 : Int32))) (fun X15 => (f_X11_whole N X15).bind (fun X16 => rc22_1 v4 X16))))) else (some ((0 : Int32), X12))) else (some ((1 : Int32), X12)))))) else (j_X11_takesE_122 N X5 rc22_1 v6))) else (if v6 = (33 : Int32) then (j_X11_takesE_43 v4 X5 rc22_1 v6) else (if ¬ v6 = (40 : Int32) then ((f_X11_takesTest N X5).bind (zq_p (fun v21 X22 => if v21 = 0 then (some ((0 : Int32), X22)) else (rc22_1 (0 : Int32) X22)))) else (j_X11_takesE_43 v4 X5 rc22_1 v6))))
def f_X11_takesE (N : Nat) (X : zq_M) (a1 : Int32) : Option (Int32 × zq_M) :=
  zq_b (zq_u1 X 69 24 (0 : Int32)) (fun X1 => zq_b (zq_u1 X1 69 25 (0 : Int32)) (fun X2 => zq_ck a1 60 (zq_b (zq_u1 X2 79 (zq_ix a1) (X2.1 69 23)) (fun X3 => zq_loop (fun _ _ => none) (b_X11_takesE_22 N a1) N (1 : Int32) X3))))
set_option maxRecDepth 20000 in
set_option maxHeartbeats 8000000 in
theorem s_X11_takesE (G : zq_G) (N z : Nat) (X : zq_M) (a1 : Int32) : zq_V G YX11_takesE (5, 0, 0) (zq_si zq_shM z) 0 0 0 (lv_args 0 [.ref (zq_ad G 69), .int a1]) [] zq_shM z X (f_X11_takesE N X a1) := by
  unfold f_X11_takesE
  refine zr_lo (l2 := [(0, .ref (zq_ad G 69)), (1, .int a1)]) [0, 1] rfl ?_
  refine zr_aload_n (pc := 0) (zq_d eX11_takesE 0 rfl) 0 rfl rfl ?_
  refine zr_iconst (pc := 1) (zq_d eX11_takesE 1 rfl) zc_i0 ?_
  refine zr_putI (pc := 2) (zq_d eX11_takesE 2 rfl) zf_RX11_83 km_69_24 zn_11_24 (fun X1 => ?_)
  refine zr_aload_n (pc := 5) (zq_d eX11_takesE 3 rfl) 0 rfl rfl ?_
  refine zr_iconst (pc := 6) (zq_d eX11_takesE 4 rfl) zc_i0 ?_
  refine zr_putI (pc := 7) (zq_d eX11_takesE 5 rfl) zf_RX11_86 km_69_25 zn_11_25 (fun X2 => ?_)
  refine zr_aload_n (pc := 10) (zq_d eX11_takesE 6 rfl) 0 rfl rfl ?_
  refine zr_getC (pc := 11) (zq_d eX11_takesE 7 rfl) zf_RX11_68 km_69_19 ?_
  refine zr_iload_n (pc := 14) (zq_d eX11_takesE 8 rfl) 1 rfl rfl ?_
  refine zr_aload_n (pc := 15) (zq_d eX11_takesE 9 rfl) 0 rfl rfl ?_
  refine zr_getI (pc := 16) (zq_d eX11_takesE 10 rfl) zf_RX11_80 km_69_23 ?_
  refine zr_iast (pc := 19) (zq_d eX11_takesE 11 rfl) am_79 (fun X3 => ?_)
  refine zr_iconst (pc := 20) (zq_d eX11_takesE 12 rfl) zc_i1 ?_
  refine zr_istore_n (pc := 21) (lo2 := [(2, .int (1 : Int32)), (0, .ref (zq_ad G 69)), (1, .int a1)]) (zq_d eX11_takesE 13 rfl) rfl (Nat.le_of_ble_eq_true rfl) rfl ?_
  have hbrc22_1 : ∀ rc22_1 : Int32 → zq_M → Option (Int32 × zq_M), (∀ (v4 : Int32) (X5 : zq_M), zq_V G YX11_takesE (5, 0, 0) (zq_si zq_shM z) 0 0 22 [(0, .ref (zq_ad G 69)), (1, .int a1), (2, .int v4)] [] zq_shM z X5 (rc22_1 v4 X5)) → ∀ (v4 : Int32) (X5 : zq_M), zq_V G YX11_takesE (5, 0, 0) (zq_si zq_shM z) 0 0 22 [(0, .ref (zq_ad G 69)), (1, .int a1), (2, .int v4)] [] zq_shM z X5 (b_X11_takesE_22 N a1 rc22_1 v4 X5) := by
    intro rc22_1 hrc22_1 v4 X5
    unfold b_X11_takesE_22
    refine zr_aload_n (pc := 22) (zq_d eX11_takesE 14 rfl) 0 rfl rfl ?_
    refine zr_Vi (pc := 23) [] (zq_d eX11_takesE 15 rfl) (s_X11_next G N z X5 ) zd_X11_next zl_RX11_262 om_69 rfl rfl rfl rfl (Nat.le_of_ble_eq_true rfl) (Nat.le_of_ble_eq_true rfl) (Nat.le_of_ble_eq_true rfl) ⟨Nat.le_refl _, Nat.le_refl _⟩ (fun v6 => ?_)
    refine zr_istore_n (pc := 26) (lo2 := [(3, .int v6), (0, .ref (zq_ad G 69)), (1, .int a1), (2, .int v4)]) (zq_d eX11_takesE 16 rfl) rfl (Nat.le_of_ble_eq_true rfl) rfl ?_
    refine zr_iload_n (pc := 27) (zq_d eX11_takesE 17 rfl) 3 rfl rfl ?_
    refine zr_if_eq (pc := 28) 110 (zq_d eX11_takesE 18 rfl) (by decide) (fun _ => ?_) (fun _ => ?_)
    · refine zr_iload_n (pc := 110) (zq_d eX11_takesE 64 rfl) 0 rfl rfl ?_
      refine zr_bipush (pc := 111) (zq_d eX11_takesE 65 rfl) zc_b38 ?_
      have hj122_2 : zq_V G YX11_takesE (5, 0, 0) (zq_si zq_shM z) 0 0 122 [(0, .ref (zq_ad G 69)), (1, .int a1), (3, .int v6)] [] zq_shM z X5 (j_X11_takesE_122 N X5 rc22_1 v6) := by
        unfold j_X11_takesE_122
        refine zr_aload_n (pc := 122) (zq_d eX11_takesE 70 rfl) 0 rfl rfl ?_
        refine zr_iload_n (pc := 123) (zq_d eX11_takesE 71 rfl) 2 rfl rfl ?_
        refine zr_Vv (pc := 124) [_] (zq_d eX11_takesE 72 rfl) (s_X11_settle G N z X5 _) zd_X11_settle zl_RX11_289 om_69 rfl rfl rfl rfl (Nat.le_of_ble_eq_true rfl) (Nat.le_of_ble_eq_true rfl) (Nat.le_of_ble_eq_true rfl) ⟨Nat.le_refl _, Nat.le_refl _⟩ (fun X7 => ?_)
        refine zr_aload_n (pc := 127) (zq_d eX11_takesE 73 rfl) 0 rfl rfl ?_
        refine zr_getC (pc := 128) (zq_d eX11_takesE 74 rfl) zf_RX11_77 km_69_22 ?_
        refine zr_aload_n (pc := 131) (zq_d eX11_takesE 75 rfl) 0 rfl rfl ?_
        refine zr_getI (pc := 132) (zq_d eX11_takesE 76 rfl) zf_RX11_83 km_69_24 ?_
        refine zr_iload_n (pc := 135) (zq_d eX11_takesE 77 rfl) 2 rfl rfl ?_
        refine zr_iast (pc := 136) (zq_d eX11_takesE 78 rfl) am_82 (fun X8 => ?_)
        refine zr_aload_n (pc := 137) (zq_d eX11_takesE 79 rfl) 0 rfl rfl ?_
        refine zr_dup (pc := 138) (zq_d eX11_takesE 80 rfl) rfl ?_
        refine zr_getI (pc := 139) (zq_d eX11_takesE 81 rfl) zf_RX11_83 km_69_24 ?_
        refine zr_iconst (pc := 142) (zq_d eX11_takesE 82 rfl) zc_i1 ?_
        refine zr_iadd (pc := 143) (zq_d eX11_takesE 83 rfl) ?_
        refine zr_putI (pc := 144) (zq_d eX11_takesE 84 rfl) zf_RX11_83 km_69_24 zn_11_24 (fun X9 => ?_)
        refine zr_iconst (pc := 147) (zq_d eX11_takesE 85 rfl) zc_i1 ?_
        refine zr_istore_n (pc := 148) (lo2 := [(2, .int (1 : Int32)), (0, .ref (zq_ad G 69)), (1, .int a1), (3, .int v6)]) (zq_d eX11_takesE 86 rfl) rfl (Nat.le_of_ble_eq_true rfl) rfl ?_
        refine zr_aload_n (pc := 149) (zq_d eX11_takesE 87 rfl) 1 rfl rfl ?_
        refine zr_dup (pc := 150) (zq_d eX11_takesE 88 rfl) rfl ?_
        refine zr_getI (pc := 151) (zq_d eX11_takesE 89 rfl) zf_RX11_50 km_69_13 ?_
        refine zr_iconst (pc := 154) (zq_d eX11_takesE 90 rfl) zc_i1 ?_
        refine zr_iadd (pc := 155) (zq_d eX11_takesE 91 rfl) ?_
        refine zr_putI (pc := 156) (zq_d eX11_takesE 92 rfl) zf_RX11_50 km_69_13 zn_11_13 (fun X10 => ?_)
        refine zr_goto (pc := 159) 22 (zq_d eX11_takesE 93 rfl) (by decide) ?_
        exact zr_lo [1, 2, 0] rfl (hrc22_1 (1 : Int32) X10)
      refine zr_icmp_eq (pc := 113) 122 (zq_d eX11_takesE 66 rfl) (by decide) (fun _ => ?_) (fun _ => ?_)
      · exact zr_lo [1, 2, 0] rfl (hj122_2)
      · refine zr_iload_n (pc := 116) (zq_d eX11_takesE 67 rfl) 0 rfl rfl ?_
        refine zr_bipush (pc := 117) (zq_d eX11_takesE 68 rfl) zc_b124 ?_
        refine zr_icmp_ne (pc := 119) 162 (zq_d eX11_takesE 69 rfl) (by decide) (fun _ => ?_) (fun _ => ?_)
        · refine zr_aload_n (pc := 162) (zq_d eX11_takesE 94 rfl) 1 rfl rfl ?_
          refine zr_bipush (pc := 163) (zq_d eX11_takesE 95 rfl) zc_b124 ?_
          refine zr_Vv (pc := 165) [_] (zq_d eX11_takesE 96 rfl) (s_X11_settle G N z X5 _) zd_X11_settle zl_RX11_289 om_69 rfl rfl rfl rfl (Nat.le_of_ble_eq_true rfl) (Nat.le_of_ble_eq_true rfl) (Nat.le_of_ble_eq_true rfl) ⟨Nat.le_refl _, Nat.le_refl _⟩ (fun X11 => ?_)
          refine zr_aload_n (pc := 168) (zq_d eX11_takesE 97 rfl) 1 rfl rfl ?_
          refine zr_getC (pc := 169) (zq_d eX11_takesE 98 rfl) zf_RX11_71 km_69_20 ?_
          refine zr_iload_n (pc := 172) (zq_d eX11_takesE 99 rfl) 2 rfl rfl ?_
          refine zr_aload_n (pc := 173) (zq_d eX11_takesE 100 rfl) 1 rfl rfl ?_
          refine zr_getI (pc := 174) (zq_d eX11_takesE 101 rfl) zf_RX11_80 km_69_23 ?_
          refine zr_iast (pc := 177) (zq_d eX11_takesE 102 rfl) am_80 (fun X12 => ?_)
          refine zr_aload_n (pc := 178) (zq_d eX11_takesE 103 rfl) 1 rfl rfl ?_
          refine zr_getI (pc := 179) (zq_d eX11_takesE 104 rfl) zf_RX11_83 km_69_24 ?_
          refine zr_if_ne (pc := 182) 187 (zq_d eX11_takesE 105 rfl) (by decide) (fun _ => ?_) (fun _ => ?_)
          · refine zr_iload_n (pc := 187) (zq_d eX11_takesE 108 rfl) 0 rfl rfl ?_
            refine zr_bipush (pc := 188) (zq_d eX11_takesE 109 rfl) zc_b41 ?_
            refine zr_icmp_eq (pc := 190) 195 (zq_d eX11_takesE 110 rfl) (by decide) (fun _ => ?_) (fun _ => ?_)
            · refine zr_aload_n (pc := 195) (zq_d eX11_takesE 113 rfl) 1 rfl rfl ?_
              refine zr_dup (pc := 196) (zq_d eX11_takesE 114 rfl) rfl ?_
              refine zr_getI (pc := 197) (zq_d eX11_takesE 115 rfl) zf_RX11_83 km_69_24 ?_
              refine zr_iconst (pc := 200) (zq_d eX11_takesE 116 rfl) zc_i1 ?_
              refine zr_isub (pc := 201) (zq_d eX11_takesE 117 rfl) ?_
              refine zr_putI (pc := 202) (zq_d eX11_takesE 118 rfl) zf_RX11_83 km_69_24 zn_11_24 (fun X13 => ?_)
              refine zr_aload_n (pc := 205) (zq_d eX11_takesE 119 rfl) 1 rfl rfl ?_
              refine zr_dup (pc := 206) (zq_d eX11_takesE 120 rfl) rfl ?_
              refine zr_getI (pc := 207) (zq_d eX11_takesE 121 rfl) zf_RX11_86 km_69_25 ?_
              refine zr_iconst (pc := 210) (zq_d eX11_takesE 122 rfl) zc_i1 ?_
              refine zr_isub (pc := 211) (zq_d eX11_takesE 123 rfl) ?_
              refine zr_putI (pc := 212) (zq_d eX11_takesE 124 rfl) zf_RX11_86 km_69_25 zn_11_25 (fun X14 => ?_)
              refine zr_aload_n (pc := 215) (zq_d eX11_takesE 125 rfl) 1 rfl rfl ?_
              refine zr_dup (pc := 216) (zq_d eX11_takesE 126 rfl) rfl ?_
              refine zr_getI (pc := 217) (zq_d eX11_takesE 127 rfl) zf_RX11_50 km_69_13 ?_
              refine zr_iconst (pc := 220) (zq_d eX11_takesE 128 rfl) zc_i1 ?_
              refine zr_iadd (pc := 221) (zq_d eX11_takesE 129 rfl) ?_
              refine zr_putI (pc := 222) (zq_d eX11_takesE 130 rfl) zf_RX11_50 km_69_13 zn_11_13 (fun X15 => ?_)
              refine zr_aload_n (pc := 225) (zq_d eX11_takesE 131 rfl) 1 rfl rfl ?_
              refine zr_Vv (pc := 226) [] (zq_d eX11_takesE 132 rfl) (s_X11_whole G N z X15 ) zd_X11_whole zl_RX11_283 om_69 rfl rfl rfl rfl (Nat.le_of_ble_eq_true rfl) (Nat.le_of_ble_eq_true rfl) (Nat.le_of_ble_eq_true rfl) ⟨Nat.le_refl _, Nat.le_refl _⟩ (fun X16 => ?_)
              refine zr_goto (pc := 229) 22 (zq_d eX11_takesE 133 rfl) (by decide) ?_
              exact zr_lo [1, 2, 3] rfl (hrc22_1 v4 X16)
            · refine zr_iconst (pc := 193) (zq_d eX11_takesE 111 rfl) zc_i0 ?_
              exact zr_zreturn (pc := 194) (zq_d eX11_takesE 112 rfl) rfl rfl rfl (Nat.zero_le _) (Nat.zero_le _)
          · refine zr_iconst (pc := 185) (zq_d eX11_takesE 106 rfl) zc_i1 ?_
            exact zr_zreturn (pc := 186) (zq_d eX11_takesE 107 rfl) rfl rfl rfl (Nat.zero_le _) (Nat.zero_le _)
        · exact zr_lo [1, 2, 0] rfl (hj122_2)
    · refine zr_iload_n (pc := 31) (zq_d eX11_takesE 19 rfl) 0 rfl rfl ?_
      refine zr_bipush (pc := 32) (zq_d eX11_takesE 20 rfl) zc_b33 ?_
      have hj43_3 : zq_V G YX11_takesE (5, 0, 0) (zq_si zq_shM z) 0 0 43 [(0, .ref (zq_ad G 69)), (1, .int a1), (2, .int v4), (3, .int v6)] [] zq_shM z X5 (j_X11_takesE_43 v4 X5 rc22_1 v6) := by
        unfold j_X11_takesE_43
        refine zr_aload_n (pc := 43) (zq_d eX11_takesE 25 rfl) 0 rfl rfl ?_
        refine zr_getI (pc := 44) (zq_d eX11_takesE 26 rfl) zf_RX11_86 km_69_25 ?_
        refine zr_iconst (pc := 47) (zq_d eX11_takesE 27 rfl) zc_i4 ?_
        refine zr_icmp_ne (pc := 48) 53 (zq_d eX11_takesE 28 rfl) (by decide) (fun _ => ?_) (fun _ => ?_)
        · refine zr_aload_n (pc := 53) (zq_d eX11_takesE 31 rfl) 0 rfl rfl ?_
          refine zr_dup (pc := 54) (zq_d eX11_takesE 32 rfl) rfl ?_
          refine zr_getI (pc := 55) (zq_d eX11_takesE 33 rfl) zf_RX11_86 km_69_25 ?_
          refine zr_iconst (pc := 58) (zq_d eX11_takesE 34 rfl) zc_i1 ?_
          refine zr_iadd (pc := 59) (zq_d eX11_takesE 35 rfl) ?_
          refine zr_putI (pc := 60) (zq_d eX11_takesE 36 rfl) zf_RX11_86 km_69_25 zn_11_25 (fun X17 => ?_)
          refine zr_aload_n (pc := 63) (zq_d eX11_takesE 37 rfl) 0 rfl rfl ?_
          refine zr_getC (pc := 64) (zq_d eX11_takesE 38 rfl) zf_RX11_77 km_69_22 ?_
          refine zr_aload_n (pc := 67) (zq_d eX11_takesE 39 rfl) 0 rfl rfl ?_
          refine zr_getI (pc := 68) (zq_d eX11_takesE 40 rfl) zf_RX11_83 km_69_24 ?_
          refine zr_iload_n (pc := 71) (zq_d eX11_takesE 41 rfl) 3 rfl rfl ?_
          refine zr_iast (pc := 72) (zq_d eX11_takesE 42 rfl) am_82 (fun X18 => ?_)
          refine zr_aload_n (pc := 73) (zq_d eX11_takesE 43 rfl) 0 rfl rfl ?_
          refine zr_dup (pc := 74) (zq_d eX11_takesE 44 rfl) rfl ?_
          refine zr_getI (pc := 75) (zq_d eX11_takesE 45 rfl) zf_RX11_83 km_69_24 ?_
          refine zr_iconst (pc := 78) (zq_d eX11_takesE 46 rfl) zc_i1 ?_
          refine zr_iadd (pc := 79) (zq_d eX11_takesE 47 rfl) ?_
          refine zr_putI (pc := 80) (zq_d eX11_takesE 48 rfl) zf_RX11_83 km_69_24 zn_11_24 (fun X19 => ?_)
          refine zr_aload_n (pc := 83) (zq_d eX11_takesE 49 rfl) 0 rfl rfl ?_
          refine zr_dup (pc := 84) (zq_d eX11_takesE 50 rfl) rfl ?_
          refine zr_getI (pc := 85) (zq_d eX11_takesE 51 rfl) zf_RX11_50 km_69_13 ?_
          refine zr_iconst (pc := 88) (zq_d eX11_takesE 52 rfl) zc_i1 ?_
          refine zr_iadd (pc := 89) (zq_d eX11_takesE 53 rfl) ?_
          refine zr_putI (pc := 90) (zq_d eX11_takesE 54 rfl) zf_RX11_50 km_69_13 zn_11_13 (fun X20 => ?_)
          refine zr_goto (pc := 93) 22 (zq_d eX11_takesE 55 rfl) (by decide) ?_
          exact zr_lo [0, 1, 2] rfl (hrc22_1 v4 X20)
        · refine zr_iconst (pc := 51) (zq_d eX11_takesE 29 rfl) zc_i0 ?_
          exact zr_zreturn (pc := 52) (zq_d eX11_takesE 30 rfl) rfl rfl rfl (Nat.zero_le _) (Nat.zero_le _)
      refine zr_icmp_eq (pc := 34) 43 (zq_d eX11_takesE 21 rfl) (by decide) (fun _ => ?_) (fun _ => ?_)
      · exact zr_lo [1, 2, 3, 0] rfl (hj43_3)
      · refine zr_iload_n (pc := 37) (zq_d eX11_takesE 22 rfl) 0 rfl rfl ?_
        refine zr_bipush (pc := 38) (zq_d eX11_takesE 23 rfl) zc_b40 ?_
        refine zr_icmp_ne (pc := 40) 96 (zq_d eX11_takesE 24 rfl) (by decide) (fun _ => ?_) (fun _ => ?_)
        · refine zr_aload_n (pc := 96) (zq_d eX11_takesE 56 rfl) 1 rfl rfl ?_
          refine zr_Wsi (pc := 97) [] (zq_d eX11_takesE 57 rfl) (s_X11_takesTest G N z X5 ) zd_X11_takesTest zl_RX11_286 om_69 rfl rfl rfl rfl (Nat.le_of_ble_eq_true rfl) (Nat.le_of_ble_eq_true rfl) (Nat.le_of_ble_eq_true rfl) ⟨Nat.le_refl _, Nat.le_refl _⟩ (fun v21 X22 => ?_)
          refine zr_if_eq (pc := 100) 108 (zq_d eX11_takesE 58 rfl) (by decide) (fun _ => ?_) (fun _ => ?_)
          · refine zr_iconst (pc := 108) (zq_d eX11_takesE 62 rfl) zc_i0 ?_
            exact zr_zreturn (pc := 109) (zq_d eX11_takesE 63 rfl) rfl rfl rfl (Nat.zero_le _) (Nat.zero_le _)
          · refine zr_iconst (pc := 103) (zq_d eX11_takesE 59 rfl) zc_i0 ?_
            refine zr_istore_n (pc := 104) (lo2 := [(2, .int (0 : Int32)), (3, .int v6), (0, .ref (zq_ad G 69)), (1, .int a1)]) (zq_d eX11_takesE 60 rfl) rfl (Nat.le_of_ble_eq_true rfl) rfl ?_
            refine zr_goto (pc := 105) 22 (zq_d eX11_takesE 61 rfl) (by decide) ?_
            exact zr_lo [2, 3, 0] rfl (hrc22_1 (0 : Int32) X22)
        · exact zr_lo [1, 2, 3, 0] rfl (hj43_3)
  have hlrc22_1 := zr_loop (P := fun (rc22_1 : Int32 → zq_M → Option (Int32 × zq_M)) => ∀ (v4 : Int32) (X5 : zq_M), zq_V G YX11_takesE (5, 0, 0) (zq_si zq_shM z) 0 0 22 [(0, .ref (zq_ad G 69)), (1, .int a1), (2, .int v4)] [] zq_shM z X5 (rc22_1 v4 X5)) (fun _ _ => none) (b_X11_takesE_22 N a1) (fun _ _ => zr_none) hbrc22_1 N
  exact zr_lo [1, 2, 0] rfl (hlrc22_1 (1 : Int32) X3)
def f_X11_takesHead (N : Nat) (X : zq_M) (a1 : Int32) : Option (Int32 × zq_M) :=
  (f_X11_next N X).bind (fun v1 => if v1 = (98 : Int32) then (zq_ck a1 60 (zq_b (zq_u1 X 77 (zq_ix a1) (1 : Int32)) (fun X11 => (f_X11_takesWord N X11 (5 : Int32) (3 : Int32)).bind (zq_p (fun v12 X13 => zq_gz v12 (some (v12, X13))))))) else (if v1 = (112 : Int32) then (zq_ck a1 60 (zq_b (zq_u1 X 77 (zq_ix a1) (0 : Int32)) (fun X8 => (f_X11_takesWord N X8 (0 : Int32) (5 : Int32)).bind (zq_p (fun v9 X10 => zq_gz v9 (some (v9, X10))))))) else (if v1 = (119 : Int32) then (zq_ck a1 60 (zq_b (zq_u1 X 77 (zq_ix a1) (2 : Int32)) (fun X5 => (f_X11_takesWord N X5 (8 : Int32) (5 : Int32)).bind (zq_p (fun v6 X7 => zq_gz v6 (some (v6, X7))))))) else (zq_ck a1 60 (zq_b (zq_u1 X 77 (zq_ix a1) (3 : Int32)) (fun X2 => (f_X11_takesWord N X2 (13 : Int32) (4 : Int32)).bind (zq_p (fun v3 X4 => zq_gz v3 (some (v3, X4))))))))))
set_option maxRecDepth 20000 in
set_option maxHeartbeats 8000000 in
theorem s_X11_takesHead (G : zq_G) (N z : Nat) (X : zq_M) (a1 : Int32) : zq_V G YX11_takesHead (4, 0, 0) (zq_si zq_shM z) 0 0 0 (lv_args 0 [.ref (zq_ad G 69), .int a1]) [] zq_shM z X (f_X11_takesHead N X a1) := by
  unfold f_X11_takesHead
  refine zr_lo (l2 := [(0, .ref (zq_ad G 69)), (1, .int a1)]) [0, 1] rfl ?_
  refine zr_aload_n (pc := 0) (zq_d eX11_takesHead 0 rfl) 0 rfl rfl ?_
  refine zr_Vi (pc := 1) [] (zq_d eX11_takesHead 1 rfl) (s_X11_next G N z X ) zd_X11_next zl_RX11_262 om_69 rfl rfl rfl rfl (Nat.le_of_ble_eq_true rfl) (Nat.le_of_ble_eq_true rfl) (Nat.le_of_ble_eq_true rfl) ⟨Nat.le_refl _, Nat.le_refl _⟩ (fun v1 => ?_)
  refine zr_cs (fun q1 => ?_) (fun q1 => ?_)
  · refine zr_lok (pc := 4) (n := 98) 54 (zq_d eX11_takesHead 2 rfl) q1 (by decide) (by decide) rfl (by decide) ?_
    refine zr_aload_n (pc := 54) (zq_d eX11_takesHead 13 rfl) 0 rfl rfl ?_
    refine zr_getC (pc := 55) (zq_d eX11_takesHead 14 rfl) zf_RX11_62 km_69_17 ?_
    refine zr_iload_n (pc := 58) (zq_d eX11_takesHead 15 rfl) 1 rfl rfl ?_
    refine zr_iconst (pc := 59) (zq_d eX11_takesHead 16 rfl) zc_i1 ?_
    refine zr_iast (pc := 60) (zq_d eX11_takesHead 17 rfl) am_77 (fun X11 => ?_)
    refine zr_aload_n (pc := 61) (zq_d eX11_takesHead 18 rfl) 0 rfl rfl ?_
    refine zr_iconst (pc := 62) (zq_d eX11_takesHead 19 rfl) zc_i5 ?_
    refine zr_iconst (pc := 63) (zq_d eX11_takesHead 20 rfl) zc_i3 ?_
    refine zr_Wsi (pc := 64) [_, _] (zq_d eX11_takesHead 21 rfl) (s_X11_takesWord G N z X11 _ _) zd_X11_takesWord zl_RX11_292 om_69 rfl rfl rfl rfl (Nat.le_of_ble_eq_true rfl) (Nat.le_of_ble_eq_true rfl) (Nat.le_of_ble_eq_true rfl) ⟨Nat.le_refl _, Nat.le_refl _⟩ (fun v12 X13 => ?_)
    exact zr_zreturnG (pc := 67) (zq_d eX11_takesHead 22 rfl) rfl rfl (Nat.zero_le _) (Nat.zero_le _)
  · refine zr_cs (fun q2 => ?_) (fun q2 => ?_)
    · refine zr_lok (pc := 4) (n := 112) 40 (zq_d eX11_takesHead 2 rfl) q2 (by decide) (by decide) rfl (by decide) ?_
      refine zr_aload_n (pc := 40) (zq_d eX11_takesHead 3 rfl) 0 rfl rfl ?_
      refine zr_getC (pc := 41) (zq_d eX11_takesHead 4 rfl) zf_RX11_62 km_69_17 ?_
      refine zr_iload_n (pc := 44) (zq_d eX11_takesHead 5 rfl) 1 rfl rfl ?_
      refine zr_iconst (pc := 45) (zq_d eX11_takesHead 6 rfl) zc_i0 ?_
      refine zr_iast (pc := 46) (zq_d eX11_takesHead 7 rfl) am_77 (fun X8 => ?_)
      refine zr_aload_n (pc := 47) (zq_d eX11_takesHead 8 rfl) 0 rfl rfl ?_
      refine zr_iconst (pc := 48) (zq_d eX11_takesHead 9 rfl) zc_i0 ?_
      refine zr_iconst (pc := 49) (zq_d eX11_takesHead 10 rfl) zc_i5 ?_
      refine zr_Wsi (pc := 50) [_, _] (zq_d eX11_takesHead 11 rfl) (s_X11_takesWord G N z X8 _ _) zd_X11_takesWord zl_RX11_292 om_69 rfl rfl rfl rfl (Nat.le_of_ble_eq_true rfl) (Nat.le_of_ble_eq_true rfl) (Nat.le_of_ble_eq_true rfl) ⟨Nat.le_refl _, Nat.le_refl _⟩ (fun v9 X10 => ?_)
      exact zr_zreturnG (pc := 53) (zq_d eX11_takesHead 12 rfl) rfl rfl (Nat.zero_le _) (Nat.zero_le _)
    · refine zr_cs (fun q3 => ?_) (fun q3 => ?_)
      · refine zr_lok (pc := 4) (n := 119) 68 (zq_d eX11_takesHead 2 rfl) q3 (by decide) (by decide) rfl (by decide) ?_
        refine zr_aload_n (pc := 68) (zq_d eX11_takesHead 23 rfl) 0 rfl rfl ?_
        refine zr_getC (pc := 69) (zq_d eX11_takesHead 24 rfl) zf_RX11_62 km_69_17 ?_
        refine zr_iload_n (pc := 72) (zq_d eX11_takesHead 25 rfl) 1 rfl rfl ?_
        refine zr_iconst (pc := 73) (zq_d eX11_takesHead 26 rfl) zc_i2 ?_
        refine zr_iast (pc := 74) (zq_d eX11_takesHead 27 rfl) am_77 (fun X5 => ?_)
        refine zr_aload_n (pc := 75) (zq_d eX11_takesHead 28 rfl) 0 rfl rfl ?_
        refine zr_bipush (pc := 76) (zq_d eX11_takesHead 29 rfl) zc_b8 ?_
        refine zr_iconst (pc := 78) (zq_d eX11_takesHead 30 rfl) zc_i5 ?_
        refine zr_Wsi (pc := 79) [_, _] (zq_d eX11_takesHead 31 rfl) (s_X11_takesWord G N z X5 _ _) zd_X11_takesWord zl_RX11_292 om_69 rfl rfl rfl rfl (Nat.le_of_ble_eq_true rfl) (Nat.le_of_ble_eq_true rfl) (Nat.le_of_ble_eq_true rfl) ⟨Nat.le_refl _, Nat.le_refl _⟩ (fun v6 X7 => ?_)
        exact zr_zreturnG (pc := 82) (zq_d eX11_takesHead 32 rfl) rfl rfl (Nat.zero_le _) (Nat.zero_le _)
      · refine zr_lokD (pc := 4) 83 (zq_d eX11_takesHead 2 rfl) (by decide) (List.forall_mem_cons.mpr ⟨zq_nt (by decide) q1, List.forall_mem_cons.mpr ⟨zq_nt (by decide) q2, List.forall_mem_cons.mpr ⟨zq_nt (by decide) q3, List.forall_mem_nil _⟩⟩⟩) (by decide) ?_
        refine zr_aload_n (pc := 83) (zq_d eX11_takesHead 33 rfl) 0 rfl rfl ?_
        refine zr_getC (pc := 84) (zq_d eX11_takesHead 34 rfl) zf_RX11_62 km_69_17 ?_
        refine zr_iload_n (pc := 87) (zq_d eX11_takesHead 35 rfl) 1 rfl rfl ?_
        refine zr_iconst (pc := 88) (zq_d eX11_takesHead 36 rfl) zc_i3 ?_
        refine zr_iast (pc := 89) (zq_d eX11_takesHead 37 rfl) am_77 (fun X2 => ?_)
        refine zr_aload_n (pc := 90) (zq_d eX11_takesHead 38 rfl) 0 rfl rfl ?_
        refine zr_bipush (pc := 91) (zq_d eX11_takesHead 39 rfl) zc_b13 ?_
        refine zr_iconst (pc := 93) (zq_d eX11_takesHead 40 rfl) zc_i4 ?_
        refine zr_Wsi (pc := 94) [_, _] (zq_d eX11_takesHead 41 rfl) (s_X11_takesWord G N z X2 _ _) zd_X11_takesWord zl_RX11_292 om_69 rfl rfl rfl rfl (Nat.le_of_ble_eq_true rfl) (Nat.le_of_ble_eq_true rfl) (Nat.le_of_ble_eq_true rfl) ⟨Nat.le_refl _, Nat.le_refl _⟩ (fun v3 X4 => ?_)
        exact zr_zreturnG (pc := 97) (zq_d eX11_takesHead 42 rfl) rfl rfl (Nat.zero_le _) (Nat.zero_le _)
def f_X11_takesClause (N : Nat) (X : zq_M) (a1 : Int32) : Option (Int32 × zq_M) :=
  (f_X11_takesHead N X a1).bind (zq_p (fun v1 X2 => if ¬ v1 = 0 then (zq_ck a1 60 (if ¬ (X2.1 77 (zq_ix a1)) = (1 : Int32) then ((f_X11_takesNumber N X2).bind (zq_p (fun v3 X4 => if ¬ v3 = 0 then (zq_ck a1 60 (zq_b (zq_u1 X4 78 (zq_ix a1) (X4.1 69 14)) (fun X5 => zq_ck a1 60 (if (X5.1 77 (zq_ix a1)) = (3 : Int32) then (some ((1 : Int32), X5)) else ((f_X11_takes N X5 (32 : Int32)).bind (zq_p (fun v6 X7 => if v6 = 0 then (some ((0 : Int32), X7)) else ((f_X11_takesE N X7 a1).bind (zq_p (fun v8 X9 => if v8 = 0 then (some ((0 : Int32), X9)) else (some ((1 : Int32), X9)))))))))))) else (some ((0 : Int32), X4))))) else ((f_X11_takesE N X2 a1).bind (zq_p (fun v10 X11 => zq_gz v10 (some (v10, X11))))))) else (some ((0 : Int32), X2))))
set_option maxRecDepth 20000 in
set_option maxHeartbeats 8000000 in
theorem s_X11_takesClause (G : zq_G) (N z : Nat) (X : zq_M) (a1 : Int32) : zq_V G YX11_takesClause (6, 0, 0) (zq_si zq_shM z) 0 0 0 (lv_args 0 [.ref (zq_ad G 69), .int a1]) [] zq_shM z X (f_X11_takesClause N X a1) := by
  unfold f_X11_takesClause
  refine zr_lo (l2 := [(0, .ref (zq_ad G 69)), (1, .int a1)]) [0, 1] rfl ?_
  refine zr_aload_n (pc := 0) (zq_d eX11_takesClause 0 rfl) 0 rfl rfl ?_
  refine zr_iload_n (pc := 1) (zq_d eX11_takesClause 1 rfl) 1 rfl rfl ?_
  refine zr_Wsi (pc := 2) [_] (zq_d eX11_takesClause 2 rfl) (s_X11_takesHead G N z X _) zd_X11_takesHead zl_RX11_296 om_69 rfl rfl rfl rfl (Nat.le_of_ble_eq_true rfl) (Nat.le_of_ble_eq_true rfl) (Nat.le_of_ble_eq_true rfl) ⟨Nat.le_refl _, Nat.le_refl _⟩ (fun v1 X2 => ?_)
  refine zr_if_ne (pc := 5) 10 (zq_d eX11_takesClause 3 rfl) (by decide) (fun _ => ?_) (fun _ => ?_)
  · refine zr_aload_n (pc := 10) (zq_d eX11_takesClause 6 rfl) 0 rfl rfl ?_
    refine zr_getC (pc := 11) (zq_d eX11_takesClause 7 rfl) zf_RX11_62 km_69_17 ?_
    refine zr_iload_n (pc := 14) (zq_d eX11_takesClause 8 rfl) 1 rfl rfl ?_
    refine zr_iald (pc := 15) (zq_d eX11_takesClause 9 rfl) am_77 ?_
    refine zr_iconst (pc := 16) (zq_d eX11_takesClause 10 rfl) zc_i1 ?_
    refine zr_icmp_ne (pc := 17) 26 (zq_d eX11_takesClause 11 rfl) (by decide) (fun _ => ?_) (fun _ => ?_)
    · refine zr_aload_n (pc := 26) (zq_d eX11_takesClause 16 rfl) 0 rfl rfl ?_
      refine zr_Wsi (pc := 27) [] (zq_d eX11_takesClause 17 rfl) (s_X11_takesNumber G N z X2 ) zd_X11_takesNumber zl_RX11_280 om_69 rfl rfl rfl rfl (Nat.le_of_ble_eq_true rfl) (Nat.le_of_ble_eq_true rfl) (Nat.le_of_ble_eq_true rfl) ⟨Nat.le_refl _, Nat.le_refl _⟩ (fun v3 X4 => ?_)
      refine zr_if_ne (pc := 30) 35 (zq_d eX11_takesClause 18 rfl) (by decide) (fun _ => ?_) (fun _ => ?_)
      · refine zr_aload_n (pc := 35) (zq_d eX11_takesClause 21 rfl) 0 rfl rfl ?_
        refine zr_getC (pc := 36) (zq_d eX11_takesClause 22 rfl) zf_RX11_65 km_69_18 ?_
        refine zr_iload_n (pc := 39) (zq_d eX11_takesClause 23 rfl) 1 rfl rfl ?_
        refine zr_aload_n (pc := 40) (zq_d eX11_takesClause 24 rfl) 0 rfl rfl ?_
        refine zr_getI (pc := 41) (zq_d eX11_takesClause 25 rfl) zf_RX11_53 km_69_14 ?_
        refine zr_iast (pc := 44) (zq_d eX11_takesClause 26 rfl) am_78 (fun X5 => ?_)
        refine zr_aload_n (pc := 45) (zq_d eX11_takesClause 27 rfl) 0 rfl rfl ?_
        refine zr_getC (pc := 46) (zq_d eX11_takesClause 28 rfl) zf_RX11_62 km_69_17 ?_
        refine zr_iload_n (pc := 49) (zq_d eX11_takesClause 29 rfl) 1 rfl rfl ?_
        refine zr_iald (pc := 50) (zq_d eX11_takesClause 30 rfl) am_77 ?_
        refine zr_iconst (pc := 51) (zq_d eX11_takesClause 31 rfl) zc_i3 ?_
        refine zr_icmp_eq (pc := 52) 72 (zq_d eX11_takesClause 32 rfl) (by decide) (fun _ => ?_) (fun _ => ?_)
        · refine zr_iconst (pc := 72) (zq_d eX11_takesClause 41 rfl) zc_i1 ?_
          refine zr_goto (pc := 73) 77 (zq_d eX11_takesClause 42 rfl) (by decide) ?_
          exact zr_zreturn (pc := 77) (zq_d eX11_takesClause 44 rfl) rfl rfl rfl (Nat.zero_le _) (Nat.zero_le _)
        · refine zr_aload_n (pc := 55) (zq_d eX11_takesClause 33 rfl) 0 rfl rfl ?_
          refine zr_bipush (pc := 56) (zq_d eX11_takesClause 34 rfl) zc_b32 ?_
          refine zr_Wsi (pc := 58) [_] (zq_d eX11_takesClause 35 rfl) (s_X11_takes G N z X5 _) zd_X11_takes zl_RX11_265 om_69 rfl rfl rfl rfl (Nat.le_of_ble_eq_true rfl) (Nat.le_of_ble_eq_true rfl) (Nat.le_of_ble_eq_true rfl) ⟨Nat.le_refl _, Nat.le_refl _⟩ (fun v6 X7 => ?_)
          refine zr_if_eq (pc := 61) 76 (zq_d eX11_takesClause 36 rfl) (by decide) (fun _ => ?_) (fun _ => ?_)
          · refine zr_iconst (pc := 76) (zq_d eX11_takesClause 43 rfl) zc_i0 ?_
            exact zr_zreturn (pc := 77) (zq_d eX11_takesClause 44 rfl) rfl rfl rfl (Nat.zero_le _) (Nat.zero_le _)
          · refine zr_aload_n (pc := 64) (zq_d eX11_takesClause 37 rfl) 0 rfl rfl ?_
            refine zr_iload_n (pc := 65) (zq_d eX11_takesClause 38 rfl) 1 rfl rfl ?_
            refine zr_Wsi (pc := 66) [_] (zq_d eX11_takesClause 39 rfl) (s_X11_takesE G N z X7 _) zd_X11_takesE zl_RX11_299 om_69 rfl rfl rfl rfl (Nat.le_of_ble_eq_true rfl) (Nat.le_of_ble_eq_true rfl) (Nat.le_of_ble_eq_true rfl) ⟨Nat.le_refl _, Nat.le_refl _⟩ (fun v8 X9 => ?_)
            refine zr_if_eq (pc := 69) 76 (zq_d eX11_takesClause 40 rfl) (by decide) (fun _ => ?_) (fun _ => ?_)
            · refine zr_iconst (pc := 76) (zq_d eX11_takesClause 43 rfl) zc_i0 ?_
              exact zr_zreturn (pc := 77) (zq_d eX11_takesClause 44 rfl) rfl rfl rfl (Nat.zero_le _) (Nat.zero_le _)
            · refine zr_iconst (pc := 72) (zq_d eX11_takesClause 41 rfl) zc_i1 ?_
              refine zr_goto (pc := 73) 77 (zq_d eX11_takesClause 42 rfl) (by decide) ?_
              exact zr_zreturn (pc := 77) (zq_d eX11_takesClause 44 rfl) rfl rfl rfl (Nat.zero_le _) (Nat.zero_le _)
      · refine zr_iconst (pc := 33) (zq_d eX11_takesClause 19 rfl) zc_i0 ?_
        exact zr_zreturn (pc := 34) (zq_d eX11_takesClause 20 rfl) rfl rfl rfl (Nat.zero_le _) (Nat.zero_le _)
    · refine zr_aload_n (pc := 20) (zq_d eX11_takesClause 12 rfl) 0 rfl rfl ?_
      refine zr_iload_n (pc := 21) (zq_d eX11_takesClause 13 rfl) 1 rfl rfl ?_
      refine zr_Wsi (pc := 22) [_] (zq_d eX11_takesClause 14 rfl) (s_X11_takesE G N z X2 _) zd_X11_takesE zl_RX11_299 om_69 rfl rfl rfl rfl (Nat.le_of_ble_eq_true rfl) (Nat.le_of_ble_eq_true rfl) (Nat.le_of_ble_eq_true rfl) ⟨Nat.le_refl _, Nat.le_refl _⟩ (fun v10 X11 => ?_)
      exact zr_zreturnG (pc := 25) (zq_d eX11_takesClause 15 rfl) rfl rfl (Nat.zero_le _) (Nat.zero_le _)
  · refine zr_iconst (pc := 8) (zq_d eX11_takesClause 4 rfl) zc_i0 ?_
    exact zr_zreturn (pc := 9) (zq_d eX11_takesClause 5 rfl) rfl rfl rfl (Nat.zero_le _) (Nat.zero_le _)
def b_X11_goesText_15 (N : Nat) (a1 : Int32) (rc15_1 : Int32 → zq_M → Option (Int32 × zq_M)) (v3 : Int32) (X4 : zq_M) : Option (Int32 × zq_M) :=
  (f_X11_takesClause N X4 (((10 : Int32) * a1) + v3)).bind (zq_p (fun v5 X6 => if ¬ v5 = 0 then (zq_ck a1 6 (zq_b (zq_u1 X6 76 (zq_ix a1) (v3 + (1 : Int32))) (fun X7 => if ¬ (X7.1 69 13) = (X7.1 69 12) then (if (v3 + (1 : Int32)) = (10 : Int32) then (some ((0 : Int32), X7)) else ((f_X11_takes N X7 (59 : Int32)).bind (zq_p (fun v8 X9 => if ¬ v8 = 0 then (rc15_1 (v3 + (1 : Int32)) X9) else (some ((0 : Int32), X9)))))) else (some ((1 : Int32), X7))))) else (some ((0 : Int32), X6))))
def f_X11_goesText (N : Nat) (X : zq_M) (a1 : Int32) : Option (Int32 × zq_M) :=
  zq_b (zq_u1 X 69 13 (0 : Int32)) (fun X1 => zq_b (zq_u1 X1 69 23 ((100 : Int32) * a1)) (fun X2 => zq_loop (fun _ _ => none) (b_X11_goesText_15 N a1) N (0 : Int32) X2))
set_option maxRecDepth 20000 in
set_option maxHeartbeats 8000000 in
theorem s_X11_goesText (G : zq_G) (N z : Nat) (X : zq_M) (a1 : Int32) : zq_V G YX11_goesText (7, 0, 0) (zq_si zq_shM z) 0 0 0 (lv_args 0 [.ref (zq_ad G 69), .int a1]) [] zq_shM z X (f_X11_goesText N X a1) := by
  unfold f_X11_goesText
  refine zr_lo (l2 := [(0, .ref (zq_ad G 69)), (1, .int a1)]) [0, 1] rfl ?_
  refine zr_aload_n (pc := 0) (zq_d eX11_goesText 0 rfl) 0 rfl rfl ?_
  refine zr_iconst (pc := 1) (zq_d eX11_goesText 1 rfl) zc_i0 ?_
  refine zr_putI (pc := 2) (zq_d eX11_goesText 2 rfl) zf_RX11_50 km_69_13 zn_11_13 (fun X1 => ?_)
  refine zr_aload_n (pc := 5) (zq_d eX11_goesText 3 rfl) 0 rfl rfl ?_
  refine zr_bipush (pc := 6) (zq_d eX11_goesText 4 rfl) zc_b100 ?_
  refine zr_iload_n (pc := 8) (zq_d eX11_goesText 5 rfl) 1 rfl rfl ?_
  refine zr_imul (pc := 9) (zq_d eX11_goesText 6 rfl) ?_
  refine zr_putI (pc := 10) (zq_d eX11_goesText 7 rfl) zf_RX11_80 km_69_23 zn_11_23 (fun X2 => ?_)
  refine zr_iconst (pc := 13) (zq_d eX11_goesText 8 rfl) zc_i0 ?_
  refine zr_istore_n (pc := 14) (lo2 := [(2, .int (0 : Int32)), (0, .ref (zq_ad G 69)), (1, .int a1)]) (zq_d eX11_goesText 9 rfl) rfl (Nat.le_of_ble_eq_true rfl) rfl ?_
  have hbrc15_1 : ∀ rc15_1 : Int32 → zq_M → Option (Int32 × zq_M), (∀ (v3 : Int32) (X4 : zq_M), zq_V G YX11_goesText (7, 0, 0) (zq_si zq_shM z) 0 0 15 [(0, .ref (zq_ad G 69)), (1, .int a1), (2, .int v3)] [] zq_shM z X4 (rc15_1 v3 X4)) → ∀ (v3 : Int32) (X4 : zq_M), zq_V G YX11_goesText (7, 0, 0) (zq_si zq_shM z) 0 0 15 [(0, .ref (zq_ad G 69)), (1, .int a1), (2, .int v3)] [] zq_shM z X4 (b_X11_goesText_15 N a1 rc15_1 v3 X4) := by
    intro rc15_1 hrc15_1 v3 X4
    unfold b_X11_goesText_15
    refine zr_aload_n (pc := 15) (zq_d eX11_goesText 10 rfl) 0 rfl rfl ?_
    refine zr_bipush (pc := 16) (zq_d eX11_goesText 11 rfl) zc_b10 ?_
    refine zr_iload_n (pc := 18) (zq_d eX11_goesText 12 rfl) 1 rfl rfl ?_
    refine zr_imul (pc := 19) (zq_d eX11_goesText 13 rfl) ?_
    refine zr_iload_n (pc := 20) (zq_d eX11_goesText 14 rfl) 2 rfl rfl ?_
    refine zr_iadd (pc := 21) (zq_d eX11_goesText 15 rfl) ?_
    refine zr_Wsi (pc := 22) [_] (zq_d eX11_goesText 16 rfl) (s_X11_takesClause G N z X4 _) zd_X11_takesClause zl_RX11_302 om_69 rfl rfl rfl rfl (Nat.le_of_ble_eq_true rfl) (Nat.le_of_ble_eq_true rfl) (Nat.le_of_ble_eq_true rfl) ⟨Nat.le_refl _, Nat.le_refl _⟩ (fun v5 X6 => ?_)
    refine zr_if_ne (pc := 25) 30 (zq_d eX11_goesText 17 rfl) (by decide) (fun _ => ?_) (fun _ => ?_)
    · refine zr_iinc (pc := 30) (j := 2) (v := (v3 + (1 : Int32))) (lo2 := [(2, .int (v3 + (1 : Int32))), (0, .ref (zq_ad G 69)), (1, .int a1)]) (zq_d eX11_goesText 20 rfl) rfl (by rw [zc_i1]) (Nat.le_of_ble_eq_true rfl) rfl ?_
      refine zr_aload_n (pc := 33) (zq_d eX11_goesText 21 rfl) 1 rfl rfl ?_
      refine zr_getC (pc := 34) (zq_d eX11_goesText 22 rfl) zf_RX11_59 km_69_16 ?_
      refine zr_iload_n (pc := 37) (zq_d eX11_goesText 23 rfl) 2 rfl rfl ?_
      refine zr_iload_n (pc := 38) (zq_d eX11_goesText 24 rfl) 0 rfl rfl ?_
      refine zr_iast (pc := 39) (zq_d eX11_goesText 25 rfl) am_76 (fun X7 => ?_)
      refine zr_aload_n (pc := 40) (zq_d eX11_goesText 26 rfl) 1 rfl rfl ?_
      refine zr_getI (pc := 41) (zq_d eX11_goesText 27 rfl) zf_RX11_50 km_69_13 ?_
      refine zr_aload_n (pc := 44) (zq_d eX11_goesText 28 rfl) 1 rfl rfl ?_
      refine zr_getI (pc := 45) (zq_d eX11_goesText 29 rfl) zf_RX11_47 km_69_12 ?_
      refine zr_icmp_ne (pc := 48) 53 (zq_d eX11_goesText 30 rfl) (by decide) (fun _ => ?_) (fun _ => ?_)
      · refine zr_iload_n (pc := 53) (zq_d eX11_goesText 33 rfl) 0 rfl rfl ?_
        refine zr_bipush (pc := 54) (zq_d eX11_goesText 34 rfl) zc_b10 ?_
        refine zr_icmp_eq (pc := 56) 68 (zq_d eX11_goesText 35 rfl) (by decide) (fun _ => ?_) (fun _ => ?_)
        · refine zr_iconst (pc := 68) (zq_d eX11_goesText 40 rfl) zc_i0 ?_
          exact zr_zreturn (pc := 69) (zq_d eX11_goesText 41 rfl) rfl rfl rfl (Nat.zero_le _) (Nat.zero_le _)
        · refine zr_aload_n (pc := 59) (zq_d eX11_goesText 36 rfl) 1 rfl rfl ?_
          refine zr_bipush (pc := 60) (zq_d eX11_goesText 37 rfl) zc_b59 ?_
          refine zr_Wsi (pc := 62) [_] (zq_d eX11_goesText 38 rfl) (s_X11_takes G N z X7 _) zd_X11_takes zl_RX11_265 om_69 rfl rfl rfl rfl (Nat.le_of_ble_eq_true rfl) (Nat.le_of_ble_eq_true rfl) (Nat.le_of_ble_eq_true rfl) ⟨Nat.le_refl _, Nat.le_refl _⟩ (fun v8 X9 => ?_)
          refine zr_if_ne (pc := 65) 15 (zq_d eX11_goesText 39 rfl) (by decide) (fun _ => ?_) (fun _ => ?_)
          · exact zr_lo [1, 2, 0] rfl (hrc15_1 (v3 + (1 : Int32)) X9)
          · refine zr_iconst (pc := 68) (zq_d eX11_goesText 40 rfl) zc_i0 ?_
            exact zr_zreturn (pc := 69) (zq_d eX11_goesText 41 rfl) rfl rfl rfl (Nat.zero_le _) (Nat.zero_le _)
      · refine zr_iconst (pc := 51) (zq_d eX11_goesText 31 rfl) zc_i1 ?_
        exact zr_zreturn (pc := 52) (zq_d eX11_goesText 32 rfl) rfl rfl rfl (Nat.zero_le _) (Nat.zero_le _)
    · refine zr_iconst (pc := 28) (zq_d eX11_goesText 18 rfl) zc_i0 ?_
      exact zr_zreturn (pc := 29) (zq_d eX11_goesText 19 rfl) rfl rfl rfl (Nat.zero_le _) (Nat.zero_le _)
  have hlrc15_1 := zr_loop (P := fun (rc15_1 : Int32 → zq_M → Option (Int32 × zq_M)) => ∀ (v3 : Int32) (X4 : zq_M), zq_V G YX11_goesText (7, 0, 0) (zq_si zq_shM z) 0 0 15 [(0, .ref (zq_ad G 69)), (1, .int a1), (2, .int v3)] [] zq_shM z X4 (rc15_1 v3 X4)) (fun _ _ => none) (b_X11_goesText_15 N a1) (fun _ _ => zr_none) hbrc15_1 N
  exact zr_lo [1, 2, 0] rfl (hlrc15_1 (0 : Int32) X2)
def f_X11_house (N : Nat) (X : zq_M)  : Option (Int32 × zq_M) :=
  if ¬ (X.1 69 10) = (6 : Int32) then ((f_X11_goesText N X (X.1 69 10)).bind (zq_p (fun v1 X2 => zq_b (zq_u1 X2 69 12 (0 : Int32)) (fun X3 => if ¬ v1 = 0 then (zq_b (zq_u1 X3 69 11 (X3.1 69 10)) (fun X4 => zq_b (zq_u1 X4 69 10 ((X4.1 69 10) + (1 : Int32))) (fun X5 => some ((X5.1 69 11), X5)))) else (some (((-10 : Int32) - (X3.1 69 13)), X3)))))) else (some ((-4 : Int32), X))
set_option maxRecDepth 20000 in
set_option maxHeartbeats 8000000 in
theorem s_X11_house (G : zq_G) (N z : Nat) (X : zq_M)  : zq_V G YX11_house (8, 0, 0) (zq_si zq_shM z) 0 0 0 (lv_args 0 [.ref (zq_ad G 69)]) [] zq_shM z X (f_X11_house N X ) := by
  unfold f_X11_house
  refine zr_lo (l2 := [(0, .ref (zq_ad G 69))]) [0] rfl ?_
  refine zr_aload_n (pc := 0) (zq_d eX11_house 0 rfl) 0 rfl rfl ?_
  refine zr_getI (pc := 1) (zq_d eX11_house 1 rfl) zf_RX11_41 km_69_10 ?_
  refine zr_bipush (pc := 4) (zq_d eX11_house 2 rfl) zc_b6 ?_
  refine zr_icmp_ne (pc := 6) 12 (zq_d eX11_house 3 rfl) (by decide) (fun _ => ?_) (fun _ => ?_)
  · refine zr_aload_n (pc := 12) (zq_d eX11_house 6 rfl) 0 rfl rfl ?_
    refine zr_aload_n (pc := 13) (zq_d eX11_house 7 rfl) 0 rfl rfl ?_
    refine zr_getI (pc := 14) (zq_d eX11_house 8 rfl) zf_RX11_41 km_69_10 ?_
    refine zr_Wsi (pc := 17) [_] (zq_d eX11_house 9 rfl) (s_X11_goesText G N z X _) zd_X11_goesText zl_RX11_305 om_69 rfl rfl rfl rfl (Nat.le_of_ble_eq_true rfl) (Nat.le_of_ble_eq_true rfl) (Nat.le_of_ble_eq_true rfl) ⟨Nat.le_refl _, Nat.le_refl _⟩ (fun v1 X2 => ?_)
    refine zr_istore_n (pc := 20) (lo2 := [(1, .int v1), (0, .ref (zq_ad G 69))]) (zq_d eX11_house 10 rfl) rfl (Nat.le_of_ble_eq_true rfl) rfl ?_
    refine zr_aload_n (pc := 21) (zq_d eX11_house 11 rfl) 1 rfl rfl ?_
    refine zr_iconst (pc := 22) (zq_d eX11_house 12 rfl) zc_i0 ?_
    refine zr_putI (pc := 23) (zq_d eX11_house 13 rfl) zf_RX11_47 km_69_12 zn_11_12 (fun X3 => ?_)
    refine zr_iload_n (pc := 26) (zq_d eX11_house 14 rfl) 0 rfl rfl ?_
    refine zr_if_ne (pc := 27) 38 (zq_d eX11_house 15 rfl) (by decide) (fun _ => ?_) (fun _ => ?_)
    · refine zr_aload_n (pc := 38) (zq_d eX11_house 21 rfl) 1 rfl rfl ?_
      refine zr_aload_n (pc := 39) (zq_d eX11_house 22 rfl) 1 rfl rfl ?_
      refine zr_getI (pc := 40) (zq_d eX11_house 23 rfl) zf_RX11_41 km_69_10 ?_
      refine zr_putI (pc := 43) (zq_d eX11_house 24 rfl) zf_RX11_44 km_69_11 zn_11_11 (fun X4 => ?_)
      refine zr_aload_n (pc := 46) (zq_d eX11_house 25 rfl) 1 rfl rfl ?_
      refine zr_dup (pc := 47) (zq_d eX11_house 26 rfl) rfl ?_
      refine zr_getI (pc := 48) (zq_d eX11_house 27 rfl) zf_RX11_41 km_69_10 ?_
      refine zr_iconst (pc := 51) (zq_d eX11_house 28 rfl) zc_i1 ?_
      refine zr_iadd (pc := 52) (zq_d eX11_house 29 rfl) ?_
      refine zr_putI (pc := 53) (zq_d eX11_house 30 rfl) zf_RX11_41 km_69_10 zn_11_10 (fun X5 => ?_)
      refine zr_aload_n (pc := 56) (zq_d eX11_house 31 rfl) 1 rfl rfl ?_
      refine zr_getI (pc := 57) (zq_d eX11_house 32 rfl) zf_RX11_44 km_69_11 ?_
      exact zr_ireturn (pc := 60) (zq_d eX11_house 33 rfl) rfl rfl (Nat.zero_le _) (Nat.zero_le _)
    · refine zr_bipush (pc := 30) (zq_d eX11_house 16 rfl) zc_bm10 ?_
      refine zr_aload_n (pc := 32) (zq_d eX11_house 17 rfl) 1 rfl rfl ?_
      refine zr_getI (pc := 33) (zq_d eX11_house 18 rfl) zf_RX11_50 km_69_13 ?_
      refine zr_isub (pc := 36) (zq_d eX11_house 19 rfl) ?_
      exact zr_ireturn (pc := 37) (zq_d eX11_house 20 rfl) rfl rfl (Nat.zero_le _) (Nat.zero_le _)
  · refine zr_bipush (pc := 9) (zq_d eX11_house 4 rfl) zc_bm4 ?_
    exact zr_ireturn (pc := 11) (zq_d eX11_house 5 rfl) rfl rfl (Nat.zero_le _) (Nat.zero_le _)
def f_X11_told (N : Nat) (X : zq_M) (a1 : Int32) : Option Int32 :=
  if ¬ a1 = 0 then (if ¬ a1 = (1 : Int32) then (if ¬ a1 = (2 : Int32) then (some (-1 : Int32)) else (some (X.1 69 3))) else (some (X.1 69 2))) else ((f_X11_sameNow N X).bind (fun v1 => some v1))
set_option maxRecDepth 20000 in
set_option maxHeartbeats 8000000 in
theorem s_X11_told (G : zq_G) (N z : Nat) (X : zq_M) (a1 : Int32) : zq_V G YX11_told (3, 0, 0) (zq_ei zq_shM z X) 0 0 0 (lv_args 0 [.ref (zq_ad G 69), .int a1]) [] zq_shM z X (f_X11_told N X a1) := by
  unfold f_X11_told
  refine zr_lo (l2 := [(0, .ref (zq_ad G 69)), (1, .int a1)]) [0, 1] rfl ?_
  refine zr_iload_n (pc := 0) (zq_d eX11_told 0 rfl) 1 rfl rfl ?_
  refine zr_if_ne (pc := 1) 11 (zq_d eX11_told 1 rfl) (by decide) (fun _ => ?_) (fun _ => ?_)
  · refine zr_iload_n (pc := 11) (zq_d eX11_told 5 rfl) 1 rfl rfl ?_
    refine zr_iconst (pc := 12) (zq_d eX11_told 6 rfl) zc_i1 ?_
    refine zr_icmp_ne (pc := 13) 23 (zq_d eX11_told 7 rfl) (by decide) (fun _ => ?_) (fun _ => ?_)
    · refine zr_iload_n (pc := 23) (zq_d eX11_told 11 rfl) 1 rfl rfl ?_
      refine zr_iconst (pc := 24) (zq_d eX11_told 12 rfl) zc_i2 ?_
      refine zr_icmp_ne (pc := 25) 35 (zq_d eX11_told 13 rfl) (by decide) (fun _ => ?_) (fun _ => ?_)
      · refine zr_iconst (pc := 35) (zq_d eX11_told 17 rfl) zc_im1 ?_
        exact zr_ireturn (pc := 36) (zq_d eX11_told 18 rfl) rfl rfl (Nat.zero_le _) (Nat.zero_le _)
      · refine zr_aload_n (pc := 28) (zq_d eX11_told 14 rfl) 0 rfl rfl ?_
        refine zr_getI (pc := 29) (zq_d eX11_told 15 rfl) zf_RX11_19 km_69_3 ?_
        refine zr_goto (pc := 32) 36 (zq_d eX11_told 16 rfl) (by decide) ?_
        exact zr_ireturn (pc := 36) (zq_d eX11_told 18 rfl) rfl rfl (Nat.zero_le _) (Nat.zero_le _)
    · refine zr_aload_n (pc := 16) (zq_d eX11_told 8 rfl) 0 rfl rfl ?_
      refine zr_getI (pc := 17) (zq_d eX11_told 9 rfl) zf_RX11_16 km_69_2 ?_
      refine zr_goto (pc := 20) 36 (zq_d eX11_told 10 rfl) (by decide) ?_
      exact zr_ireturn (pc := 36) (zq_d eX11_told 18 rfl) rfl rfl (Nat.zero_le _) (Nat.zero_le _)
  · refine zr_aload_n (pc := 4) (zq_d eX11_told 2 rfl) 0 rfl rfl ?_
    refine zr_Vi (pc := 5) [] (zq_d eX11_told 3 rfl) (s_X11_sameNow G N z X ) zd_X11_sameNow zl_RX11_252 om_69 rfl rfl rfl rfl (Nat.le_of_ble_eq_true rfl) (Nat.le_of_ble_eq_true rfl) (Nat.le_of_ble_eq_true rfl) ⟨Nat.le_refl _, Nat.le_refl _⟩ (fun v1 => ?_)
    refine zr_goto (pc := 8) 36 (zq_d eX11_told 4 rfl) (by decide) ?_
    exact zr_ireturn (pc := 36) (zq_d eX11_told 18 rfl) rfl rfl (Nat.zero_le _) (Nat.zero_le _)
def f_X11_factOf (N : Nat) (X : zq_M) (a1 : Int32) (a2 : Int32) (a3 : Int32) (a4 : Int32) (a5 : Int32) : Option Int32 :=
  if a1 = (0 : Int32) then (some a2) else (if a1 = (1 : Int32) then (some a3) else (if a1 = (2 : Int32) then (zq_ck a2 5 (some ((X.1 70 (zq_ix a2)) / (10 : Int32)))) else (if a1 = (3 : Int32) then (some a4) else (if a1 = (4 : Int32) then (if ¬ a3 = (3 : Int32) then (zq_ck a3 3 (some (X.1 73 (zq_ix a3)))) else (some (9 : Int32))) else (some a5)))))
set_option maxRecDepth 20000 in
set_option maxHeartbeats 8000000 in
theorem s_X11_factOf (G : zq_G) (N z : Nat) (X : zq_M) (a1 : Int32) (a2 : Int32) (a3 : Int32) (a4 : Int32) (a5 : Int32) : zq_V G YX11_factOf (1, 0, 0) (zq_ei zq_shM z X) 0 0 0 (lv_args 0 [.ref (zq_ad G 69), .int a1, .int a2, .int a3, .int a4, .int a5]) [] zq_shM z X (f_X11_factOf N X a1 a2 a3 a4 a5) := by
  unfold f_X11_factOf
  refine zr_lo (l2 := [(0, .ref (zq_ad G 69)), (1, .int a1), (2, .int a2), (3, .int a3), (4, .int a4), (5, .int a5)]) [0, 1, 2, 3, 4, 5] rfl ?_
  refine zr_iload_n (pc := 0) (zq_d eX11_factOf 0 rfl) 1 rfl rfl ?_
  refine zr_cs (fun q1 => ?_) (fun q1 => ?_)
  · refine zr_tab (pc := 1) (n := 0) 36 (zq_d eX11_factOf 1 rfl) q1 (by decide) (by decide) (by decide) rfl (by decide) ?_
    refine zr_iload_n (pc := 36) (zq_d eX11_factOf 2 rfl) 2 rfl rfl ?_
    exact zr_ireturn (pc := 37) (zq_d eX11_factOf 3 rfl) rfl rfl (Nat.zero_le _) (Nat.zero_le _)
  · refine zr_cs (fun q2 => ?_) (fun q2 => ?_)
    · refine zr_tab (pc := 1) (n := 1) 38 (zq_d eX11_factOf 1 rfl) q2 (by decide) (by decide) (by decide) rfl (by decide) ?_
      refine zr_iload_n (pc := 38) (zq_d eX11_factOf 4 rfl) 3 rfl rfl ?_
      exact zr_ireturn (pc := 39) (zq_d eX11_factOf 5 rfl) rfl rfl (Nat.zero_le _) (Nat.zero_le _)
    · refine zr_cs (fun q3 => ?_) (fun q3 => ?_)
      · refine zr_tab (pc := 1) (n := 2) 40 (zq_d eX11_factOf 1 rfl) q3 (by decide) (by decide) (by decide) rfl (by decide) ?_
        refine zr_aload_n (pc := 40) (zq_d eX11_factOf 6 rfl) 0 rfl rfl ?_
        refine zr_getC (pc := 41) (zq_d eX11_factOf 7 rfl) zf_RX11_22 km_69_4 ?_
        refine zr_iload_n (pc := 44) (zq_d eX11_factOf 8 rfl) 2 rfl rfl ?_
        refine zr_iald (pc := 45) (zq_d eX11_factOf 9 rfl) am_70 ?_
        refine zr_bipush (pc := 46) (zq_d eX11_factOf 10 rfl) zc_b10 ?_
        refine zr_idivk (pc := 48) (zq_d eX11_factOf 11 rfl) (by decide) ?_
        exact zr_ireturn (pc := 49) (zq_d eX11_factOf 12 rfl) rfl rfl (Nat.zero_le _) (Nat.zero_le _)
      · refine zr_cs (fun q4 => ?_) (fun q4 => ?_)
        · refine zr_tab (pc := 1) (n := 3) 50 (zq_d eX11_factOf 1 rfl) q4 (by decide) (by decide) (by decide) rfl (by decide) ?_
          refine zr_iload (pc := 50) (zq_d eX11_factOf 13 rfl) 4 rfl ?_
          exact zr_ireturn (pc := 52) (zq_d eX11_factOf 14 rfl) rfl rfl (Nat.zero_le _) (Nat.zero_le _)
        · refine zr_cs (fun q5 => ?_) (fun q5 => ?_)
          · refine zr_tab (pc := 1) (n := 4) 53 (zq_d eX11_factOf 1 rfl) q5 (by decide) (by decide) (by decide) rfl (by decide) ?_
            refine zr_iload_n (pc := 53) (zq_d eX11_factOf 15 rfl) 3 rfl rfl ?_
            refine zr_iconst (pc := 54) (zq_d eX11_factOf 16 rfl) zc_i3 ?_
            refine zr_icmp_ne (pc := 55) 63 (zq_d eX11_factOf 17 rfl) (by decide) (fun _ => ?_) (fun _ => ?_)
            · refine zr_aload_n (pc := 63) (zq_d eX11_factOf 20 rfl) 0 rfl rfl ?_
              refine zr_getC (pc := 64) (zq_d eX11_factOf 21 rfl) zf_RX11_32 km_69_7 ?_
              refine zr_iload_n (pc := 67) (zq_d eX11_factOf 22 rfl) 3 rfl rfl ?_
              refine zr_iald (pc := 68) (zq_d eX11_factOf 23 rfl) am_73 ?_
              exact zr_ireturn (pc := 69) (zq_d eX11_factOf 24 rfl) rfl rfl (Nat.zero_le _) (Nat.zero_le _)
            · refine zr_bipush (pc := 58) (zq_d eX11_factOf 18 rfl) zc_b9 ?_
              refine zr_goto (pc := 60) 69 (zq_d eX11_factOf 19 rfl) (by decide) ?_
              exact zr_ireturn (pc := 69) (zq_d eX11_factOf 24 rfl) rfl rfl (Nat.zero_le _) (Nat.zero_le _)
          · refine zr_tabD (pc := 1) 70 (zq_d eX11_factOf 1 rfl) (by have t0 := zq_nt (n := 0) (by decide) q1; have t1 := zq_nt (n := 1) (by decide) q2; have t2 := zq_nt (n := 2) (by decide) q3; have t3 := zq_nt (n := 3) (by decide) q4; have t4 := zq_nt (n := 4) (by decide) q5; omega) (by decide) ?_
            refine zr_iload (pc := 70) (zq_d eX11_factOf 25 rfl) 5 rfl ?_
            exact zr_ireturn (pc := 72) (zq_d eX11_factOf 26 rfl) rfl rfl (Nat.zero_le _) (Nat.zero_le _)
def j_X11_holds_247 (v1 : Int32) (v2 : Int32) (X3 : zq_M) (rc11_1 : Int32 → Int32 → zq_M → Option (Int32 × zq_M)) (v6 : Int32) : Option (Int32 × zq_M) :=
  zq_ck v1 100 (zq_b (zq_u1 X3 84 (zq_ix v1) (vp_nar .boolean v6)) (fun X7 => rc11_1 (v1 + (1 : Int32)) (v2 + (1 : Int32)) X7))
def j_X11_holds_147 (v1 : Int32) (v2 : Int32) (X3 : zq_M) (rc11_1 : Int32 → Int32 → zq_M → Option (Int32 × zq_M)) (v8 : Int32) : Option (Int32 × zq_M) :=
  zq_ck ((v1 + (-1 : Int32)) - (1 : Int32)) 100 (zq_b (zq_u1 X3 84 (zq_ix ((v1 + (-1 : Int32)) - (1 : Int32))) (vp_nar .boolean v8)) (fun X9 => rc11_1 (v1 + (-1 : Int32)) (v2 + (1 : Int32)) X9))
def j_X11_holds_63 (v1 : Int32) (v2 : Int32) (X3 : zq_M) (rc11_1 : Int32 → Int32 → zq_M → Option (Int32 × zq_M)) (v10 : Int32) : Option (Int32 × zq_M) :=
  zq_ck (v1 - (1 : Int32)) 100 (zq_b (zq_u1 X3 84 (zq_ix (v1 - (1 : Int32))) (vp_nar .boolean v10)) (fun X11 => rc11_1 v1 (v2 + (1 : Int32)) X11))
def b_X11_holds_11 (N : Nat) (a1 : Int32) (a2 : Int32) (a3 : Int32) (a4 : Int32) (a5 : Int32) (rc11_1 : Int32 → Int32 → zq_M → Option (Int32 × zq_M)) (v1 : Int32) (v2 : Int32) (X3 : zq_M) : Option (Int32 × zq_M) :=
  zq_ck a1 60 (if (X3.1 80 (zq_ix a1)) ≤ v2 then (zq_ck (0 : Int32) 100 (zq_gz (X3.1 84 (zq_ix (0 : Int32))) (some ((X3.1 84 (zq_ix (0 : Int32))), X3)))) else (zq_ck v2 600 (if ¬ (X3.1 81 (zq_ix v2)) = (-33 : Int32) then (if 0 ≤ (X3.1 81 (zq_ix v2)) then ((f_X11_factOf N X3 ((X3.1 81 (zq_ix v2)) / (1000 : Int32)) a2 a3 a4 a5).bind (fun v4 => zq_b (zq_irem ((X3.1 81 (zq_ix v2)) / (100 : Int32)) (10 : Int32)) (fun v5 => if ¬ v5 = 0 then (if ¬ v5 = (1 : Int32) then (if v4 ≤ (zq_irem (X3.1 81 (zq_ix v2)) (100 : Int32)) then (j_X11_holds_247 v1 v2 X3 rc11_1 (0 : Int32)) else (j_X11_holds_247 v1 v2 X3 rc11_1 (1 : Int32))) else (if ¬ v4 = (zq_irem (X3.1 81 (zq_ix v2)) (100 : Int32)) then (j_X11_holds_247 v1 v2 X3 rc11_1 (0 : Int32)) else (j_X11_holds_247 v1 v2 X3 rc11_1 (1 : Int32)))) else (if (zq_irem (X3.1 81 (zq_ix v2)) (100 : Int32)) ≤ v4 then (j_X11_holds_247 v1 v2 X3 rc11_1 (0 : Int32)) else (j_X11_holds_247 v1 v2 X3 rc11_1 (1 : Int32)))))) else (if ¬ (X3.1 81 (zq_ix v2)) = (-38 : Int32) then (zq_ck ((v1 + (-1 : Int32)) - (1 : Int32)) 100 (if ¬ (X3.1 84 (zq_ix ((v1 + (-1 : Int32)) - (1 : Int32)))) = 0 then (j_X11_holds_147 v1 v2 X3 rc11_1 (1 : Int32)) else (zq_ck (v1 + (-1 : Int32)) 100 (if (X3.1 84 (zq_ix (v1 + (-1 : Int32)))) = 0 then (j_X11_holds_147 v1 v2 X3 rc11_1 (0 : Int32)) else (j_X11_holds_147 v1 v2 X3 rc11_1 (1 : Int32)))))) else (zq_ck ((v1 + (-1 : Int32)) - (1 : Int32)) 100 (if (X3.1 84 (zq_ix ((v1 + (-1 : Int32)) - (1 : Int32)))) = 0 then (j_X11_holds_147 v1 v2 X3 rc11_1 (0 : Int32)) else (zq_ck (v1 + (-1 : Int32)) 100 (if (X3.1 84 (zq_ix (v1 + (-1 : Int32)))) = 0 then (j_X11_holds_147 v1 v2 X3 rc11_1 (0 : Int32)) else (j_X11_holds_147 v1 v2 X3 rc11_1 (1 : Int32)))))))) else (zq_ck (v1 - (1 : Int32)) 100 (if ¬ (X3.1 84 (zq_ix (v1 - (1 : Int32)))) = 0 then (j_X11_holds_63 v1 v2 X3 rc11_1 (0 : Int32)) else (j_X11_holds_63 v1 v2 X3 rc11_1 (1 : Int32)))))))
def f_X11_holds (N : Nat) (X : zq_M) (a1 : Int32) (a2 : Int32) (a3 : Int32) (a4 : Int32) (a5 : Int32) : Option (Int32 × zq_M) :=
  zq_ck a1 60 (zq_loop (fun _ _ _ => none) (b_X11_holds_11 N a1 a2 a3 a4 a5) N (0 : Int32) (X.1 79 (zq_ix a1)) X)
set_option maxRecDepth 20000 in
set_option maxHeartbeats 8000000 in
theorem s_X11_holds (G : zq_G) (N z : Nat) (X : zq_M) (a1 : Int32) (a2 : Int32) (a3 : Int32) (a4 : Int32) (a5 : Int32) : zq_V G YX11_holds (2, 0, 0) (zq_si zq_shM z) 0 0 0 (lv_args 0 [.ref (zq_ad G 69), .int a1, .int a2, .int a3, .int a4, .int a5]) [] zq_shM z X (f_X11_holds N X a1 a2 a3 a4 a5) := by
  unfold f_X11_holds
  refine zr_lo (l2 := [(0, .ref (zq_ad G 69)), (1, .int a1), (2, .int a2), (3, .int a3), (4, .int a4), (5, .int a5)]) [0, 1, 2, 3, 4, 5] rfl ?_
  refine zr_iconst (pc := 0) (zq_d eX11_holds 0 rfl) zc_i0 ?_
  refine zr_istore (pc := 1) (lo2 := [(6, .int (0 : Int32)), (0, .ref (zq_ad G 69)), (1, .int a1), (2, .int a2), (3, .int a3), (4, .int a4), (5, .int a5)]) (zq_d eX11_holds 1 rfl) (Nat.le_of_ble_eq_true rfl) rfl ?_
  refine zr_aload_n (pc := 3) (zq_d eX11_holds 2 rfl) 1 rfl rfl ?_
  refine zr_getC (pc := 4) (zq_d eX11_holds 3 rfl) zf_RX11_68 km_69_19 ?_
  refine zr_iload_n (pc := 7) (zq_d eX11_holds 4 rfl) 2 rfl rfl ?_
  refine zr_iald (pc := 8) (zq_d eX11_holds 5 rfl) am_79 ?_
  refine zr_istore (pc := 9) (lo2 := [(7, .int (X.1 79 (zq_ix a1))), (6, .int (0 : Int32)), (0, .ref (zq_ad G 69)), (1, .int a1), (2, .int a2), (3, .int a3), (4, .int a4), (5, .int a5)]) (zq_d eX11_holds 6 rfl) (Nat.le_of_ble_eq_true rfl) rfl ?_
  have hbrc11_1 : ∀ rc11_1 : Int32 → Int32 → zq_M → Option (Int32 × zq_M), (∀ (v1 : Int32) (v2 : Int32) (X3 : zq_M), zq_V G YX11_holds (2, 0, 0) (zq_si zq_shM z) 0 0 11 [(0, .ref (zq_ad G 69)), (1, .int a1), (2, .int a2), (3, .int a3), (4, .int a4), (5, .int a5), (6, .int v1), (7, .int v2)] [] zq_shM z X3 (rc11_1 v1 v2 X3)) → ∀ (v1 : Int32) (v2 : Int32) (X3 : zq_M), zq_V G YX11_holds (2, 0, 0) (zq_si zq_shM z) 0 0 11 [(0, .ref (zq_ad G 69)), (1, .int a1), (2, .int a2), (3, .int a3), (4, .int a4), (5, .int a5), (6, .int v1), (7, .int v2)] [] zq_shM z X3 (b_X11_holds_11 N a1 a2 a3 a4 a5 rc11_1 v1 v2 X3) := by
    intro rc11_1 hrc11_1 v1 v2 X3
    unfold b_X11_holds_11
    refine zr_iload (pc := 11) (zq_d eX11_holds 7 rfl) 7 rfl ?_
    refine zr_aload_n (pc := 13) (zq_d eX11_holds 8 rfl) 0 rfl rfl ?_
    refine zr_getC (pc := 14) (zq_d eX11_holds 9 rfl) zf_RX11_71 km_69_20 ?_
    refine zr_iload_n (pc := 17) (zq_d eX11_holds 10 rfl) 1 rfl rfl ?_
    refine zr_iald (pc := 18) (zq_d eX11_holds 11 rfl) am_80 ?_
    refine zr_icmp_ge (pc := 19) 257 (zq_d eX11_holds 12 rfl) (by decide) (fun _ => ?_) (fun _ => ?_)
    · refine zr_aload_n (pc := 257) (zq_d eX11_holds 136 rfl) 0 rfl rfl ?_
      refine zr_getC (pc := 258) (zq_d eX11_holds 137 rfl) zf_RX11_92 km_69_27 ?_
      refine zr_iconst (pc := 261) (zq_d eX11_holds 138 rfl) zc_i0 ?_
      refine zr_zald (pc := 262) (zq_d eX11_holds 139 rfl) am_84 ?_
      exact zr_zreturnG (pc := 263) (zq_d eX11_holds 140 rfl) rfl rfl (Nat.zero_le _) (Nat.zero_le _)
    · refine zr_aload_n (pc := 22) (zq_d eX11_holds 13 rfl) 0 rfl rfl ?_
      refine zr_getC (pc := 23) (zq_d eX11_holds 14 rfl) zf_RX11_74 km_69_21 ?_
      refine zr_iload (pc := 26) (zq_d eX11_holds 15 rfl) 7 rfl ?_
      refine zr_iald (pc := 28) (zq_d eX11_holds 16 rfl) am_81 ?_
      refine zr_istore (pc := 29) (lo2 := [(8, .int (X3.1 81 (zq_ix v2))), (0, .ref (zq_ad G 69)), (1, .int a1), (2, .int a2), (3, .int a3), (4, .int a4), (5, .int a5), (6, .int v1), (7, .int v2)]) (zq_d eX11_holds 17 rfl) (Nat.le_of_ble_eq_true rfl) rfl ?_
      refine zr_iload (pc := 31) (zq_d eX11_holds 18 rfl) 0 rfl ?_
      refine zr_bipush (pc := 33) (zq_d eX11_holds 19 rfl) zc_bm33 ?_
      refine zr_icmp_ne (pc := 35) 67 (zq_d eX11_holds 20 rfl) (by decide) (fun _ => ?_) (fun _ => ?_)
      · refine zr_iload (pc := 67) (zq_d eX11_holds 38 rfl) 0 rfl ?_
        refine zr_if_ge (pc := 69) 151 (zq_d eX11_holds 39 rfl) (by decide) (fun _ => ?_) (fun _ => ?_)
        · refine zr_aload_n (pc := 151) (zq_d eX11_holds 82 rfl) 1 rfl rfl ?_
          refine zr_iload (pc := 152) (zq_d eX11_holds 83 rfl) 0 rfl ?_
          refine zr_sipush (pc := 154) (zq_d eX11_holds 84 rfl) zc_s1000 ?_
          refine zr_idivk (pc := 157) (zq_d eX11_holds 85 rfl) (by decide) ?_
          refine zr_iload_n (pc := 158) (zq_d eX11_holds 86 rfl) 3 rfl rfl ?_
          refine zr_iload_n (pc := 159) (zq_d eX11_holds 87 rfl) 4 rfl rfl ?_
          refine zr_iload (pc := 160) (zq_d eX11_holds 88 rfl) 5 rfl ?_
          refine zr_iload (pc := 162) (zq_d eX11_holds 89 rfl) 6 rfl ?_
          refine zr_Vi (pc := 164) [_, _, _, _, _] (zq_d eX11_holds 90 rfl) (s_X11_factOf G N z X3 _ _ _ _ _) zd_X11_factOf zl_RX11_314 om_69 rfl rfl rfl rfl (Nat.le_of_ble_eq_true rfl) (Nat.le_of_ble_eq_true rfl) (Nat.le_of_ble_eq_true rfl) ⟨Nat.le_refl _, Nat.le_refl _⟩ (fun v4 => ?_)
          refine zr_istore (pc := 167) (lo2 := [(9, .int v4), (8, .int (X3.1 81 (zq_ix v2))), (0, .ref (zq_ad G 69)), (1, .int a1), (2, .int a2), (3, .int a3), (4, .int a4), (5, .int a5), (6, .int v1), (7, .int v2)]) (zq_d eX11_holds 91 rfl) (Nat.le_of_ble_eq_true rfl) rfl ?_
          refine zr_iload (pc := 169) (zq_d eX11_holds 92 rfl) 1 rfl ?_
          refine zr_bipush (pc := 171) (zq_d eX11_holds 93 rfl) zc_b100 ?_
          refine zr_idivk (pc := 173) (zq_d eX11_holds 94 rfl) (by decide) ?_
          refine zr_bipush (pc := 174) (zq_d eX11_holds 95 rfl) zc_b10 ?_
          refine zr_iremk (pc := 176) (zq_d eX11_holds 96 rfl) (by decide) ?_
          refine zr_nm (fun v5 => ?_)
          refine zr_istore (pc := 177) (lo2 := [(10, .int v5), (9, .int v4), (8, .int (X3.1 81 (zq_ix v2))), (0, .ref (zq_ad G 69)), (1, .int a1), (2, .int a2), (3, .int a3), (4, .int a4), (5, .int a5), (6, .int v1), (7, .int v2)]) (zq_d eX11_holds 97 rfl) (Nat.le_of_ble_eq_true rfl) rfl ?_
          refine zr_aload_n (pc := 179) (zq_d eX11_holds 98 rfl) 3 rfl rfl ?_
          refine zr_getC (pc := 180) (zq_d eX11_holds 99 rfl) zf_RX11_92 km_69_27 ?_
          refine zr_iload (pc := 183) (zq_d eX11_holds 100 rfl) 9 rfl ?_
          refine zr_iload (pc := 185) (zq_d eX11_holds 101 rfl) 0 rfl ?_
          have hj247_2 : ∀ (v6 : Int32), zq_V G YX11_holds (2, 0, 0) (zq_si zq_shM z) 0 0 247 [(0, .ref (zq_ad G 69)), (1, .int a1), (2, .int a2), (3, .int a3), (4, .int a4), (5, .int a5), (6, .int v1), (7, .int v2)] [.int v6, .int v1, .ref (zq_ad G 84)] zq_shM z X3 (j_X11_holds_247 v1 v2 X3 rc11_1 v6) := by
            intro v6
            unfold j_X11_holds_247
            refine zr_zast (pc := 247) (zq_d eX11_holds 132 rfl) am_84 (fun X7 => ?_)
            refine zr_iinc (pc := 248) (j := 6) (v := (v1 + (1 : Int32))) (lo2 := [(6, .int (v1 + (1 : Int32))), (0, .ref (zq_ad G 69)), (1, .int a1), (2, .int a2), (3, .int a3), (4, .int a4), (5, .int a5), (7, .int v2)]) (zq_d eX11_holds 133 rfl) rfl (by rw [zc_i1]) (Nat.le_of_ble_eq_true rfl) rfl ?_
            refine zr_iinc (pc := 251) (j := 7) (v := (v2 + (1 : Int32))) (lo2 := [(7, .int (v2 + (1 : Int32))), (6, .int (v1 + (1 : Int32))), (0, .ref (zq_ad G 69)), (1, .int a1), (2, .int a2), (3, .int a3), (4, .int a4), (5, .int a5)]) (zq_d eX11_holds 134 rfl) rfl (by rw [zc_i1]) (Nat.le_of_ble_eq_true rfl) rfl ?_
            refine zr_goto (pc := 254) 11 (zq_d eX11_holds 135 rfl) (by decide) ?_
            exact zr_lo [2, 3, 4, 5, 6, 7, 1, 0] rfl (hrc11_1 (v1 + (1 : Int32)) (v2 + (1 : Int32)) X7)
          refine zr_if_ne (pc := 187) 208 (zq_d eX11_holds 102 rfl) (by decide) (fun _ => ?_) (fun _ => ?_)
          · refine zr_iload (pc := 208) (zq_d eX11_holds 112 rfl) 0 rfl ?_
            refine zr_iconst (pc := 210) (zq_d eX11_holds 113 rfl) zc_i1 ?_
            refine zr_icmp_ne (pc := 211) 232 (zq_d eX11_holds 114 rfl) (by decide) (fun _ => ?_) (fun _ => ?_)
            · refine zr_iload (pc := 232) (zq_d eX11_holds 124 rfl) 1 rfl ?_
              refine zr_iload (pc := 234) (zq_d eX11_holds 125 rfl) 2 rfl ?_
              refine zr_bipush (pc := 236) (zq_d eX11_holds 126 rfl) zc_b100 ?_
              refine zr_iremk (pc := 238) (zq_d eX11_holds 127 rfl) (by decide) ?_
              refine zr_icmp_le (pc := 239) 246 (zq_d eX11_holds 128 rfl) (by decide) (fun _ => ?_) (fun _ => ?_)
              · refine zr_iconst (pc := 246) (zq_d eX11_holds 131 rfl) zc_i0 ?_
                exact zr_lo [3, 4, 5, 6, 7, 8, 9, 10] rfl (hj247_2 (0 : Int32))
              · refine zr_iconst (pc := 242) (zq_d eX11_holds 129 rfl) zc_i1 ?_
                refine zr_goto (pc := 243) 247 (zq_d eX11_holds 130 rfl) (by decide) ?_
                exact zr_lo [3, 4, 5, 6, 7, 8, 9, 10] rfl (hj247_2 (1 : Int32))
            · refine zr_iload (pc := 214) (zq_d eX11_holds 115 rfl) 1 rfl ?_
              refine zr_iload (pc := 216) (zq_d eX11_holds 116 rfl) 2 rfl ?_
              refine zr_bipush (pc := 218) (zq_d eX11_holds 117 rfl) zc_b100 ?_
              refine zr_iremk (pc := 220) (zq_d eX11_holds 118 rfl) (by decide) ?_
              refine zr_icmp_ne (pc := 221) 228 (zq_d eX11_holds 119 rfl) (by decide) (fun _ => ?_) (fun _ => ?_)
              · refine zr_iconst (pc := 228) (zq_d eX11_holds 122 rfl) zc_i0 ?_
                refine zr_goto (pc := 229) 247 (zq_d eX11_holds 123 rfl) (by decide) ?_
                exact zr_lo [3, 4, 5, 6, 7, 8, 9, 10] rfl (hj247_2 (0 : Int32))
              · refine zr_iconst (pc := 224) (zq_d eX11_holds 120 rfl) zc_i1 ?_
                refine zr_goto (pc := 225) 247 (zq_d eX11_holds 121 rfl) (by decide) ?_
                exact zr_lo [3, 4, 5, 6, 7, 8, 9, 10] rfl (hj247_2 (1 : Int32))
          · refine zr_iload (pc := 190) (zq_d eX11_holds 103 rfl) 1 rfl ?_
            refine zr_iload (pc := 192) (zq_d eX11_holds 104 rfl) 2 rfl ?_
            refine zr_bipush (pc := 194) (zq_d eX11_holds 105 rfl) zc_b100 ?_
            refine zr_iremk (pc := 196) (zq_d eX11_holds 106 rfl) (by decide) ?_
            refine zr_icmp_ge (pc := 197) 204 (zq_d eX11_holds 107 rfl) (by decide) (fun _ => ?_) (fun _ => ?_)
            · refine zr_iconst (pc := 204) (zq_d eX11_holds 110 rfl) zc_i0 ?_
              refine zr_goto (pc := 205) 247 (zq_d eX11_holds 111 rfl) (by decide) ?_
              exact zr_lo [3, 4, 5, 6, 7, 8, 9, 10] rfl (hj247_2 (0 : Int32))
            · refine zr_iconst (pc := 200) (zq_d eX11_holds 108 rfl) zc_i1 ?_
              refine zr_goto (pc := 201) 247 (zq_d eX11_holds 109 rfl) (by decide) ?_
              exact zr_lo [3, 4, 5, 6, 7, 8, 9, 10] rfl (hj247_2 (1 : Int32))
        · refine zr_iinc (pc := 72) (j := 7) (v := (v1 + (-1 : Int32))) (lo2 := [(6, .int (v1 + (-1 : Int32))), (8, .int (X3.1 81 (zq_ix v2))), (0, .ref (zq_ad G 69)), (1, .int a1), (2, .int a2), (3, .int a3), (4, .int a4), (5, .int a5), (7, .int v2)]) (zq_d eX11_holds 40 rfl) rfl (by rw [zc_im1]) (Nat.le_of_ble_eq_true rfl) rfl ?_
          refine zr_aload_n (pc := 75) (zq_d eX11_holds 41 rfl) 2 rfl rfl ?_
          refine zr_getC (pc := 76) (zq_d eX11_holds 42 rfl) zf_RX11_92 km_69_27 ?_
          refine zr_iload (pc := 79) (zq_d eX11_holds 43 rfl) 0 rfl ?_
          refine zr_iconst (pc := 81) (zq_d eX11_holds 44 rfl) zc_i1 ?_
          refine zr_isub (pc := 82) (zq_d eX11_holds 45 rfl) ?_
          refine zr_iload (pc := 83) (zq_d eX11_holds 46 rfl) 1 rfl ?_
          refine zr_bipush (pc := 85) (zq_d eX11_holds 47 rfl) zc_bm38 ?_
          have hj147_3 : ∀ (v8 : Int32), zq_V G YX11_holds (2, 0, 0) (zq_si zq_shM z) 0 0 147 [(0, .ref (zq_ad G 69)), (1, .int a1), (2, .int a2), (3, .int a3), (4, .int a4), (5, .int a5), (6, .int (v1 + (-1 : Int32))), (7, .int v2)] [.int v8, .int ((v1 + (-1 : Int32)) - (1 : Int32)), .ref (zq_ad G 84)] zq_shM z X3 (j_X11_holds_147 v1 v2 X3 rc11_1 v8) := by
            intro v8
            unfold j_X11_holds_147
            refine zr_zast (pc := 147) (zq_d eX11_holds 80 rfl) am_84 (fun X9 => ?_)
            refine zr_goto (pc := 148) 251 (zq_d eX11_holds 81 rfl) (by decide) ?_
            refine zr_iinc (pc := 251) (j := 7) (v := (v2 + (1 : Int32))) (lo2 := [(7, .int (v2 + (1 : Int32))), (0, .ref (zq_ad G 69)), (1, .int a1), (2, .int a2), (3, .int a3), (4, .int a4), (5, .int a5), (6, .int (v1 + (-1 : Int32)))]) (zq_d eX11_holds 134 rfl) rfl (by rw [zc_i1]) (Nat.le_of_ble_eq_true rfl) rfl ?_
            refine zr_goto (pc := 254) 11 (zq_d eX11_holds 135 rfl) (by decide) ?_
            exact zr_lo [1, 2, 3, 4, 5, 6, 7, 0] rfl (hrc11_1 (v1 + (-1 : Int32)) (v2 + (1 : Int32)) X9)
          refine zr_icmp_ne (pc := 87) 120 (zq_d eX11_holds 48 rfl) (by decide) (fun _ => ?_) (fun _ => ?_)
          · refine zr_aload_n (pc := 120) (zq_d eX11_holds 65 rfl) 2 rfl rfl ?_
            refine zr_getC (pc := 121) (zq_d eX11_holds 66 rfl) zf_RX11_92 km_69_27 ?_
            refine zr_iload (pc := 124) (zq_d eX11_holds 67 rfl) 0 rfl ?_
            refine zr_iconst (pc := 126) (zq_d eX11_holds 68 rfl) zc_i1 ?_
            refine zr_isub (pc := 127) (zq_d eX11_holds 69 rfl) ?_
            refine zr_zald (pc := 128) (zq_d eX11_holds 70 rfl) am_84 ?_
            refine zr_if_ne (pc := 129) 142 (zq_d eX11_holds 71 rfl) (by decide) (fun _ => ?_) (fun _ => ?_)
            · refine zr_iconst (pc := 142) (zq_d eX11_holds 77 rfl) zc_i1 ?_
              refine zr_goto (pc := 143) 147 (zq_d eX11_holds 78 rfl) (by decide) ?_
              exact zr_lo [2, 3, 4, 5, 6, 7, 0, 8] rfl (hj147_3 (1 : Int32))
            · refine zr_aload_n (pc := 132) (zq_d eX11_holds 72 rfl) 2 rfl rfl ?_
              refine zr_getC (pc := 133) (zq_d eX11_holds 73 rfl) zf_RX11_92 km_69_27 ?_
              refine zr_iload (pc := 136) (zq_d eX11_holds 74 rfl) 0 rfl ?_
              refine zr_zald (pc := 138) (zq_d eX11_holds 75 rfl) am_84 ?_
              refine zr_if_eq (pc := 139) 146 (zq_d eX11_holds 76 rfl) (by decide) (fun _ => ?_) (fun _ => ?_)
              · refine zr_iconst (pc := 146) (zq_d eX11_holds 79 rfl) zc_i0 ?_
                exact zr_lo [2, 3, 4, 5, 6, 7, 0, 8] rfl (hj147_3 (0 : Int32))
              · refine zr_iconst (pc := 142) (zq_d eX11_holds 77 rfl) zc_i1 ?_
                refine zr_goto (pc := 143) 147 (zq_d eX11_holds 78 rfl) (by decide) ?_
                exact zr_lo [2, 3, 4, 5, 6, 7, 0, 8] rfl (hj147_3 (1 : Int32))
          · refine zr_aload_n (pc := 90) (zq_d eX11_holds 49 rfl) 2 rfl rfl ?_
            refine zr_getC (pc := 91) (zq_d eX11_holds 50 rfl) zf_RX11_92 km_69_27 ?_
            refine zr_iload (pc := 94) (zq_d eX11_holds 51 rfl) 0 rfl ?_
            refine zr_iconst (pc := 96) (zq_d eX11_holds 52 rfl) zc_i1 ?_
            refine zr_isub (pc := 97) (zq_d eX11_holds 53 rfl) ?_
            refine zr_zald (pc := 98) (zq_d eX11_holds 54 rfl) am_84 ?_
            refine zr_if_eq (pc := 99) 116 (zq_d eX11_holds 55 rfl) (by decide) (fun _ => ?_) (fun _ => ?_)
            · refine zr_iconst (pc := 116) (zq_d eX11_holds 63 rfl) zc_i0 ?_
              refine zr_goto (pc := 117) 147 (zq_d eX11_holds 64 rfl) (by decide) ?_
              exact zr_lo [2, 3, 4, 5, 6, 7, 0, 8] rfl (hj147_3 (0 : Int32))
            · refine zr_aload_n (pc := 102) (zq_d eX11_holds 56 rfl) 2 rfl rfl ?_
              refine zr_getC (pc := 103) (zq_d eX11_holds 57 rfl) zf_RX11_92 km_69_27 ?_
              refine zr_iload (pc := 106) (zq_d eX11_holds 58 rfl) 0 rfl ?_
              refine zr_zald (pc := 108) (zq_d eX11_holds 59 rfl) am_84 ?_
              refine zr_if_eq (pc := 109) 116 (zq_d eX11_holds 60 rfl) (by decide) (fun _ => ?_) (fun _ => ?_)
              · refine zr_iconst (pc := 116) (zq_d eX11_holds 63 rfl) zc_i0 ?_
                refine zr_goto (pc := 117) 147 (zq_d eX11_holds 64 rfl) (by decide) ?_
                exact zr_lo [2, 3, 4, 5, 6, 7, 0, 8] rfl (hj147_3 (0 : Int32))
              · refine zr_iconst (pc := 112) (zq_d eX11_holds 61 rfl) zc_i1 ?_
                refine zr_goto (pc := 113) 147 (zq_d eX11_holds 62 rfl) (by decide) ?_
                exact zr_lo [2, 3, 4, 5, 6, 7, 0, 8] rfl (hj147_3 (1 : Int32))
      · refine zr_aload_n (pc := 38) (zq_d eX11_holds 21 rfl) 1 rfl rfl ?_
        refine zr_getC (pc := 39) (zq_d eX11_holds 22 rfl) zf_RX11_92 km_69_27 ?_
        refine zr_iload (pc := 42) (zq_d eX11_holds 23 rfl) 7 rfl ?_
        refine zr_iconst (pc := 44) (zq_d eX11_holds 24 rfl) zc_i1 ?_
        refine zr_isub (pc := 45) (zq_d eX11_holds 25 rfl) ?_
        refine zr_aload_n (pc := 46) (zq_d eX11_holds 26 rfl) 1 rfl rfl ?_
        refine zr_getC (pc := 47) (zq_d eX11_holds 27 rfl) zf_RX11_92 km_69_27 ?_
        refine zr_iload (pc := 50) (zq_d eX11_holds 28 rfl) 7 rfl ?_
        refine zr_iconst (pc := 52) (zq_d eX11_holds 29 rfl) zc_i1 ?_
        refine zr_isub (pc := 53) (zq_d eX11_holds 30 rfl) ?_
        refine zr_zald (pc := 54) (zq_d eX11_holds 31 rfl) am_84 ?_
        have hj63_4 : ∀ (v10 : Int32), zq_V G YX11_holds (2, 0, 0) (zq_si zq_shM z) 0 0 63 [(0, .ref (zq_ad G 69)), (1, .int a1), (2, .int a2), (3, .int a3), (4, .int a4), (5, .int a5), (6, .int v1), (7, .int v2)] [.int v10, .int (v1 - (1 : Int32)), .ref (zq_ad G 84)] zq_shM z X3 (j_X11_holds_63 v1 v2 X3 rc11_1 v10) := by
          intro v10
          unfold j_X11_holds_63
          refine zr_zast (pc := 63) (zq_d eX11_holds 36 rfl) am_84 (fun X11 => ?_)
          refine zr_goto (pc := 64) 251 (zq_d eX11_holds 37 rfl) (by decide) ?_
          refine zr_iinc (pc := 251) (j := 7) (v := (v2 + (1 : Int32))) (lo2 := [(7, .int (v2 + (1 : Int32))), (0, .ref (zq_ad G 69)), (1, .int a1), (2, .int a2), (3, .int a3), (4, .int a4), (5, .int a5), (6, .int v1)]) (zq_d eX11_holds 134 rfl) rfl (by rw [zc_i1]) (Nat.le_of_ble_eq_true rfl) rfl ?_
          refine zr_goto (pc := 254) 11 (zq_d eX11_holds 135 rfl) (by decide) ?_
          exact zr_lo [1, 2, 3, 4, 5, 6, 7, 0] rfl (hrc11_1 v1 (v2 + (1 : Int32)) X11)
        refine zr_if_ne (pc := 55) 62 (zq_d eX11_holds 32 rfl) (by decide) (fun _ => ?_) (fun _ => ?_)
        · refine zr_iconst (pc := 62) (zq_d eX11_holds 35 rfl) zc_i0 ?_
          exact zr_lo [1, 2, 3, 4, 5, 6, 7, 8] rfl (hj63_4 (0 : Int32))
        · refine zr_iconst (pc := 58) (zq_d eX11_holds 33 rfl) zc_i1 ?_
          refine zr_goto (pc := 59) 63 (zq_d eX11_holds 34 rfl) (by decide) ?_
          exact zr_lo [1, 2, 3, 4, 5, 6, 7, 8] rfl (hj63_4 (1 : Int32))
  have hlrc11_1 := zr_loop (P := fun (rc11_1 : Int32 → Int32 → zq_M → Option (Int32 × zq_M)) => ∀ (v1 : Int32) (v2 : Int32) (X3 : zq_M), zq_V G YX11_holds (2, 0, 0) (zq_si zq_shM z) 0 0 11 [(0, .ref (zq_ad G 69)), (1, .int a1), (2, .int a2), (3, .int a3), (4, .int a4), (5, .int a5), (6, .int v1), (7, .int v2)] [] zq_shM z X3 (rc11_1 v1 v2 X3)) (fun _ _ _ => none) (b_X11_holds_11 N a1 a2 a3 a4 a5) (fun _ _ _ => zr_none) hbrc11_1 N
  exact zr_lo [2, 3, 4, 5, 6, 7, 1, 0] rfl (hlrc11_1 (0 : Int32) (X.1 79 (zq_ix a1)) X)
def b_X11_sumOf_9 (N : Nat) (a1 : Int32) (a2 : Int32) (a3 : Int32) (a4 : Int32) (a5 : Int32) (rc9_1 : Int32 → Int32 → zq_M → Option (Int32 × zq_M)) (v2 : Int32) (v3 : Int32) (X4 : zq_M) : Option (Int32 × zq_M) :=
  (f_X11_behind N X4).bind (fun v5 => if v5 ≤ v3 then (some (v2, X4)) else (zq_ck v3 60 (if ¬ (X4.1 77 (zq_ix v3)) = a1 then (rc9_1 (v2 + (0 : Int32)) (v3 + (1 : Int32)) X4) else ((f_X11_holds N X4 v3 a2 a3 a4 a5).bind (zq_p (fun v6 X7 => if v6 = 0 then (rc9_1 (v2 + (0 : Int32)) (v3 + (1 : Int32)) X7) else (zq_ck v3 60 (rc9_1 (v2 + (X7.1 78 (zq_ix v3))) (v3 + (1 : Int32)) X7))))))))
def f_X11_sumOf (N : Nat) (X : zq_M) (a1 : Int32) (a2 : Int32) (a3 : Int32) (a4 : Int32) (a5 : Int32) : Option (Int32 × zq_M) :=
  (f_X11_first N X).bind (fun v1 => zq_loop (fun _ _ _ => none) (b_X11_sumOf_9 N a1 a2 a3 a4 a5) N (0 : Int32) v1 X)
set_option maxRecDepth 20000 in
set_option maxHeartbeats 8000000 in
theorem s_X11_sumOf (G : zq_G) (N z : Nat) (X : zq_M) (a1 : Int32) (a2 : Int32) (a3 : Int32) (a4 : Int32) (a5 : Int32) : zq_V G YX11_sumOf (3, 0, 0) (zq_si zq_shM z) 0 0 0 (lv_args 0 [.ref (zq_ad G 69), .int a1, .int a2, .int a3, .int a4, .int a5]) [] zq_shM z X (f_X11_sumOf N X a1 a2 a3 a4 a5) := by
  unfold f_X11_sumOf
  refine zr_lo (l2 := [(0, .ref (zq_ad G 69)), (1, .int a1), (2, .int a2), (3, .int a3), (4, .int a4), (5, .int a5)]) [0, 1, 2, 3, 4, 5] rfl ?_
  refine zr_iconst (pc := 0) (zq_d eX11_sumOf 0 rfl) zc_i0 ?_
  refine zr_istore (pc := 1) (lo2 := [(6, .int (0 : Int32)), (0, .ref (zq_ad G 69)), (1, .int a1), (2, .int a2), (3, .int a3), (4, .int a4), (5, .int a5)]) (zq_d eX11_sumOf 1 rfl) (Nat.le_of_ble_eq_true rfl) rfl ?_
  refine zr_aload_n (pc := 3) (zq_d eX11_sumOf 2 rfl) 1 rfl rfl ?_
  refine zr_Vi (pc := 4) [] (zq_d eX11_sumOf 3 rfl) (s_X11_first G N z X ) zd_X11_first zl_RX11_308 om_69 rfl rfl rfl rfl (Nat.le_of_ble_eq_true rfl) (Nat.le_of_ble_eq_true rfl) (Nat.le_of_ble_eq_true rfl) ⟨Nat.le_refl _, Nat.le_refl _⟩ (fun v1 => ?_)
  refine zr_istore (pc := 7) (lo2 := [(7, .int v1), (6, .int (0 : Int32)), (0, .ref (zq_ad G 69)), (1, .int a1), (2, .int a2), (3, .int a3), (4, .int a4), (5, .int a5)]) (zq_d eX11_sumOf 4 rfl) (Nat.le_of_ble_eq_true rfl) rfl ?_
  have hbrc9_1 : ∀ rc9_1 : Int32 → Int32 → zq_M → Option (Int32 × zq_M), (∀ (v2 : Int32) (v3 : Int32) (X4 : zq_M), zq_V G YX11_sumOf (3, 0, 0) (zq_si zq_shM z) 0 0 9 [(0, .ref (zq_ad G 69)), (1, .int a1), (2, .int a2), (3, .int a3), (4, .int a4), (5, .int a5), (6, .int v2), (7, .int v3)] [] zq_shM z X4 (rc9_1 v2 v3 X4)) → ∀ (v2 : Int32) (v3 : Int32) (X4 : zq_M), zq_V G YX11_sumOf (3, 0, 0) (zq_si zq_shM z) 0 0 9 [(0, .ref (zq_ad G 69)), (1, .int a1), (2, .int a2), (3, .int a3), (4, .int a4), (5, .int a5), (6, .int v2), (7, .int v3)] [] zq_shM z X4 (b_X11_sumOf_9 N a1 a2 a3 a4 a5 rc9_1 v2 v3 X4) := by
    intro rc9_1 hrc9_1 v2 v3 X4
    unfold b_X11_sumOf_9
    refine zr_iload (pc := 9) (zq_d eX11_sumOf 5 rfl) 7 rfl ?_
    refine zr_aload_n (pc := 11) (zq_d eX11_sumOf 6 rfl) 0 rfl rfl ?_
    refine zr_Vi (pc := 12) [] (zq_d eX11_sumOf 7 rfl) (s_X11_behind G N z X4 ) zd_X11_behind zl_RX11_311 om_69 rfl rfl rfl rfl (Nat.le_of_ble_eq_true rfl) (Nat.le_of_ble_eq_true rfl) (Nat.le_of_ble_eq_true rfl) ⟨Nat.le_refl _, Nat.le_refl _⟩ (fun v5 => ?_)
    refine zr_icmp_ge (pc := 15) 66 (zq_d eX11_sumOf 8 rfl) (by decide) (fun _ => ?_) (fun _ => ?_)
    · refine zr_iload (pc := 66) (zq_d eX11_sumOf 34 rfl) 6 rfl ?_
      exact zr_ireturn (pc := 68) (zq_d eX11_sumOf 35 rfl) rfl rfl (Nat.zero_le _) (Nat.zero_le _)
    · refine zr_iload (pc := 18) (zq_d eX11_sumOf 9 rfl) 6 rfl ?_
      refine zr_aload_n (pc := 20) (zq_d eX11_sumOf 10 rfl) 0 rfl rfl ?_
      refine zr_getC (pc := 21) (zq_d eX11_sumOf 11 rfl) zf_RX11_62 km_69_17 ?_
      refine zr_iload (pc := 24) (zq_d eX11_sumOf 12 rfl) 7 rfl ?_
      refine zr_iald (pc := 26) (zq_d eX11_sumOf 13 rfl) am_77 ?_
      refine zr_iload_n (pc := 27) (zq_d eX11_sumOf 14 rfl) 1 rfl rfl ?_
      refine zr_icmp_ne (pc := 28) 56 (zq_d eX11_sumOf 15 rfl) (by decide) (fun _ => ?_) (fun _ => ?_)
      · refine zr_iconst (pc := 56) (zq_d eX11_sumOf 29 rfl) zc_i0 ?_
        refine zr_iadd (pc := 57) (zq_d eX11_sumOf 30 rfl) ?_
        refine zr_istore (pc := 58) (lo2 := [(6, .int (v2 + (0 : Int32))), (0, .ref (zq_ad G 69)), (1, .int a1), (2, .int a2), (3, .int a3), (4, .int a4), (5, .int a5), (7, .int v3)]) (zq_d eX11_sumOf 31 rfl) (Nat.le_of_ble_eq_true rfl) rfl ?_
        refine zr_iinc (pc := 60) (j := 7) (v := (v3 + (1 : Int32))) (lo2 := [(7, .int (v3 + (1 : Int32))), (6, .int (v2 + (0 : Int32))), (0, .ref (zq_ad G 69)), (1, .int a1), (2, .int a2), (3, .int a3), (4, .int a4), (5, .int a5)]) (zq_d eX11_sumOf 32 rfl) rfl (by rw [zc_i1]) (Nat.le_of_ble_eq_true rfl) rfl ?_
        refine zr_goto (pc := 63) 9 (zq_d eX11_sumOf 33 rfl) (by decide) ?_
        exact zr_lo [2, 3, 4, 5, 6, 7, 1, 0] rfl (hrc9_1 (v2 + (0 : Int32)) (v3 + (1 : Int32)) X4)
      · refine zr_aload_n (pc := 31) (zq_d eX11_sumOf 16 rfl) 0 rfl rfl ?_
        refine zr_iload (pc := 32) (zq_d eX11_sumOf 17 rfl) 7 rfl ?_
        refine zr_iload_n (pc := 34) (zq_d eX11_sumOf 18 rfl) 2 rfl rfl ?_
        refine zr_iload_n (pc := 35) (zq_d eX11_sumOf 19 rfl) 3 rfl rfl ?_
        refine zr_iload (pc := 36) (zq_d eX11_sumOf 20 rfl) 4 rfl ?_
        refine zr_iload (pc := 38) (zq_d eX11_sumOf 21 rfl) 5 rfl ?_
        refine zr_Wsi (pc := 40) [_, _, _, _, _] (zq_d eX11_sumOf 22 rfl) (s_X11_holds G N z X4 _ _ _ _ _) zd_X11_holds zl_RX11_318 om_69 rfl rfl rfl rfl (Nat.le_of_ble_eq_true rfl) (Nat.le_of_ble_eq_true rfl) (Nat.le_of_ble_eq_true rfl) ⟨Nat.le_refl _, Nat.le_refl _⟩ (fun v6 X7 => ?_)
        refine zr_if_eq (pc := 43) 56 (zq_d eX11_sumOf 23 rfl) (by decide) (fun _ => ?_) (fun _ => ?_)
        · refine zr_iconst (pc := 56) (zq_d eX11_sumOf 29 rfl) zc_i0 ?_
          refine zr_iadd (pc := 57) (zq_d eX11_sumOf 30 rfl) ?_
          refine zr_istore (pc := 58) (lo2 := [(6, .int (v2 + (0 : Int32))), (0, .ref (zq_ad G 69)), (1, .int a1), (2, .int a2), (3, .int a3), (4, .int a4), (5, .int a5), (7, .int v3)]) (zq_d eX11_sumOf 31 rfl) (Nat.le_of_ble_eq_true rfl) rfl ?_
          refine zr_iinc (pc := 60) (j := 7) (v := (v3 + (1 : Int32))) (lo2 := [(7, .int (v3 + (1 : Int32))), (6, .int (v2 + (0 : Int32))), (0, .ref (zq_ad G 69)), (1, .int a1), (2, .int a2), (3, .int a3), (4, .int a4), (5, .int a5)]) (zq_d eX11_sumOf 32 rfl) rfl (by rw [zc_i1]) (Nat.le_of_ble_eq_true rfl) rfl ?_
          refine zr_goto (pc := 63) 9 (zq_d eX11_sumOf 33 rfl) (by decide) ?_
          exact zr_lo [2, 3, 4, 5, 6, 7, 1, 0] rfl (hrc9_1 (v2 + (0 : Int32)) (v3 + (1 : Int32)) X7)
        · refine zr_aload_n (pc := 46) (zq_d eX11_sumOf 24 rfl) 0 rfl rfl ?_
          refine zr_getC (pc := 47) (zq_d eX11_sumOf 25 rfl) zf_RX11_65 km_69_18 ?_
          refine zr_iload (pc := 50) (zq_d eX11_sumOf 26 rfl) 7 rfl ?_
          refine zr_iald (pc := 52) (zq_d eX11_sumOf 27 rfl) am_78 ?_
          refine zr_goto (pc := 53) 57 (zq_d eX11_sumOf 28 rfl) (by decide) ?_
          refine zr_iadd (pc := 57) (zq_d eX11_sumOf 30 rfl) ?_
          refine zr_istore (pc := 58) (lo2 := [(6, .int (v2 + (X7.1 78 (zq_ix v3)))), (0, .ref (zq_ad G 69)), (1, .int a1), (2, .int a2), (3, .int a3), (4, .int a4), (5, .int a5), (7, .int v3)]) (zq_d eX11_sumOf 31 rfl) (Nat.le_of_ble_eq_true rfl) rfl ?_
          refine zr_iinc (pc := 60) (j := 7) (v := (v3 + (1 : Int32))) (lo2 := [(7, .int (v3 + (1 : Int32))), (6, .int (v2 + (X7.1 78 (zq_ix v3)))), (0, .ref (zq_ad G 69)), (1, .int a1), (2, .int a2), (3, .int a3), (4, .int a4), (5, .int a5)]) (zq_d eX11_sumOf 32 rfl) rfl (by rw [zc_i1]) (Nat.le_of_ble_eq_true rfl) rfl ?_
          refine zr_goto (pc := 63) 9 (zq_d eX11_sumOf 33 rfl) (by decide) ?_
          exact zr_lo [2, 3, 4, 5, 6, 7, 1, 0] rfl (hrc9_1 (v2 + (X7.1 78 (zq_ix v3))) (v3 + (1 : Int32)) X7)
  have hlrc9_1 := zr_loop (P := fun (rc9_1 : Int32 → Int32 → zq_M → Option (Int32 × zq_M)) => ∀ (v2 : Int32) (v3 : Int32) (X4 : zq_M), zq_V G YX11_sumOf (3, 0, 0) (zq_si zq_shM z) 0 0 9 [(0, .ref (zq_ad G 69)), (1, .int a1), (2, .int a2), (3, .int a3), (4, .int a4), (5, .int a5), (6, .int v2), (7, .int v3)] [] zq_shM z X4 (rc9_1 v2 v3 X4)) (fun _ _ _ => none) (b_X11_sumOf_9 N a1 a2 a3 a4 a5) (fun _ _ _ => zr_none) hbrc9_1 N
  exact zr_lo [2, 3, 4, 5, 6, 7, 1, 0] rfl (hlrc9_1 (0 : Int32) v1 X)
def b_X11_isBarred_6 (N : Nat) (a1 : Int32) (a2 : Int32) (a3 : Int32) (rc6_1 : Int32 → zq_M → Option (Int32 × zq_M)) (v2 : Int32) (X3 : zq_M) : Option (Int32 × zq_M) :=
  (f_X11_behind N X3).bind (fun v4 => if v4 ≤ v2 then (some ((0 : Int32), X3)) else (zq_ck v2 60 (if ¬ (X3.1 77 (zq_ix v2)) = (1 : Int32) then (rc6_1 (v2 + (1 : Int32)) X3) else ((f_X11_holds N X3 v2 a1 a2 a3 (99 : Int32)).bind (zq_p (fun v5 X6 => if v5 = 0 then (rc6_1 (v2 + (1 : Int32)) X6) else (some ((1 : Int32), X6))))))))
def f_X11_isBarred (N : Nat) (X : zq_M) (a1 : Int32) (a2 : Int32) (a3 : Int32) : Option (Int32 × zq_M) :=
  (f_X11_first N X).bind (fun v1 => zq_loop (fun _ _ => none) (b_X11_isBarred_6 N a1 a2 a3) N v1 X)
set_option maxRecDepth 20000 in
set_option maxHeartbeats 8000000 in
theorem s_X11_isBarred (G : zq_G) (N z : Nat) (X : zq_M) (a1 : Int32) (a2 : Int32) (a3 : Int32) : zq_V G YX11_isBarred (3, 0, 0) (zq_si zq_shM z) 0 0 0 (lv_args 0 [.ref (zq_ad G 69), .int a1, .int a2, .int a3]) [] zq_shM z X (f_X11_isBarred N X a1 a2 a3) := by
  unfold f_X11_isBarred
  refine zr_lo (l2 := [(0, .ref (zq_ad G 69)), (1, .int a1), (2, .int a2), (3, .int a3)]) [0, 1, 2, 3] rfl ?_
  refine zr_aload_n (pc := 0) (zq_d eX11_isBarred 0 rfl) 0 rfl rfl ?_
  refine zr_Vi (pc := 1) [] (zq_d eX11_isBarred 1 rfl) (s_X11_first G N z X ) zd_X11_first zl_RX11_308 om_69 rfl rfl rfl rfl (Nat.le_of_ble_eq_true rfl) (Nat.le_of_ble_eq_true rfl) (Nat.le_of_ble_eq_true rfl) ⟨Nat.le_refl _, Nat.le_refl _⟩ (fun v1 => ?_)
  refine zr_istore (pc := 4) (lo2 := [(4, .int v1), (0, .ref (zq_ad G 69)), (1, .int a1), (2, .int a2), (3, .int a3)]) (zq_d eX11_isBarred 2 rfl) (Nat.le_of_ble_eq_true rfl) rfl ?_
  have hbrc6_1 : ∀ rc6_1 : Int32 → zq_M → Option (Int32 × zq_M), (∀ (v2 : Int32) (X3 : zq_M), zq_V G YX11_isBarred (3, 0, 0) (zq_si zq_shM z) 0 0 6 [(0, .ref (zq_ad G 69)), (1, .int a1), (2, .int a2), (3, .int a3), (4, .int v2)] [] zq_shM z X3 (rc6_1 v2 X3)) → ∀ (v2 : Int32) (X3 : zq_M), zq_V G YX11_isBarred (3, 0, 0) (zq_si zq_shM z) 0 0 6 [(0, .ref (zq_ad G 69)), (1, .int a1), (2, .int a2), (3, .int a3), (4, .int v2)] [] zq_shM z X3 (b_X11_isBarred_6 N a1 a2 a3 rc6_1 v2 X3) := by
    intro rc6_1 hrc6_1 v2 X3
    unfold b_X11_isBarred_6
    refine zr_iload (pc := 6) (zq_d eX11_isBarred 3 rfl) 4 rfl ?_
    refine zr_aload_n (pc := 8) (zq_d eX11_isBarred 4 rfl) 0 rfl rfl ?_
    refine zr_Vi (pc := 9) [] (zq_d eX11_isBarred 5 rfl) (s_X11_behind G N z X3 ) zd_X11_behind zl_RX11_311 om_69 rfl rfl rfl rfl (Nat.le_of_ble_eq_true rfl) (Nat.le_of_ble_eq_true rfl) (Nat.le_of_ble_eq_true rfl) ⟨Nat.le_refl _, Nat.le_refl _⟩ (fun v4 => ?_)
    refine zr_icmp_ge (pc := 12) 48 (zq_d eX11_isBarred 6 rfl) (by decide) (fun _ => ?_) (fun _ => ?_)
    · refine zr_iconst (pc := 48) (zq_d eX11_isBarred 25 rfl) zc_i0 ?_
      exact zr_zreturn (pc := 49) (zq_d eX11_isBarred 26 rfl) rfl rfl rfl (Nat.zero_le _) (Nat.zero_le _)
    · refine zr_aload_n (pc := 15) (zq_d eX11_isBarred 7 rfl) 0 rfl rfl ?_
      refine zr_getC (pc := 16) (zq_d eX11_isBarred 8 rfl) zf_RX11_62 km_69_17 ?_
      refine zr_iload (pc := 19) (zq_d eX11_isBarred 9 rfl) 4 rfl ?_
      refine zr_iald (pc := 21) (zq_d eX11_isBarred 10 rfl) am_77 ?_
      refine zr_iconst (pc := 22) (zq_d eX11_isBarred 11 rfl) zc_i1 ?_
      refine zr_icmp_ne (pc := 23) 42 (zq_d eX11_isBarred 12 rfl) (by decide) (fun _ => ?_) (fun _ => ?_)
      · refine zr_iinc (pc := 42) (j := 4) (v := (v2 + (1 : Int32))) (lo2 := [(4, .int (v2 + (1 : Int32))), (0, .ref (zq_ad G 69)), (1, .int a1), (2, .int a2), (3, .int a3)]) (zq_d eX11_isBarred 23 rfl) rfl (by rw [zc_i1]) (Nat.le_of_ble_eq_true rfl) rfl ?_
        refine zr_goto (pc := 45) 6 (zq_d eX11_isBarred 24 rfl) (by decide) ?_
        exact zr_lo [1, 2, 3, 4, 0] rfl (hrc6_1 (v2 + (1 : Int32)) X3)
      · refine zr_aload_n (pc := 26) (zq_d eX11_isBarred 13 rfl) 0 rfl rfl ?_
        refine zr_iload (pc := 27) (zq_d eX11_isBarred 14 rfl) 4 rfl ?_
        refine zr_iload_n (pc := 29) (zq_d eX11_isBarred 15 rfl) 1 rfl rfl ?_
        refine zr_iload_n (pc := 30) (zq_d eX11_isBarred 16 rfl) 2 rfl rfl ?_
        refine zr_iload_n (pc := 31) (zq_d eX11_isBarred 17 rfl) 3 rfl rfl ?_
        refine zr_bipush (pc := 32) (zq_d eX11_isBarred 18 rfl) zc_b99 ?_
        refine zr_Wsi (pc := 34) [_, _, _, _, _] (zq_d eX11_isBarred 19 rfl) (s_X11_holds G N z X3 _ _ _ _ _) zd_X11_holds zl_RX11_318 om_69 rfl rfl rfl rfl (Nat.le_of_ble_eq_true rfl) (Nat.le_of_ble_eq_true rfl) (Nat.le_of_ble_eq_true rfl) ⟨Nat.le_refl _, Nat.le_refl _⟩ (fun v5 X6 => ?_)
        refine zr_if_eq (pc := 37) 42 (zq_d eX11_isBarred 20 rfl) (by decide) (fun _ => ?_) (fun _ => ?_)
        · refine zr_iinc (pc := 42) (j := 4) (v := (v2 + (1 : Int32))) (lo2 := [(4, .int (v2 + (1 : Int32))), (0, .ref (zq_ad G 69)), (1, .int a1), (2, .int a2), (3, .int a3)]) (zq_d eX11_isBarred 23 rfl) rfl (by rw [zc_i1]) (Nat.le_of_ble_eq_true rfl) rfl ?_
          refine zr_goto (pc := 45) 6 (zq_d eX11_isBarred 24 rfl) (by decide) ?_
          exact zr_lo [1, 2, 3, 4, 0] rfl (hrc6_1 (v2 + (1 : Int32)) X6)
        · refine zr_iconst (pc := 40) (zq_d eX11_isBarred 21 rfl) zc_i1 ?_
          exact zr_zreturn (pc := 41) (zq_d eX11_isBarred 22 rfl) rfl rfl rfl (Nat.zero_le _) (Nat.zero_le _)
  have hlrc6_1 := zr_loop (P := fun (rc6_1 : Int32 → zq_M → Option (Int32 × zq_M)) => ∀ (v2 : Int32) (X3 : zq_M), zq_V G YX11_isBarred (3, 0, 0) (zq_si zq_shM z) 0 0 6 [(0, .ref (zq_ad G 69)), (1, .int a1), (2, .int a2), (3, .int a3), (4, .int v2)] [] zq_shM z X3 (rc6_1 v2 X3)) (fun _ _ => none) (b_X11_isBarred_6 N a1 a2 a3) (fun _ _ => zr_none) hbrc6_1 N
  exact zr_lo [1, 2, 3, 4, 0] rfl (hlrc6_1 v1 X)
def b_X11_layComings_27 (N : Nat) (v3 : Int32) (v5 : Int32) (rc20_2 : Int32 → zq_M → Option zq_M) (rc27_3 : Int32 → zq_M → Option zq_M) (v7 : Int32) (X8 : zq_M) : Option zq_M :=
  if (X8.1 69 0) < v7 then (rc20_2 (v5 + (1 : Int32)) X8) else ((f_X11_sumOf N X8 (0 : Int32) v3 v5 v7 (99 : Int32)).bind (zq_p (fun v9 X10 => zq_ck ((((24 : Int32) * v3) + ((6 : Int32) * v5)) + v7) 120 (zq_b (zq_u1 X10 85 (zq_ix ((((24 : Int32) * v3) + ((6 : Int32) * v5)) + v7)) ((1 : Int32) + v9)) (fun X11 => (f_X11_isBarred N X11 v3 v5 v7).bind (zq_p (fun v12 X13 => zq_ck ((((24 : Int32) * v3) + ((6 : Int32) * v5)) + v7) 120 (zq_b (zq_u1 X13 86 (zq_ix ((((24 : Int32) * v3) + ((6 : Int32) * v5)) + v7)) (vp_nar .boolean v12)) (fun X14 => rc27_3 (v7 + (1 : Int32)) X14)))))))))
def b_X11_layComings_20 (N : Nat) (v3 : Int32) (rc10_1 : Int32 → zq_M → Option zq_M) (rc20_2 : Int32 → zq_M → Option zq_M) (v5 : Int32) (X6 : zq_M) : Option zq_M :=
  if (4 : Int32) ≤ v5 then (rc10_1 (v3 + (1 : Int32)) X6) else (zq_loop (fun _ _ => none) (b_X11_layComings_27 N v3 v5 rc20_2) N (1 : Int32) X6)
def b_X11_layComings_10 (N : Nat) (rc10_1 : Int32 → zq_M → Option zq_M) (v3 : Int32) (X4 : zq_M) : Option zq_M :=
  if (X4.1 69 0) ≤ v3 then (some X4) else (zq_loop (fun _ _ => none) (b_X11_layComings_20 N v3 rc10_1) N (0 : Int32) X4)
def f_X11_layComings (N : Nat) (X : zq_M)  : Option zq_M :=
  (f_X11_sameNow N X).bind (fun v1 => zq_b (zq_u1 X 69 9 v1) (fun X2 => zq_loop (fun _ _ => none) (b_X11_layComings_10 N) N (0 : Int32) X2))
set_option maxRecDepth 20000 in
set_option maxHeartbeats 8000000 in
theorem s_X11_layComings (G : zq_G) (N z : Nat) (X : zq_M)  : zq_V G YX11_layComings (4, 0, 0) (zq_sv zq_shM z) 0 0 0 (lv_args 0 [.ref (zq_ad G 69)]) [] zq_shM z X (f_X11_layComings N X ) := by
  unfold f_X11_layComings
  refine zr_lo (l2 := [(0, .ref (zq_ad G 69))]) [0] rfl ?_
  refine zr_aload_n (pc := 0) (zq_d eX11_layComings 0 rfl) 0 rfl rfl ?_
  refine zr_aload_n (pc := 1) (zq_d eX11_layComings 1 rfl) 0 rfl rfl ?_
  refine zr_Vi (pc := 2) [] (zq_d eX11_layComings 2 rfl) (s_X11_sameNow G N z X ) zd_X11_sameNow zl_RX11_252 om_69 rfl rfl rfl rfl (Nat.le_of_ble_eq_true rfl) (Nat.le_of_ble_eq_true rfl) (Nat.le_of_ble_eq_true rfl) ⟨Nat.le_refl _, Nat.le_refl _⟩ (fun v1 => ?_)
  refine zr_putI (pc := 5) (zq_d eX11_layComings 3 rfl) zf_RX11_38 km_69_9 zn_11_9 (fun X2 => ?_)
  refine zr_iconst (pc := 8) (zq_d eX11_layComings 4 rfl) zc_i0 ?_
  refine zr_istore_n (pc := 9) (lo2 := [(1, .int (0 : Int32)), (0, .ref (zq_ad G 69))]) (zq_d eX11_layComings 5 rfl) rfl (Nat.le_of_ble_eq_true rfl) rfl ?_
  have hbrc10_1 : ∀ rc10_1 : Int32 → zq_M → Option zq_M, (∀ (v3 : Int32) (X4 : zq_M), zq_V G YX11_layComings (4, 0, 0) (zq_sv zq_shM z) 0 0 10 [(0, .ref (zq_ad G 69)), (1, .int v3)] [] zq_shM z X4 (rc10_1 v3 X4)) → ∀ (v3 : Int32) (X4 : zq_M), zq_V G YX11_layComings (4, 0, 0) (zq_sv zq_shM z) 0 0 10 [(0, .ref (zq_ad G 69)), (1, .int v3)] [] zq_shM z X4 (b_X11_layComings_10 N rc10_1 v3 X4) := by
    intro rc10_1 hrc10_1 v3 X4
    unfold b_X11_layComings_10
    refine zr_iload_n (pc := 10) (zq_d eX11_layComings 6 rfl) 1 rfl rfl ?_
    refine zr_aload_n (pc := 11) (zq_d eX11_layComings 7 rfl) 0 rfl rfl ?_
    refine zr_getI (pc := 12) (zq_d eX11_layComings 8 rfl) zf_RX11_7 km_69_0 ?_
    refine zr_icmp_ge (pc := 15) 104 (zq_d eX11_layComings 9 rfl) (by decide) (fun _ => ?_) (fun _ => ?_)
    · exact zr_vreturn (pc := 104) (zq_d eX11_layComings 65 rfl) rfl rfl (Nat.zero_le _) (Nat.zero_le _)
    · refine zr_iconst (pc := 18) (zq_d eX11_layComings 10 rfl) zc_i0 ?_
      refine zr_istore_n (pc := 19) (lo2 := [(2, .int (0 : Int32)), (0, .ref (zq_ad G 69)), (1, .int v3)]) (zq_d eX11_layComings 11 rfl) rfl (Nat.le_of_ble_eq_true rfl) rfl ?_
      have hbrc20_2 : ∀ rc20_2 : Int32 → zq_M → Option zq_M, (∀ (v5 : Int32) (X6 : zq_M), zq_V G YX11_layComings (4, 0, 0) (zq_sv zq_shM z) 0 0 20 [(0, .ref (zq_ad G 69)), (1, .int v3), (2, .int v5)] [] zq_shM z X6 (rc20_2 v5 X6)) → ∀ (v5 : Int32) (X6 : zq_M), zq_V G YX11_layComings (4, 0, 0) (zq_sv zq_shM z) 0 0 20 [(0, .ref (zq_ad G 69)), (1, .int v3), (2, .int v5)] [] zq_shM z X6 (b_X11_layComings_20 N v3 rc10_1 rc20_2 v5 X6) := by
        intro rc20_2 hrc20_2 v5 X6
        unfold b_X11_layComings_20
        refine zr_iload_n (pc := 20) (zq_d eX11_layComings 12 rfl) 2 rfl rfl ?_
        refine zr_iconst (pc := 21) (zq_d eX11_layComings 13 rfl) zc_i4 ?_
        refine zr_icmp_ge (pc := 22) 98 (zq_d eX11_layComings 14 rfl) (by decide) (fun _ => ?_) (fun _ => ?_)
        · refine zr_iinc (pc := 98) (j := 1) (v := (v3 + (1 : Int32))) (lo2 := [(1, .int (v3 + (1 : Int32))), (0, .ref (zq_ad G 69)), (2, .int v5)]) (zq_d eX11_layComings 63 rfl) rfl (by rw [zc_i1]) (Nat.le_of_ble_eq_true rfl) rfl ?_
          refine zr_goto (pc := 101) 10 (zq_d eX11_layComings 64 rfl) (by decide) ?_
          exact zr_lo [1, 0] rfl (hrc10_1 (v3 + (1 : Int32)) X6)
        · refine zr_iconst (pc := 25) (zq_d eX11_layComings 15 rfl) zc_i1 ?_
          refine zr_istore_n (pc := 26) (lo2 := [(3, .int (1 : Int32)), (0, .ref (zq_ad G 69)), (1, .int v3), (2, .int v5)]) (zq_d eX11_layComings 16 rfl) rfl (Nat.le_of_ble_eq_true rfl) rfl ?_
          have hbrc27_3 : ∀ rc27_3 : Int32 → zq_M → Option zq_M, (∀ (v7 : Int32) (X8 : zq_M), zq_V G YX11_layComings (4, 0, 0) (zq_sv zq_shM z) 0 0 27 [(0, .ref (zq_ad G 69)), (1, .int v3), (2, .int v5), (3, .int v7)] [] zq_shM z X8 (rc27_3 v7 X8)) → ∀ (v7 : Int32) (X8 : zq_M), zq_V G YX11_layComings (4, 0, 0) (zq_sv zq_shM z) 0 0 27 [(0, .ref (zq_ad G 69)), (1, .int v3), (2, .int v5), (3, .int v7)] [] zq_shM z X8 (b_X11_layComings_27 N v3 v5 rc20_2 rc27_3 v7 X8) := by
            intro rc27_3 hrc27_3 v7 X8
            unfold b_X11_layComings_27
            refine zr_iload_n (pc := 27) (zq_d eX11_layComings 17 rfl) 3 rfl rfl ?_
            refine zr_aload_n (pc := 28) (zq_d eX11_layComings 18 rfl) 0 rfl rfl ?_
            refine zr_getI (pc := 29) (zq_d eX11_layComings 19 rfl) zf_RX11_7 km_69_0 ?_
            refine zr_icmp_gt (pc := 32) 92 (zq_d eX11_layComings 20 rfl) (by decide) (fun _ => ?_) (fun _ => ?_)
            · refine zr_iinc (pc := 92) (j := 2) (v := (v5 + (1 : Int32))) (lo2 := [(2, .int (v5 + (1 : Int32))), (0, .ref (zq_ad G 69)), (1, .int v3), (3, .int v7)]) (zq_d eX11_layComings 61 rfl) rfl (by rw [zc_i1]) (Nat.le_of_ble_eq_true rfl) rfl ?_
              refine zr_goto (pc := 95) 20 (zq_d eX11_layComings 62 rfl) (by decide) ?_
              exact zr_lo [1, 2, 0] rfl (hrc20_2 (v5 + (1 : Int32)) X8)
            · refine zr_aload_n (pc := 35) (zq_d eX11_layComings 21 rfl) 0 rfl rfl ?_
              refine zr_getC (pc := 36) (zq_d eX11_layComings 22 rfl) zf_RX11_96 km_69_28 ?_
              refine zr_bipush (pc := 39) (zq_d eX11_layComings 23 rfl) zc_b24 ?_
              refine zr_iload_n (pc := 41) (zq_d eX11_layComings 24 rfl) 1 rfl rfl ?_
              refine zr_imul (pc := 42) (zq_d eX11_layComings 25 rfl) ?_
              refine zr_bipush (pc := 43) (zq_d eX11_layComings 26 rfl) zc_b6 ?_
              refine zr_iload_n (pc := 45) (zq_d eX11_layComings 27 rfl) 2 rfl rfl ?_
              refine zr_imul (pc := 46) (zq_d eX11_layComings 28 rfl) ?_
              refine zr_iadd (pc := 47) (zq_d eX11_layComings 29 rfl) ?_
              refine zr_iload_n (pc := 48) (zq_d eX11_layComings 30 rfl) 3 rfl rfl ?_
              refine zr_iadd (pc := 49) (zq_d eX11_layComings 31 rfl) ?_
              refine zr_iconst (pc := 50) (zq_d eX11_layComings 32 rfl) zc_i1 ?_
              refine zr_aload_n (pc := 51) (zq_d eX11_layComings 33 rfl) 0 rfl rfl ?_
              refine zr_iconst (pc := 52) (zq_d eX11_layComings 34 rfl) zc_i0 ?_
              refine zr_iload_n (pc := 53) (zq_d eX11_layComings 35 rfl) 1 rfl rfl ?_
              refine zr_iload_n (pc := 54) (zq_d eX11_layComings 36 rfl) 2 rfl rfl ?_
              refine zr_iload_n (pc := 55) (zq_d eX11_layComings 37 rfl) 3 rfl rfl ?_
              refine zr_bipush (pc := 56) (zq_d eX11_layComings 38 rfl) zc_b99 ?_
              refine zr_Wsi (pc := 58) [_, _, _, _, _] (zq_d eX11_layComings 39 rfl) (s_X11_sumOf G N z X8 _ _ _ _ _) zd_X11_sumOf zl_RX11_322 om_69 rfl rfl rfl rfl (Nat.le_of_ble_eq_true rfl) (Nat.le_of_ble_eq_true rfl) (Nat.le_of_ble_eq_true rfl) ⟨Nat.le_refl _, Nat.le_refl _⟩ (fun v9 X10 => ?_)
              refine zr_iadd (pc := 61) (zq_d eX11_layComings 40 rfl) ?_
              refine zr_iast (pc := 62) (zq_d eX11_layComings 41 rfl) am_85 (fun X11 => ?_)
              refine zr_aload_n (pc := 63) (zq_d eX11_layComings 42 rfl) 0 rfl rfl ?_
              refine zr_getC (pc := 64) (zq_d eX11_layComings 43 rfl) zf_RX11_99 km_69_29 ?_
              refine zr_bipush (pc := 67) (zq_d eX11_layComings 44 rfl) zc_b24 ?_
              refine zr_iload_n (pc := 69) (zq_d eX11_layComings 45 rfl) 1 rfl rfl ?_
              refine zr_imul (pc := 70) (zq_d eX11_layComings 46 rfl) ?_
              refine zr_bipush (pc := 71) (zq_d eX11_layComings 47 rfl) zc_b6 ?_
              refine zr_iload_n (pc := 73) (zq_d eX11_layComings 48 rfl) 2 rfl rfl ?_
              refine zr_imul (pc := 74) (zq_d eX11_layComings 49 rfl) ?_
              refine zr_iadd (pc := 75) (zq_d eX11_layComings 50 rfl) ?_
              refine zr_iload_n (pc := 76) (zq_d eX11_layComings 51 rfl) 3 rfl rfl ?_
              refine zr_iadd (pc := 77) (zq_d eX11_layComings 52 rfl) ?_
              refine zr_aload_n (pc := 78) (zq_d eX11_layComings 53 rfl) 0 rfl rfl ?_
              refine zr_iload_n (pc := 79) (zq_d eX11_layComings 54 rfl) 1 rfl rfl ?_
              refine zr_iload_n (pc := 80) (zq_d eX11_layComings 55 rfl) 2 rfl rfl ?_
              refine zr_iload_n (pc := 81) (zq_d eX11_layComings 56 rfl) 3 rfl rfl ?_
              refine zr_Wsi (pc := 82) [_, _, _] (zq_d eX11_layComings 57 rfl) (s_X11_isBarred G N z X11 _ _ _) zd_X11_isBarred zl_RX11_325 om_69 rfl rfl rfl rfl (Nat.le_of_ble_eq_true rfl) (Nat.le_of_ble_eq_true rfl) (Nat.le_of_ble_eq_true rfl) ⟨Nat.le_refl _, Nat.le_refl _⟩ (fun v12 X13 => ?_)
              refine zr_zast (pc := 85) (zq_d eX11_layComings 58 rfl) am_86 (fun X14 => ?_)
              refine zr_iinc (pc := 86) (j := 3) (v := (v7 + (1 : Int32))) (lo2 := [(3, .int (v7 + (1 : Int32))), (0, .ref (zq_ad G 69)), (1, .int v3), (2, .int v5)]) (zq_d eX11_layComings 59 rfl) rfl (by rw [zc_i1]) (Nat.le_of_ble_eq_true rfl) rfl ?_
              refine zr_goto (pc := 89) 27 (zq_d eX11_layComings 60 rfl) (by decide) ?_
              exact zr_lo [1, 2, 3, 0] rfl (hrc27_3 (v7 + (1 : Int32)) X14)
          have hlrc27_3 := zr_loop (P := fun (rc27_3 : Int32 → zq_M → Option zq_M) => ∀ (v7 : Int32) (X8 : zq_M), zq_V G YX11_layComings (4, 0, 0) (zq_sv zq_shM z) 0 0 27 [(0, .ref (zq_ad G 69)), (1, .int v3), (2, .int v5), (3, .int v7)] [] zq_shM z X8 (rc27_3 v7 X8)) (fun _ _ => none) (b_X11_layComings_27 N v3 v5 rc20_2) (fun _ _ => zr_none) hbrc27_3 N
          exact zr_lo [1, 2, 3, 0] rfl (hlrc27_3 (1 : Int32) X6)
      have hlrc20_2 := zr_loop (P := fun (rc20_2 : Int32 → zq_M → Option zq_M) => ∀ (v5 : Int32) (X6 : zq_M), zq_V G YX11_layComings (4, 0, 0) (zq_sv zq_shM z) 0 0 20 [(0, .ref (zq_ad G 69)), (1, .int v3), (2, .int v5)] [] zq_shM z X6 (rc20_2 v5 X6)) (fun _ _ => none) (b_X11_layComings_20 N v3 rc10_1) (fun _ _ => zr_none) hbrc20_2 N
      exact zr_lo [1, 2, 0] rfl (hlrc20_2 (0 : Int32) X4)
  have hlrc10_1 := zr_loop (P := fun (rc10_1 : Int32 → zq_M → Option zq_M) => ∀ (v3 : Int32) (X4 : zq_M), zq_V G YX11_layComings (4, 0, 0) (zq_sv zq_shM z) 0 0 10 [(0, .ref (zq_ad G 69)), (1, .int v3)] [] zq_shM z X4 (rc10_1 v3 X4)) (fun _ _ => none) (b_X11_layComings_10 N) (fun _ _ => zr_none) hbrc10_1 N
  exact zr_lo [1, 0] rfl (hlrc10_1 (0 : Int32) X2)
def f_X11_comingOf (N : Nat) (X : zq_M) (a1 : Int32) (a2 : Int32) (a3 : Int32) : Option Int32 :=
  (f_X11_manyIn N X a1 a3).bind (fun v1 => some (((((24 : Int32) * a2) + ((6 : Int32) * a3)) + v1) + (1 : Int32)))
set_option maxRecDepth 20000 in
set_option maxHeartbeats 8000000 in
theorem s_X11_comingOf (G : zq_G) (N z : Nat) (X : zq_M) (a1 : Int32) (a2 : Int32) (a3 : Int32) : zq_V G YX11_comingOf (3, 0, 0) (zq_ei zq_shM z X) 0 0 0 (lv_args 0 [.ref (zq_ad G 69), .int a1, .int a2, .int a3]) [] zq_shM z X (f_X11_comingOf N X a1 a2 a3) := by
  unfold f_X11_comingOf
  refine zr_lo (l2 := [(0, .ref (zq_ad G 69)), (1, .int a1), (2, .int a2), (3, .int a3)]) [0, 1, 2, 3] rfl ?_
  refine zr_bipush (pc := 0) (zq_d eX11_comingOf 0 rfl) zc_b24 ?_
  refine zr_iload_n (pc := 2) (zq_d eX11_comingOf 1 rfl) 2 rfl rfl ?_
  refine zr_imul (pc := 3) (zq_d eX11_comingOf 2 rfl) ?_
  refine zr_bipush (pc := 4) (zq_d eX11_comingOf 3 rfl) zc_b6 ?_
  refine zr_iload_n (pc := 6) (zq_d eX11_comingOf 4 rfl) 3 rfl rfl ?_
  refine zr_imul (pc := 7) (zq_d eX11_comingOf 5 rfl) ?_
  refine zr_iadd (pc := 8) (zq_d eX11_comingOf 6 rfl) ?_
  refine zr_aload_n (pc := 9) (zq_d eX11_comingOf 7 rfl) 0 rfl rfl ?_
  refine zr_iload_n (pc := 10) (zq_d eX11_comingOf 8 rfl) 1 rfl rfl ?_
  refine zr_iload_n (pc := 11) (zq_d eX11_comingOf 9 rfl) 3 rfl rfl ?_
  refine zr_Vi (pc := 12) [_, _] (zq_d eX11_comingOf 10 rfl) (s_X11_manyIn G N z X _ _) zd_X11_manyIn zl_RX11_243 om_69 rfl rfl rfl rfl (Nat.le_of_ble_eq_true rfl) (Nat.le_of_ble_eq_true rfl) (Nat.le_of_ble_eq_true rfl) ⟨Nat.le_refl _, Nat.le_refl _⟩ (fun v1 => ?_)
  refine zr_iadd (pc := 15) (zq_d eX11_comingOf 11 rfl) ?_
  refine zr_iconst (pc := 16) (zq_d eX11_comingOf 12 rfl) zc_i1 ?_
  refine zr_iadd (pc := 17) (zq_d eX11_comingOf 13 rfl) ?_
  exact zr_ireturn (pc := 18) (zq_d eX11_comingOf 14 rfl) rfl rfl (Nat.zero_le _) (Nat.zero_le _)
def f_X11_mayCome (N : Nat) (X : zq_M) (a1 : Int32) (a2 : Int32) (a3 : Int32) : Option Int32 :=
  (f_X11_placeOf N X a1 a2).bind (fun v1 => if v1 = a3 then (some (0 : Int32)) else ((f_X11_comingOf N X a1 a2 a3).bind (fun v2 => zq_ck v2 120 (if ¬ (X.1 86 (zq_ix v2)) = 0 then (some (0 : Int32)) else (some (1 : Int32))))))
set_option maxRecDepth 20000 in
set_option maxHeartbeats 8000000 in
theorem s_X11_mayCome (G : zq_G) (N z : Nat) (X : zq_M) (a1 : Int32) (a2 : Int32) (a3 : Int32) : zq_V G YX11_mayCome (4, 0, 0) (zq_ei zq_shM z X) 0 0 0 (lv_args 0 [.ref (zq_ad G 69), .int a1, .int a2, .int a3]) [] zq_shM z X (f_X11_mayCome N X a1 a2 a3) := by
  unfold f_X11_mayCome
  refine zr_lo (l2 := [(0, .ref (zq_ad G 69)), (1, .int a1), (2, .int a2), (3, .int a3)]) [0, 1, 2, 3] rfl ?_
  refine zr_aload_n (pc := 0) (zq_d eX11_mayCome 0 rfl) 0 rfl rfl ?_
  refine zr_iload_n (pc := 1) (zq_d eX11_mayCome 1 rfl) 1 rfl rfl ?_
  refine zr_iload_n (pc := 2) (zq_d eX11_mayCome 2 rfl) 2 rfl rfl ?_
  refine zr_Vi (pc := 3) [_, _] (zq_d eX11_mayCome 3 rfl) (s_X11_placeOf G N z X _ _) zd_X11_placeOf zl_RX11_221 om_69 rfl rfl rfl rfl (Nat.le_of_ble_eq_true rfl) (Nat.le_of_ble_eq_true rfl) (Nat.le_of_ble_eq_true rfl) ⟨Nat.le_refl _, Nat.le_refl _⟩ (fun v1 => ?_)
  refine zr_iload_n (pc := 6) (zq_d eX11_mayCome 4 rfl) 3 rfl rfl ?_
  refine zr_icmp_eq (pc := 7) 29 (zq_d eX11_mayCome 5 rfl) (by decide) (fun _ => ?_) (fun _ => ?_)
  · refine zr_iconst (pc := 29) (zq_d eX11_mayCome 17 rfl) zc_i0 ?_
    exact zr_zreturn (pc := 30) (zq_d eX11_mayCome 18 rfl) rfl rfl rfl (Nat.zero_le _) (Nat.zero_le _)
  · refine zr_aload_n (pc := 10) (zq_d eX11_mayCome 6 rfl) 0 rfl rfl ?_
    refine zr_getC (pc := 11) (zq_d eX11_mayCome 7 rfl) zf_RX11_99 km_69_29 ?_
    refine zr_aload_n (pc := 14) (zq_d eX11_mayCome 8 rfl) 0 rfl rfl ?_
    refine zr_iload_n (pc := 15) (zq_d eX11_mayCome 9 rfl) 1 rfl rfl ?_
    refine zr_iload_n (pc := 16) (zq_d eX11_mayCome 10 rfl) 2 rfl rfl ?_
    refine zr_iload_n (pc := 17) (zq_d eX11_mayCome 11 rfl) 3 rfl rfl ?_
    refine zr_Vi (pc := 18) [_, _, _] (zq_d eX11_mayCome 12 rfl) (s_X11_comingOf G N z X _ _ _) zd_X11_comingOf zl_RX11_328 om_69 rfl rfl rfl rfl (Nat.le_of_ble_eq_true rfl) (Nat.le_of_ble_eq_true rfl) (Nat.le_of_ble_eq_true rfl) ⟨Nat.le_refl _, Nat.le_refl _⟩ (fun v2 => ?_)
    refine zr_zald (pc := 21) (zq_d eX11_mayCome 13 rfl) am_86 ?_
    refine zr_if_ne (pc := 22) 29 (zq_d eX11_mayCome 14 rfl) (by decide) (fun _ => ?_) (fun _ => ?_)
    · refine zr_iconst (pc := 29) (zq_d eX11_mayCome 17 rfl) zc_i0 ?_
      exact zr_zreturn (pc := 30) (zq_d eX11_mayCome 18 rfl) rfl rfl rfl (Nat.zero_le _) (Nat.zero_le _)
    · refine zr_iconst (pc := 25) (zq_d eX11_mayCome 15 rfl) zc_i1 ?_
      refine zr_goto (pc := 26) 30 (zq_d eX11_mayCome 16 rfl) (by decide) ?_
      exact zr_zreturn (pc := 30) (zq_d eX11_mayCome 18 rfl) rfl rfl rfl (Nat.zero_le _) (Nat.zero_le _)
def f_X11_coming (N : Nat) (X : zq_M) (a1 : Int32) (a2 : Int32) (a3 : Int32) : Option (Int32 × zq_M) :=
  (f_X11_isPerson N X a1).bind (fun v1 => if v1 = 0 then (some ((-1 : Int32), X)) else ((f_X11_isPlace N X a2).bind (fun v2 => if v2 = 0 then (some ((-1 : Int32), X)) else ((f_X11_within N X a3 (0 : Int32) (1 : Int32)).bind (fun v3 => if ¬ v3 = 0 then ((f_X11_placeOf N X (X.1 69 1) a1).bind (fun v4 => if ¬ v4 = a2 then ((f_X11_manyIn N X (X.1 69 1) a2).bind (fun v5 => if ¬ a3 = 0 then ((f_X11_isBarred N X a1 a2 (v5 + (1 : Int32))).bind (zq_p (fun v6 X7 => if v6 = 0 then (some ((0 : Int32), X7)) else (some ((1 : Int32), X7))))) else ((f_X11_sumOf N X (0 : Int32) a1 a2 (v5 + (1 : Int32)) (99 : Int32)).bind (zq_p (fun v8 X9 => some (((1 : Int32) + v8), X9)))))) else (some ((-2 : Int32), X)))) else (some ((-1 : Int32), X)))))))
set_option maxRecDepth 20000 in
set_option maxHeartbeats 8000000 in
theorem s_X11_coming (G : zq_G) (N z : Nat) (X : zq_M) (a1 : Int32) (a2 : Int32) (a3 : Int32) : zq_V G YX11_coming (4, 0, 0) (zq_si zq_shM z) 0 0 0 (lv_args 0 [.ref (zq_ad G 69), .int a1, .int a2, .int a3]) [] zq_shM z X (f_X11_coming N X a1 a2 a3) := by
  unfold f_X11_coming
  refine zr_lo (l2 := [(0, .ref (zq_ad G 69)), (1, .int a1), (2, .int a2), (3, .int a3)]) [0, 1, 2, 3] rfl ?_
  refine zr_aload_n (pc := 0) (zq_d eX11_coming 0 rfl) 0 rfl rfl ?_
  refine zr_iload_n (pc := 1) (zq_d eX11_coming 1 rfl) 1 rfl rfl ?_
  refine zr_Vi (pc := 2) [_] (zq_d eX11_coming 2 rfl) (s_X11_isPerson G N z X _) zd_X11_isPerson zl_RX11_249 om_69 rfl rfl rfl rfl (Nat.le_of_ble_eq_true rfl) (Nat.le_of_ble_eq_true rfl) (Nat.le_of_ble_eq_true rfl) ⟨Nat.le_refl _, Nat.le_refl _⟩ (fun v1 => ?_)
  refine zr_if_eq (pc := 5) 26 (zq_d eX11_coming 3 rfl) (by decide) (fun _ => ?_) (fun _ => ?_)
  · refine zr_iconst (pc := 26) (zq_d eX11_coming 14 rfl) zc_im1 ?_
    exact zr_ireturn (pc := 27) (zq_d eX11_coming 15 rfl) rfl rfl (Nat.zero_le _) (Nat.zero_le _)
  · refine zr_aload_n (pc := 8) (zq_d eX11_coming 4 rfl) 0 rfl rfl ?_
    refine zr_iload_n (pc := 9) (zq_d eX11_coming 5 rfl) 2 rfl rfl ?_
    refine zr_Vi (pc := 10) [_] (zq_d eX11_coming 6 rfl) (s_X11_isPlace G N z X _) zd_X11_isPlace zl_RX11_225 om_69 rfl rfl rfl rfl (Nat.le_of_ble_eq_true rfl) (Nat.le_of_ble_eq_true rfl) (Nat.le_of_ble_eq_true rfl) ⟨Nat.le_refl _, Nat.le_refl _⟩ (fun v2 => ?_)
    refine zr_if_eq (pc := 13) 26 (zq_d eX11_coming 7 rfl) (by decide) (fun _ => ?_) (fun _ => ?_)
    · refine zr_iconst (pc := 26) (zq_d eX11_coming 14 rfl) zc_im1 ?_
      exact zr_ireturn (pc := 27) (zq_d eX11_coming 15 rfl) rfl rfl (Nat.zero_le _) (Nat.zero_le _)
    · refine zr_aload_n (pc := 16) (zq_d eX11_coming 8 rfl) 0 rfl rfl ?_
      refine zr_iload_n (pc := 17) (zq_d eX11_coming 9 rfl) 3 rfl rfl ?_
      refine zr_iconst (pc := 18) (zq_d eX11_coming 10 rfl) zc_i0 ?_
      refine zr_iconst (pc := 19) (zq_d eX11_coming 11 rfl) zc_i1 ?_
      refine zr_Vi (pc := 20) [_, _, _] (zq_d eX11_coming 12 rfl) (s_X11_within G N z X _ _ _) zd_X11_within zl_RX11_217 om_69 rfl rfl rfl rfl (Nat.le_of_ble_eq_true rfl) (Nat.le_of_ble_eq_true rfl) (Nat.le_of_ble_eq_true rfl) ⟨Nat.le_refl _, Nat.le_refl _⟩ (fun v3 => ?_)
      refine zr_if_ne (pc := 23) 28 (zq_d eX11_coming 13 rfl) (by decide) (fun _ => ?_) (fun _ => ?_)
      · refine zr_aload_n (pc := 28) (zq_d eX11_coming 16 rfl) 0 rfl rfl ?_
        refine zr_aload_n (pc := 29) (zq_d eX11_coming 17 rfl) 0 rfl rfl ?_
        refine zr_getI (pc := 30) (zq_d eX11_coming 18 rfl) zf_RX11_13 km_69_1 ?_
        refine zr_iload_n (pc := 33) (zq_d eX11_coming 19 rfl) 1 rfl rfl ?_
        refine zr_Vi (pc := 34) [_, _] (zq_d eX11_coming 20 rfl) (s_X11_placeOf G N z X _ _) zd_X11_placeOf zl_RX11_221 om_69 rfl rfl rfl rfl (Nat.le_of_ble_eq_true rfl) (Nat.le_of_ble_eq_true rfl) (Nat.le_of_ble_eq_true rfl) ⟨Nat.le_refl _, Nat.le_refl _⟩ (fun v4 => ?_)
        refine zr_iload_n (pc := 37) (zq_d eX11_coming 21 rfl) 2 rfl rfl ?_
        refine zr_icmp_ne (pc := 38) 44 (zq_d eX11_coming 22 rfl) (by decide) (fun _ => ?_) (fun _ => ?_)
        · refine zr_aload_n (pc := 44) (zq_d eX11_coming 25 rfl) 0 rfl rfl ?_
          refine zr_aload_n (pc := 45) (zq_d eX11_coming 26 rfl) 0 rfl rfl ?_
          refine zr_getI (pc := 46) (zq_d eX11_coming 27 rfl) zf_RX11_13 km_69_1 ?_
          refine zr_iload_n (pc := 49) (zq_d eX11_coming 28 rfl) 2 rfl rfl ?_
          refine zr_Vi (pc := 50) [_, _] (zq_d eX11_coming 29 rfl) (s_X11_manyIn G N z X _ _) zd_X11_manyIn zl_RX11_243 om_69 rfl rfl rfl rfl (Nat.le_of_ble_eq_true rfl) (Nat.le_of_ble_eq_true rfl) (Nat.le_of_ble_eq_true rfl) ⟨Nat.le_refl _, Nat.le_refl _⟩ (fun v5 => ?_)
          refine zr_iconst (pc := 53) (zq_d eX11_coming 30 rfl) zc_i1 ?_
          refine zr_iadd (pc := 54) (zq_d eX11_coming 31 rfl) ?_
          refine zr_istore (pc := 55) (lo2 := [(4, .int (v5 + (1 : Int32))), (0, .ref (zq_ad G 69)), (1, .int a1), (2, .int a2), (3, .int a3)]) (zq_d eX11_coming 32 rfl) (Nat.le_of_ble_eq_true rfl) rfl ?_
          refine zr_iload_n (pc := 57) (zq_d eX11_coming 33 rfl) 4 rfl rfl ?_
          refine zr_if_ne (pc := 58) 77 (zq_d eX11_coming 34 rfl) (by decide) (fun _ => ?_) (fun _ => ?_)
          · refine zr_aload_n (pc := 77) (zq_d eX11_coming 45 rfl) 1 rfl rfl ?_
            refine zr_iload_n (pc := 78) (zq_d eX11_coming 46 rfl) 2 rfl rfl ?_
            refine zr_iload_n (pc := 79) (zq_d eX11_coming 47 rfl) 3 rfl rfl ?_
            refine zr_iload (pc := 80) (zq_d eX11_coming 48 rfl) 0 rfl ?_
            refine zr_Wsi (pc := 82) [_, _, _] (zq_d eX11_coming 49 rfl) (s_X11_isBarred G N z X _ _ _) zd_X11_isBarred zl_RX11_325 om_69 rfl rfl rfl rfl (Nat.le_of_ble_eq_true rfl) (Nat.le_of_ble_eq_true rfl) (Nat.le_of_ble_eq_true rfl) ⟨Nat.le_refl _, Nat.le_refl _⟩ (fun v6 X7 => ?_)
            refine zr_if_eq (pc := 85) 92 (zq_d eX11_coming 50 rfl) (by decide) (fun _ => ?_) (fun _ => ?_)
            · refine zr_iconst (pc := 92) (zq_d eX11_coming 53 rfl) zc_i0 ?_
              exact zr_ireturn (pc := 93) (zq_d eX11_coming 54 rfl) rfl rfl (Nat.zero_le _) (Nat.zero_le _)
            · refine zr_iconst (pc := 88) (zq_d eX11_coming 51 rfl) zc_i1 ?_
              refine zr_goto (pc := 89) 93 (zq_d eX11_coming 52 rfl) (by decide) ?_
              exact zr_ireturn (pc := 93) (zq_d eX11_coming 54 rfl) rfl rfl (Nat.zero_le _) (Nat.zero_le _)
          · refine zr_iconst (pc := 61) (zq_d eX11_coming 35 rfl) zc_i1 ?_
            refine zr_aload_n (pc := 62) (zq_d eX11_coming 36 rfl) 1 rfl rfl ?_
            refine zr_iconst (pc := 63) (zq_d eX11_coming 37 rfl) zc_i0 ?_
            refine zr_iload_n (pc := 64) (zq_d eX11_coming 38 rfl) 2 rfl rfl ?_
            refine zr_iload_n (pc := 65) (zq_d eX11_coming 39 rfl) 3 rfl rfl ?_
            refine zr_iload (pc := 66) (zq_d eX11_coming 40 rfl) 0 rfl ?_
            refine zr_bipush (pc := 68) (zq_d eX11_coming 41 rfl) zc_b99 ?_
            refine zr_Wsi (pc := 70) [_, _, _, _, _] (zq_d eX11_coming 42 rfl) (s_X11_sumOf G N z X _ _ _ _ _) zd_X11_sumOf zl_RX11_322 om_69 rfl rfl rfl rfl (Nat.le_of_ble_eq_true rfl) (Nat.le_of_ble_eq_true rfl) (Nat.le_of_ble_eq_true rfl) ⟨Nat.le_refl _, Nat.le_refl _⟩ (fun v8 X9 => ?_)
            refine zr_iadd (pc := 73) (zq_d eX11_coming 43 rfl) ?_
            refine zr_goto (pc := 74) 93 (zq_d eX11_coming 44 rfl) (by decide) ?_
            exact zr_ireturn (pc := 93) (zq_d eX11_coming 54 rfl) rfl rfl (Nat.zero_le _) (Nat.zero_le _)
        · refine zr_bipush (pc := 41) (zq_d eX11_coming 23 rfl) zc_bm2 ?_
          exact zr_ireturn (pc := 43) (zq_d eX11_coming 24 rfl) rfl rfl (Nat.zero_le _) (Nat.zero_le _)
      · refine zr_iconst (pc := 26) (zq_d eX11_coming 14 rfl) zc_im1 ?_
        exact zr_ireturn (pc := 27) (zq_d eX11_coming 15 rfl) rfl rfl (Nat.zero_le _) (Nat.zero_le _)
def j_X11_come_110 (N : Nat) (a1 : Int32) (a2 : Int32) (v7 : Int32) (X8 : zq_M) (v9 : Int32) : Option (Int32 × zq_M) :=
  zq_b (zq_u1 X8 69 3 v9) (fun X10 => (f_X11_moved N X10 (X10.1 69 1) a1 a2).bind (fun v11 => zq_b (zq_u1 X10 69 1 v11) (fun X12 => zq_b (zq_u1 X12 69 2 ((X12.1 69 2) + (1 : Int32))) (fun X13 => some (((1 : Int32) + v7), X13)))))
def f_X11_come (N : Nat) (X : zq_M) (a1 : Int32) (a2 : Int32) : Option (Int32 × zq_M) :=
  (f_X11_isPerson N X a1).bind (fun v1 => if v1 = 0 then (some ((-1 : Int32), X)) else ((f_X11_isPlace N X a2).bind (fun v2 => if ¬ v2 = 0 then ((f_X11_placeOf N X (X.1 69 1) a1).bind (fun v3 => if ¬ v3 = a2 then ((f_X11_manyIn N X (X.1 69 1) a2).bind (fun v4 => if (X.1 69 2) = (9999 : Int32) then (some ((-3 : Int32), X)) else ((f_X11_isBarred N X a1 a2 (v4 + (1 : Int32))).bind (zq_p (fun v5 X6 => if v5 = 0 then ((f_X11_sumOf N X6 (0 : Int32) a1 a2 (v4 + (1 : Int32)) (99 : Int32)).bind (zq_p (fun v7 X8 => if ((X8.1 69 3) + ((1 : Int32) + v7)) ≤ (9999 : Int32) then (j_X11_come_110 N a1 a2 v7 X8 ((X8.1 69 3) + ((1 : Int32) + v7))) else (j_X11_come_110 N a1 a2 v7 X8 (9999 : Int32))))) else (some ((-3 : Int32), X6))))))) else (some ((-2 : Int32), X)))) else (some ((-1 : Int32), X)))))
set_option maxRecDepth 20000 in
set_option maxHeartbeats 8000000 in
theorem s_X11_come (G : zq_G) (N z : Nat) (X : zq_M) (a1 : Int32) (a2 : Int32) : zq_V G YX11_come (4, 0, 0) (zq_si zq_shM z) 0 0 0 (lv_args 0 [.ref (zq_ad G 69), .int a1, .int a2]) [] zq_shM z X (f_X11_come N X a1 a2) := by
  unfold f_X11_come
  refine zr_lo (l2 := [(0, .ref (zq_ad G 69)), (1, .int a1), (2, .int a2)]) [0, 1, 2] rfl ?_
  refine zr_aload_n (pc := 0) (zq_d eX11_come 0 rfl) 0 rfl rfl ?_
  refine zr_iload_n (pc := 1) (zq_d eX11_come 1 rfl) 1 rfl rfl ?_
  refine zr_Vi (pc := 2) [_] (zq_d eX11_come 2 rfl) (s_X11_isPerson G N z X _) zd_X11_isPerson zl_RX11_249 om_69 rfl rfl rfl rfl (Nat.le_of_ble_eq_true rfl) (Nat.le_of_ble_eq_true rfl) (Nat.le_of_ble_eq_true rfl) ⟨Nat.le_refl _, Nat.le_refl _⟩ (fun v1 => ?_)
  refine zr_if_eq (pc := 5) 16 (zq_d eX11_come 3 rfl) (by decide) (fun _ => ?_) (fun _ => ?_)
  · refine zr_iconst (pc := 16) (zq_d eX11_come 8 rfl) zc_im1 ?_
    exact zr_ireturn (pc := 17) (zq_d eX11_come 9 rfl) rfl rfl (Nat.zero_le _) (Nat.zero_le _)
  · refine zr_aload_n (pc := 8) (zq_d eX11_come 4 rfl) 0 rfl rfl ?_
    refine zr_iload_n (pc := 9) (zq_d eX11_come 5 rfl) 2 rfl rfl ?_
    refine zr_Vi (pc := 10) [_] (zq_d eX11_come 6 rfl) (s_X11_isPlace G N z X _) zd_X11_isPlace zl_RX11_225 om_69 rfl rfl rfl rfl (Nat.le_of_ble_eq_true rfl) (Nat.le_of_ble_eq_true rfl) (Nat.le_of_ble_eq_true rfl) ⟨Nat.le_refl _, Nat.le_refl _⟩ (fun v2 => ?_)
    refine zr_if_ne (pc := 13) 18 (zq_d eX11_come 7 rfl) (by decide) (fun _ => ?_) (fun _ => ?_)
    · refine zr_aload_n (pc := 18) (zq_d eX11_come 10 rfl) 0 rfl rfl ?_
      refine zr_aload_n (pc := 19) (zq_d eX11_come 11 rfl) 0 rfl rfl ?_
      refine zr_getI (pc := 20) (zq_d eX11_come 12 rfl) zf_RX11_13 km_69_1 ?_
      refine zr_iload_n (pc := 23) (zq_d eX11_come 13 rfl) 1 rfl rfl ?_
      refine zr_Vi (pc := 24) [_, _] (zq_d eX11_come 14 rfl) (s_X11_placeOf G N z X _ _) zd_X11_placeOf zl_RX11_221 om_69 rfl rfl rfl rfl (Nat.le_of_ble_eq_true rfl) (Nat.le_of_ble_eq_true rfl) (Nat.le_of_ble_eq_true rfl) ⟨Nat.le_refl _, Nat.le_refl _⟩ (fun v3 => ?_)
      refine zr_iload_n (pc := 27) (zq_d eX11_come 15 rfl) 2 rfl rfl ?_
      refine zr_icmp_ne (pc := 28) 34 (zq_d eX11_come 16 rfl) (by decide) (fun _ => ?_) (fun _ => ?_)
      · refine zr_aload_n (pc := 34) (zq_d eX11_come 19 rfl) 0 rfl rfl ?_
        refine zr_aload_n (pc := 35) (zq_d eX11_come 20 rfl) 0 rfl rfl ?_
        refine zr_getI (pc := 36) (zq_d eX11_come 21 rfl) zf_RX11_13 km_69_1 ?_
        refine zr_iload_n (pc := 39) (zq_d eX11_come 22 rfl) 2 rfl rfl ?_
        refine zr_Vi (pc := 40) [_, _] (zq_d eX11_come 23 rfl) (s_X11_manyIn G N z X _ _) zd_X11_manyIn zl_RX11_243 om_69 rfl rfl rfl rfl (Nat.le_of_ble_eq_true rfl) (Nat.le_of_ble_eq_true rfl) (Nat.le_of_ble_eq_true rfl) ⟨Nat.le_refl _, Nat.le_refl _⟩ (fun v4 => ?_)
        refine zr_iconst (pc := 43) (zq_d eX11_come 24 rfl) zc_i1 ?_
        refine zr_iadd (pc := 44) (zq_d eX11_come 25 rfl) ?_
        refine zr_istore_n (pc := 45) (lo2 := [(3, .int (v4 + (1 : Int32))), (0, .ref (zq_ad G 69)), (1, .int a1), (2, .int a2)]) (zq_d eX11_come 26 rfl) rfl (Nat.le_of_ble_eq_true rfl) rfl ?_
        refine zr_aload_n (pc := 46) (zq_d eX11_come 27 rfl) 1 rfl rfl ?_
        refine zr_getI (pc := 47) (zq_d eX11_come 28 rfl) zf_RX11_16 km_69_2 ?_
        refine zr_sipush (pc := 50) (zq_d eX11_come 29 rfl) zc_s9999 ?_
        refine zr_icmp_eq (pc := 53) 66 (zq_d eX11_come 30 rfl) (by decide) (fun _ => ?_) (fun _ => ?_)
        · refine zr_bipush (pc := 66) (zq_d eX11_come 37 rfl) zc_bm3 ?_
          exact zr_ireturn (pc := 68) (zq_d eX11_come 38 rfl) rfl rfl (Nat.zero_le _) (Nat.zero_le _)
        · refine zr_aload_n (pc := 56) (zq_d eX11_come 31 rfl) 1 rfl rfl ?_
          refine zr_iload_n (pc := 57) (zq_d eX11_come 32 rfl) 2 rfl rfl ?_
          refine zr_iload_n (pc := 58) (zq_d eX11_come 33 rfl) 3 rfl rfl ?_
          refine zr_iload_n (pc := 59) (zq_d eX11_come 34 rfl) 0 rfl rfl ?_
          refine zr_Wsi (pc := 60) [_, _, _] (zq_d eX11_come 35 rfl) (s_X11_isBarred G N z X _ _ _) zd_X11_isBarred zl_RX11_325 om_69 rfl rfl rfl rfl (Nat.le_of_ble_eq_true rfl) (Nat.le_of_ble_eq_true rfl) (Nat.le_of_ble_eq_true rfl) ⟨Nat.le_refl _, Nat.le_refl _⟩ (fun v5 X6 => ?_)
          refine zr_if_eq (pc := 63) 69 (zq_d eX11_come 36 rfl) (by decide) (fun _ => ?_) (fun _ => ?_)
          · refine zr_iconst (pc := 69) (zq_d eX11_come 39 rfl) zc_i1 ?_
            refine zr_aload_n (pc := 70) (zq_d eX11_come 40 rfl) 1 rfl rfl ?_
            refine zr_iconst (pc := 71) (zq_d eX11_come 41 rfl) zc_i0 ?_
            refine zr_iload_n (pc := 72) (zq_d eX11_come 42 rfl) 2 rfl rfl ?_
            refine zr_iload_n (pc := 73) (zq_d eX11_come 43 rfl) 3 rfl rfl ?_
            refine zr_iload_n (pc := 74) (zq_d eX11_come 44 rfl) 0 rfl rfl ?_
            refine zr_bipush (pc := 75) (zq_d eX11_come 45 rfl) zc_b99 ?_
            refine zr_Wsi (pc := 77) [_, _, _, _, _] (zq_d eX11_come 46 rfl) (s_X11_sumOf G N z X6 _ _ _ _ _) zd_X11_sumOf zl_RX11_322 om_69 rfl rfl rfl rfl (Nat.le_of_ble_eq_true rfl) (Nat.le_of_ble_eq_true rfl) (Nat.le_of_ble_eq_true rfl) ⟨Nat.le_refl _, Nat.le_refl _⟩ (fun v7 X8 => ?_)
            refine zr_iadd (pc := 80) (zq_d eX11_come 47 rfl) ?_
            refine zr_istore (pc := 81) (lo2 := [(4, .int ((1 : Int32) + v7)), (3, .int (v4 + (1 : Int32))), (0, .ref (zq_ad G 69)), (1, .int a1), (2, .int a2)]) (zq_d eX11_come 48 rfl) (Nat.le_of_ble_eq_true rfl) rfl ?_
            refine zr_aload_n (pc := 83) (zq_d eX11_come 49 rfl) 2 rfl rfl ?_
            refine zr_aload_n (pc := 84) (zq_d eX11_come 50 rfl) 2 rfl rfl ?_
            refine zr_getI (pc := 85) (zq_d eX11_come 51 rfl) zf_RX11_19 km_69_3 ?_
            refine zr_iload (pc := 88) (zq_d eX11_come 52 rfl) 0 rfl ?_
            refine zr_iadd (pc := 90) (zq_d eX11_come 53 rfl) ?_
            refine zr_sipush (pc := 91) (zq_d eX11_come 54 rfl) zc_s9999 ?_
            have hj110_1 : ∀ (v9 : Int32), zq_V G YX11_come (4, 0, 0) (zq_si zq_shM z) 0 0 110 [(0, .ref (zq_ad G 69)), (1, .int a1), (2, .int a2), (4, .int ((1 : Int32) + v7))] [.int v9, .ref (zq_ad G 69)] zq_shM z X8 (j_X11_come_110 N a1 a2 v7 X8 v9) := by
              intro v9
              unfold j_X11_come_110
              refine zr_putI (pc := 110) (zq_d eX11_come 62 rfl) zf_RX11_19 km_69_3 zn_11_3 (fun X10 => ?_)
              refine zr_aload_n (pc := 113) (zq_d eX11_come 63 rfl) 0 rfl rfl ?_
              refine zr_aload_n (pc := 114) (zq_d eX11_come 64 rfl) 0 rfl rfl ?_
              refine zr_aload_n (pc := 115) (zq_d eX11_come 65 rfl) 0 rfl rfl ?_
              refine zr_getI (pc := 116) (zq_d eX11_come 66 rfl) zf_RX11_13 km_69_1 ?_
              refine zr_iload_n (pc := 119) (zq_d eX11_come 67 rfl) 1 rfl rfl ?_
              refine zr_iload_n (pc := 120) (zq_d eX11_come 68 rfl) 2 rfl rfl ?_
              refine zr_Vi (pc := 121) [_, _, _] (zq_d eX11_come 69 rfl) (s_X11_moved G N z X10 _ _ _) zd_X11_moved zl_RX11_229 om_69 rfl rfl rfl rfl (Nat.le_of_ble_eq_true rfl) (Nat.le_of_ble_eq_true rfl) (Nat.le_of_ble_eq_true rfl) ⟨Nat.le_refl _, Nat.le_refl _⟩ (fun v11 => ?_)
              refine zr_putI (pc := 124) (zq_d eX11_come 70 rfl) zf_RX11_13 km_69_1 zn_11_1 (fun X12 => ?_)
              refine zr_aload_n (pc := 127) (zq_d eX11_come 71 rfl) 0 rfl rfl ?_
              refine zr_dup (pc := 128) (zq_d eX11_come 72 rfl) rfl ?_
              refine zr_getI (pc := 129) (zq_d eX11_come 73 rfl) zf_RX11_16 km_69_2 ?_
              refine zr_iconst (pc := 132) (zq_d eX11_come 74 rfl) zc_i1 ?_
              refine zr_iadd (pc := 133) (zq_d eX11_come 75 rfl) ?_
              refine zr_putI (pc := 134) (zq_d eX11_come 76 rfl) zf_RX11_16 km_69_2 zn_11_2 (fun X13 => ?_)
              refine zr_iload (pc := 137) (zq_d eX11_come 77 rfl) 3 rfl ?_
              exact zr_ireturn (pc := 139) (zq_d eX11_come 78 rfl) rfl rfl (Nat.zero_le _) (Nat.zero_le _)
            refine zr_icmp_le (pc := 94) 103 (zq_d eX11_come 55 rfl) (by decide) (fun _ => ?_) (fun _ => ?_)
            · refine zr_aload_n (pc := 103) (zq_d eX11_come 58 rfl) 2 rfl rfl ?_
              refine zr_getI (pc := 104) (zq_d eX11_come 59 rfl) zf_RX11_19 km_69_3 ?_
              refine zr_iload (pc := 107) (zq_d eX11_come 60 rfl) 0 rfl ?_
              refine zr_iadd (pc := 109) (zq_d eX11_come 61 rfl) ?_
              exact zr_lo [2, 3, 4, 0] rfl (hj110_1 ((X8.1 69 3) + ((1 : Int32) + v7)))
            · refine zr_sipush (pc := 97) (zq_d eX11_come 56 rfl) zc_s9999 ?_
              refine zr_goto (pc := 100) 110 (zq_d eX11_come 57 rfl) (by decide) ?_
              exact zr_lo [2, 3, 4, 0] rfl (hj110_1 (9999 : Int32))
          · refine zr_bipush (pc := 66) (zq_d eX11_come 37 rfl) zc_bm3 ?_
            exact zr_ireturn (pc := 68) (zq_d eX11_come 38 rfl) rfl rfl (Nat.zero_le _) (Nat.zero_le _)
      · refine zr_bipush (pc := 31) (zq_d eX11_come 17 rfl) zc_bm2 ?_
        exact zr_ireturn (pc := 33) (zq_d eX11_come 18 rfl) rfl rfl (Nat.zero_le _) (Nat.zero_le _)
    · refine zr_iconst (pc := 16) (zq_d eX11_come 8 rfl) zc_im1 ?_
      exact zr_ireturn (pc := 17) (zq_d eX11_come 9 rfl) rfl rfl (Nat.zero_le _) (Nat.zero_le _)
def b_X11_said_27 (N : Nat) (a2 : Int32) (v1 : Int32) (v2 : Int32) (rc27_1 : Int32 → Int32 → zq_M → Option (Int32 × zq_M)) (v3 : Int32) (v4 : Int32) (X5 : zq_M) : Option (Int32 × zq_M) :=
  if (X5.1 69 0) ≤ v4 then (some (v3, X5)) else ((f_X11_placeOf N X5 (X5.1 69 1) v4).bind (fun v6 => if ¬ v6 = v1 then (rc27_1 v3 (v4 + (1 : Int32)) X5) else (zq_ck v4 5 ((f_X11_has N X5 (X5.1 72 (zq_ix v4)) a2).bind (fun v7 => if v7 = 0 then ((f_X11_sumOf N X5 (2 : Int32) v4 v1 v2 a2).bind (zq_p (fun v8 X9 => zq_ck v4 5 (zq_ck v4 5 (zq_b (zq_u1 X9 72 (zq_ix v4) ((X9.1 72 (zq_ix v4)) ||| (zq_shl (1 : Int32) a2))) (fun X10 => rc27_1 (v3 + v8) (v4 + (1 : Int32)) X10)))))) else (rc27_1 v3 (v4 + (1 : Int32)) X5))))))
def f_X11_said (N : Nat) (X : zq_M) (a1 : Int32) (a2 : Int32) : Option (Int32 × zq_M) :=
  (f_X11_placeOf N X (X.1 69 1) a1).bind (fun v1 => (f_X11_manyIn N X (X.1 69 1) v1).bind (fun v2 => zq_loop (fun _ _ _ => none) (b_X11_said_27 N a2 v1 v2) N (0 : Int32) (0 : Int32) X))
set_option maxRecDepth 20000 in
set_option maxHeartbeats 8000000 in
theorem s_X11_said (G : zq_G) (N z : Nat) (X : zq_M) (a1 : Int32) (a2 : Int32) : zq_V G YX11_said (4, 0, 0) (zq_si zq_shM z) 0 0 0 (lv_args 0 [.ref (zq_ad G 69), .int a1, .int a2]) [] zq_shM z X (f_X11_said N X a1 a2) := by
  unfold f_X11_said
  refine zr_lo (l2 := [(0, .ref (zq_ad G 69)), (1, .int a1), (2, .int a2)]) [0, 1, 2] rfl ?_
  refine zr_aload_n (pc := 0) (zq_d eX11_said 0 rfl) 0 rfl rfl ?_
  refine zr_aload_n (pc := 1) (zq_d eX11_said 1 rfl) 0 rfl rfl ?_
  refine zr_getI (pc := 2) (zq_d eX11_said 2 rfl) zf_RX11_13 km_69_1 ?_
  refine zr_iload_n (pc := 5) (zq_d eX11_said 3 rfl) 1 rfl rfl ?_
  refine zr_Vi (pc := 6) [_, _] (zq_d eX11_said 4 rfl) (s_X11_placeOf G N z X _ _) zd_X11_placeOf zl_RX11_221 om_69 rfl rfl rfl rfl (Nat.le_of_ble_eq_true rfl) (Nat.le_of_ble_eq_true rfl) (Nat.le_of_ble_eq_true rfl) ⟨Nat.le_refl _, Nat.le_refl _⟩ (fun v1 => ?_)
  refine zr_istore_n (pc := 9) (lo2 := [(3, .int v1), (0, .ref (zq_ad G 69)), (1, .int a1), (2, .int a2)]) (zq_d eX11_said 5 rfl) rfl (Nat.le_of_ble_eq_true rfl) rfl ?_
  refine zr_aload_n (pc := 10) (zq_d eX11_said 6 rfl) 1 rfl rfl ?_
  refine zr_aload_n (pc := 11) (zq_d eX11_said 7 rfl) 1 rfl rfl ?_
  refine zr_getI (pc := 12) (zq_d eX11_said 8 rfl) zf_RX11_13 km_69_1 ?_
  refine zr_iload_n (pc := 15) (zq_d eX11_said 9 rfl) 0 rfl rfl ?_
  refine zr_Vi (pc := 16) [_, _] (zq_d eX11_said 10 rfl) (s_X11_manyIn G N z X _ _) zd_X11_manyIn zl_RX11_243 om_69 rfl rfl rfl rfl (Nat.le_of_ble_eq_true rfl) (Nat.le_of_ble_eq_true rfl) (Nat.le_of_ble_eq_true rfl) ⟨Nat.le_refl _, Nat.le_refl _⟩ (fun v2 => ?_)
  refine zr_istore (pc := 19) (lo2 := [(4, .int v2), (3, .int v1), (0, .ref (zq_ad G 69)), (1, .int a1), (2, .int a2)]) (zq_d eX11_said 11 rfl) (Nat.le_of_ble_eq_true rfl) rfl ?_
  refine zr_iconst (pc := 21) (zq_d eX11_said 12 rfl) zc_i0 ?_
  refine zr_istore (pc := 22) (lo2 := [(5, .int (0 : Int32)), (4, .int v2), (3, .int v1), (0, .ref (zq_ad G 69)), (1, .int a1), (2, .int a2)]) (zq_d eX11_said 13 rfl) (Nat.le_of_ble_eq_true rfl) rfl ?_
  refine zr_iconst (pc := 24) (zq_d eX11_said 14 rfl) zc_i0 ?_
  refine zr_istore (pc := 25) (lo2 := [(6, .int (0 : Int32)), (5, .int (0 : Int32)), (4, .int v2), (3, .int v1), (0, .ref (zq_ad G 69)), (1, .int a1), (2, .int a2)]) (zq_d eX11_said 15 rfl) (Nat.le_of_ble_eq_true rfl) rfl ?_
  have hbrc27_1 : ∀ rc27_1 : Int32 → Int32 → zq_M → Option (Int32 × zq_M), (∀ (v3 : Int32) (v4 : Int32) (X5 : zq_M), zq_V G YX11_said (4, 0, 0) (zq_si zq_shM z) 0 0 27 [(0, .ref (zq_ad G 69)), (2, .int a2), (3, .int v1), (4, .int v2), (5, .int v3), (6, .int v4)] [] zq_shM z X5 (rc27_1 v3 v4 X5)) → ∀ (v3 : Int32) (v4 : Int32) (X5 : zq_M), zq_V G YX11_said (4, 0, 0) (zq_si zq_shM z) 0 0 27 [(0, .ref (zq_ad G 69)), (2, .int a2), (3, .int v1), (4, .int v2), (5, .int v3), (6, .int v4)] [] zq_shM z X5 (b_X11_said_27 N a2 v1 v2 rc27_1 v3 v4 X5) := by
    intro rc27_1 hrc27_1 v3 v4 X5
    unfold b_X11_said_27
    refine zr_iload (pc := 27) (zq_d eX11_said 16 rfl) 5 rfl ?_
    refine zr_aload_n (pc := 29) (zq_d eX11_said 17 rfl) 0 rfl rfl ?_
    refine zr_getI (pc := 30) (zq_d eX11_said 18 rfl) zf_RX11_7 km_69_0 ?_
    refine zr_icmp_ge (pc := 33) 103 (zq_d eX11_said 19 rfl) (by decide) (fun _ => ?_) (fun _ => ?_)
    · refine zr_iload (pc := 103) (zq_d eX11_said 58 rfl) 4 rfl ?_
      exact zr_ireturn (pc := 105) (zq_d eX11_said 59 rfl) rfl rfl (Nat.zero_le _) (Nat.zero_le _)
    · refine zr_aload_n (pc := 36) (zq_d eX11_said 20 rfl) 0 rfl rfl ?_
      refine zr_aload_n (pc := 37) (zq_d eX11_said 21 rfl) 0 rfl rfl ?_
      refine zr_getI (pc := 38) (zq_d eX11_said 22 rfl) zf_RX11_13 km_69_1 ?_
      refine zr_iload (pc := 41) (zq_d eX11_said 23 rfl) 5 rfl ?_
      refine zr_Vi (pc := 43) [_, _] (zq_d eX11_said 24 rfl) (s_X11_placeOf G N z X5 _ _) zd_X11_placeOf zl_RX11_221 om_69 rfl rfl rfl rfl (Nat.le_of_ble_eq_true rfl) (Nat.le_of_ble_eq_true rfl) (Nat.le_of_ble_eq_true rfl) ⟨Nat.le_refl _, Nat.le_refl _⟩ (fun v6 => ?_)
      refine zr_iload_n (pc := 46) (zq_d eX11_said 25 rfl) 2 rfl rfl ?_
      refine zr_icmp_ne (pc := 47) 97 (zq_d eX11_said 26 rfl) (by decide) (fun _ => ?_) (fun _ => ?_)
      · refine zr_iinc (pc := 97) (j := 5) (v := (v4 + (1 : Int32))) (lo2 := [(6, .int (v4 + (1 : Int32))), (0, .ref (zq_ad G 69)), (2, .int a2), (3, .int v1), (4, .int v2), (5, .int v3)]) (zq_d eX11_said 56 rfl) rfl (by rw [zc_i1]) (Nat.le_of_ble_eq_true rfl) rfl ?_
        refine zr_goto (pc := 100) 27 (zq_d eX11_said 57 rfl) (by decide) ?_
        exact zr_lo [1, 2, 3, 4, 5, 0] rfl (hrc27_1 v3 (v4 + (1 : Int32)) X5)
      · refine zr_aload_n (pc := 50) (zq_d eX11_said 27 rfl) 0 rfl rfl ?_
        refine zr_aload_n (pc := 51) (zq_d eX11_said 28 rfl) 0 rfl rfl ?_
        refine zr_getC (pc := 52) (zq_d eX11_said 29 rfl) zf_RX11_29 km_69_6 ?_
        refine zr_iload (pc := 55) (zq_d eX11_said 30 rfl) 5 rfl ?_
        refine zr_iald (pc := 57) (zq_d eX11_said 31 rfl) am_72 ?_
        refine zr_iload_n (pc := 58) (zq_d eX11_said 32 rfl) 1 rfl rfl ?_
        refine zr_Vi (pc := 59) [_, _] (zq_d eX11_said 33 rfl) (s_X11_has G N z X5 _ _) zd_X11_has zl_RX11_331 om_69 rfl rfl rfl rfl (Nat.le_of_ble_eq_true rfl) (Nat.le_of_ble_eq_true rfl) (Nat.le_of_ble_eq_true rfl) ⟨Nat.le_refl _, Nat.le_refl _⟩ (fun v7 => ?_)
        refine zr_if_eq (pc := 62) 68 (zq_d eX11_said 34 rfl) (by decide) (fun _ => ?_) (fun _ => ?_)
        · refine zr_iload (pc := 68) (zq_d eX11_said 36 rfl) 4 rfl ?_
          refine zr_aload_n (pc := 70) (zq_d eX11_said 37 rfl) 0 rfl rfl ?_
          refine zr_iconst (pc := 71) (zq_d eX11_said 38 rfl) zc_i2 ?_
          refine zr_iload (pc := 72) (zq_d eX11_said 39 rfl) 5 rfl ?_
          refine zr_iload_n (pc := 74) (zq_d eX11_said 40 rfl) 2 rfl rfl ?_
          refine zr_iload (pc := 75) (zq_d eX11_said 41 rfl) 3 rfl ?_
          refine zr_iload_n (pc := 77) (zq_d eX11_said 42 rfl) 1 rfl rfl ?_
          refine zr_Wsi (pc := 78) [_, _, _, _, _] (zq_d eX11_said 43 rfl) (s_X11_sumOf G N z X5 _ _ _ _ _) zd_X11_sumOf zl_RX11_322 om_69 rfl rfl rfl rfl (Nat.le_of_ble_eq_true rfl) (Nat.le_of_ble_eq_true rfl) (Nat.le_of_ble_eq_true rfl) ⟨Nat.le_refl _, Nat.le_refl _⟩ (fun v8 X9 => ?_)
          refine zr_iadd (pc := 81) (zq_d eX11_said 44 rfl) ?_
          refine zr_istore (pc := 82) (lo2 := [(5, .int (v3 + v8)), (0, .ref (zq_ad G 69)), (2, .int a2), (3, .int v1), (4, .int v2), (6, .int v4)]) (zq_d eX11_said 45 rfl) (Nat.le_of_ble_eq_true rfl) rfl ?_
          refine zr_aload_n (pc := 84) (zq_d eX11_said 46 rfl) 1 rfl rfl ?_
          refine zr_getC (pc := 85) (zq_d eX11_said 47 rfl) zf_RX11_29 km_69_6 ?_
          refine zr_iload (pc := 88) (zq_d eX11_said 48 rfl) 5 rfl ?_
          refine zr_dup2 (pc := 90) (zq_d eX11_said 49 rfl) rfl rfl ?_
          refine zr_iald (pc := 91) (zq_d eX11_said 50 rfl) am_72 ?_
          refine zr_iconst (pc := 92) (zq_d eX11_said 51 rfl) zc_i1 ?_
          refine zr_iload_n (pc := 93) (zq_d eX11_said 52 rfl) 2 rfl rfl ?_
          refine zr_ishl (pc := 94) (zq_d eX11_said 53 rfl) ?_
          refine zr_ior (pc := 95) (zq_d eX11_said 54 rfl) ?_
          refine zr_iast (pc := 96) (zq_d eX11_said 55 rfl) am_72 (fun X10 => ?_)
          refine zr_iinc (pc := 97) (j := 5) (v := (v4 + (1 : Int32))) (lo2 := [(6, .int (v4 + (1 : Int32))), (5, .int (v3 + v8)), (0, .ref (zq_ad G 69)), (2, .int a2), (3, .int v1), (4, .int v2)]) (zq_d eX11_said 56 rfl) rfl (by rw [zc_i1]) (Nat.le_of_ble_eq_true rfl) rfl ?_
          refine zr_goto (pc := 100) 27 (zq_d eX11_said 57 rfl) (by decide) ?_
          exact zr_lo [2, 3, 4, 5, 1, 0] rfl (hrc27_1 (v3 + v8) (v4 + (1 : Int32)) X10)
        · refine zr_goto (pc := 65) 97 (zq_d eX11_said 35 rfl) (by decide) ?_
          refine zr_iinc (pc := 97) (j := 5) (v := (v4 + (1 : Int32))) (lo2 := [(6, .int (v4 + (1 : Int32))), (0, .ref (zq_ad G 69)), (2, .int a2), (3, .int v1), (4, .int v2), (5, .int v3)]) (zq_d eX11_said 56 rfl) rfl (by rw [zc_i1]) (Nat.le_of_ble_eq_true rfl) rfl ?_
          refine zr_goto (pc := 100) 27 (zq_d eX11_said 57 rfl) (by decide) ?_
          exact zr_lo [1, 2, 3, 4, 5, 0] rfl (hrc27_1 v3 (v4 + (1 : Int32)) X5)
  have hlrc27_1 := zr_loop (P := fun (rc27_1 : Int32 → Int32 → zq_M → Option (Int32 × zq_M)) => ∀ (v3 : Int32) (v4 : Int32) (X5 : zq_M), zq_V G YX11_said (4, 0, 0) (zq_si zq_shM z) 0 0 27 [(0, .ref (zq_ad G 69)), (2, .int a2), (3, .int v1), (4, .int v2), (5, .int v3), (6, .int v4)] [] zq_shM z X5 (rc27_1 v3 v4 X5)) (fun _ _ _ => none) (b_X11_said_27 N a2 v1 v2) (fun _ _ _ => zr_none) hbrc27_1 N
  exact zr_lo [4, 6, 3, 2, 1, 0] rfl (hlrc27_1 (0 : Int32) (0 : Int32) X)
def f_X11_say (N : Nat) (X : zq_M) (a1 : Int32) (a2 : Int32) : Option (Int32 × zq_M) :=
  (f_X11_isPerson N X a1).bind (fun v1 => if v1 = 0 then (some ((-10001 : Int32), X)) else ((f_X11_isThing N X a2).bind (fun v2 => if ¬ v2 = 0 then ((f_X11_sameNow N X).bind (fun v3 => zq_b (zq_u1 X 69 9 v3) (fun X4 => zq_ck a1 5 ((f_X11_has N X4 (X4.1 72 (zq_ix a1)) a2).bind (fun v5 => if v5 = 0 then (some ((-10003 : Int32), X4)) else ((f_X11_maySpeak N X4 (X4.1 69 1) a1 (X4.1 69 2)).bind (fun v6 => if ¬ v6 = 0 then ((f_X11_said N X4 a1 a2).bind (zq_p (fun v7 X8 => some (v7, X8)))) else (some ((-10003 : Int32), X4))))))))) else (some ((-10001 : Int32), X)))))
set_option maxRecDepth 20000 in
set_option maxHeartbeats 8000000 in
theorem s_X11_say (G : zq_G) (N z : Nat) (X : zq_M) (a1 : Int32) (a2 : Int32) : zq_V G YX11_say (5, 0, 0) (zq_si zq_shM z) 0 0 0 (lv_args 0 [.ref (zq_ad G 69), .int a1, .int a2]) [] zq_shM z X (f_X11_say N X a1 a2) := by
  unfold f_X11_say
  refine zr_lo (l2 := [(0, .ref (zq_ad G 69)), (1, .int a1), (2, .int a2)]) [0, 1, 2] rfl ?_
  refine zr_aload_n (pc := 0) (zq_d eX11_say 0 rfl) 0 rfl rfl ?_
  refine zr_iload_n (pc := 1) (zq_d eX11_say 1 rfl) 1 rfl rfl ?_
  refine zr_Vi (pc := 2) [_] (zq_d eX11_say 2 rfl) (s_X11_isPerson G N z X _) zd_X11_isPerson zl_RX11_249 om_69 rfl rfl rfl rfl (Nat.le_of_ble_eq_true rfl) (Nat.le_of_ble_eq_true rfl) (Nat.le_of_ble_eq_true rfl) ⟨Nat.le_refl _, Nat.le_refl _⟩ (fun v1 => ?_)
  refine zr_if_eq (pc := 5) 16 (zq_d eX11_say 3 rfl) (by decide) (fun _ => ?_) (fun _ => ?_)
  · refine zr_sipush (pc := 16) (zq_d eX11_say 8 rfl) zc_sm10001 ?_
    exact zr_ireturn (pc := 19) (zq_d eX11_say 9 rfl) rfl rfl (Nat.zero_le _) (Nat.zero_le _)
  · refine zr_aload_n (pc := 8) (zq_d eX11_say 4 rfl) 0 rfl rfl ?_
    refine zr_iload_n (pc := 9) (zq_d eX11_say 5 rfl) 2 rfl rfl ?_
    refine zr_Vi (pc := 10) [_] (zq_d eX11_say 6 rfl) (s_X11_isThing G N z X _) zd_X11_isThing zl_RX11_334 om_69 rfl rfl rfl rfl (Nat.le_of_ble_eq_true rfl) (Nat.le_of_ble_eq_true rfl) (Nat.le_of_ble_eq_true rfl) ⟨Nat.le_refl _, Nat.le_refl _⟩ (fun v2 => ?_)
    refine zr_if_ne (pc := 13) 20 (zq_d eX11_say 7 rfl) (by decide) (fun _ => ?_) (fun _ => ?_)
    · refine zr_aload_n (pc := 20) (zq_d eX11_say 10 rfl) 0 rfl rfl ?_
      refine zr_aload_n (pc := 21) (zq_d eX11_say 11 rfl) 0 rfl rfl ?_
      refine zr_Vi (pc := 22) [] (zq_d eX11_say 12 rfl) (s_X11_sameNow G N z X ) zd_X11_sameNow zl_RX11_252 om_69 rfl rfl rfl rfl (Nat.le_of_ble_eq_true rfl) (Nat.le_of_ble_eq_true rfl) (Nat.le_of_ble_eq_true rfl) ⟨Nat.le_refl _, Nat.le_refl _⟩ (fun v3 => ?_)
      refine zr_putI (pc := 25) (zq_d eX11_say 13 rfl) zf_RX11_38 km_69_9 zn_11_9 (fun X4 => ?_)
      refine zr_aload_n (pc := 28) (zq_d eX11_say 14 rfl) 0 rfl rfl ?_
      refine zr_aload_n (pc := 29) (zq_d eX11_say 15 rfl) 0 rfl rfl ?_
      refine zr_getC (pc := 30) (zq_d eX11_say 16 rfl) zf_RX11_29 km_69_6 ?_
      refine zr_iload_n (pc := 33) (zq_d eX11_say 17 rfl) 1 rfl rfl ?_
      refine zr_iald (pc := 34) (zq_d eX11_say 18 rfl) am_72 ?_
      refine zr_iload_n (pc := 35) (zq_d eX11_say 19 rfl) 2 rfl rfl ?_
      refine zr_Vi (pc := 36) [_, _] (zq_d eX11_say 20 rfl) (s_X11_has G N z X4 _ _) zd_X11_has zl_RX11_331 om_69 rfl rfl rfl rfl (Nat.le_of_ble_eq_true rfl) (Nat.le_of_ble_eq_true rfl) (Nat.le_of_ble_eq_true rfl) ⟨Nat.le_refl _, Nat.le_refl _⟩ (fun v5 => ?_)
      refine zr_if_eq (pc := 39) 58 (zq_d eX11_say 21 rfl) (by decide) (fun _ => ?_) (fun _ => ?_)
      · refine zr_sipush (pc := 58) (zq_d eX11_say 30 rfl) zc_sm10003 ?_
        refine zr_goto (pc := 61) 70 (zq_d eX11_say 31 rfl) (by decide) ?_
        exact zr_ireturn (pc := 70) (zq_d eX11_say 36 rfl) rfl rfl (Nat.zero_le _) (Nat.zero_le _)
      · refine zr_aload_n (pc := 42) (zq_d eX11_say 22 rfl) 0 rfl rfl ?_
        refine zr_aload_n (pc := 43) (zq_d eX11_say 23 rfl) 0 rfl rfl ?_
        refine zr_getI (pc := 44) (zq_d eX11_say 24 rfl) zf_RX11_13 km_69_1 ?_
        refine zr_iload_n (pc := 47) (zq_d eX11_say 25 rfl) 1 rfl rfl ?_
        refine zr_aload_n (pc := 48) (zq_d eX11_say 26 rfl) 0 rfl rfl ?_
        refine zr_getI (pc := 49) (zq_d eX11_say 27 rfl) zf_RX11_16 km_69_2 ?_
        refine zr_Vi (pc := 52) [_, _, _] (zq_d eX11_say 28 rfl) (s_X11_maySpeak G N z X4 _ _ _) zd_X11_maySpeak zl_RX11_256 om_69 rfl rfl rfl rfl (Nat.le_of_ble_eq_true rfl) (Nat.le_of_ble_eq_true rfl) (Nat.le_of_ble_eq_true rfl) ⟨Nat.le_refl _, Nat.le_refl _⟩ (fun v6 => ?_)
        refine zr_if_ne (pc := 55) 64 (zq_d eX11_say 29 rfl) (by decide) (fun _ => ?_) (fun _ => ?_)
        · refine zr_aload_n (pc := 64) (zq_d eX11_say 32 rfl) 0 rfl rfl ?_
          refine zr_iload_n (pc := 65) (zq_d eX11_say 33 rfl) 1 rfl rfl ?_
          refine zr_iload_n (pc := 66) (zq_d eX11_say 34 rfl) 2 rfl rfl ?_
          refine zr_Wsi (pc := 67) [_, _] (zq_d eX11_say 35 rfl) (s_X11_said G N z X4 _ _) zd_X11_said zl_RX11_337 om_69 rfl rfl rfl rfl (Nat.le_of_ble_eq_true rfl) (Nat.le_of_ble_eq_true rfl) (Nat.le_of_ble_eq_true rfl) ⟨Nat.le_refl _, Nat.le_refl _⟩ (fun v7 X8 => ?_)
          exact zr_ireturn (pc := 70) (zq_d eX11_say 36 rfl) rfl rfl (Nat.zero_le _) (Nat.zero_le _)
        · refine zr_sipush (pc := 58) (zq_d eX11_say 30 rfl) zc_sm10003 ?_
          refine zr_goto (pc := 61) 70 (zq_d eX11_say 31 rfl) (by decide) ?_
          exact zr_ireturn (pc := 70) (zq_d eX11_say 36 rfl) rfl rfl (Nat.zero_le _) (Nat.zero_le _)
    · refine zr_sipush (pc := 16) (zq_d eX11_say 8 rfl) zc_sm10001 ?_
      exact zr_ireturn (pc := 19) (zq_d eX11_say 9 rfl) rfl rfl (Nat.zero_le _) (Nat.zero_le _)
def f_X11_places (N : Nat) (X : zq_M)  : Option Int32 :=
  some (zq_shl (1 : Int32) ((2 : Int32) * (X.1 69 0)))
set_option maxRecDepth 20000 in
set_option maxHeartbeats 8000000 in
theorem s_X11_places (G : zq_G) (N z : Nat) (X : zq_M)  : zq_V G YX11_places (1, 0, 0) (zq_ei zq_shM z X) 0 0 0 (lv_args 0 [.ref (zq_ad G 69)]) [] zq_shM z X (f_X11_places N X ) := by
  unfold f_X11_places
  refine zr_lo (l2 := [(0, .ref (zq_ad G 69))]) [0] rfl ?_
  refine zr_iconst (pc := 0) (zq_d eX11_places 0 rfl) zc_i1 ?_
  refine zr_iconst (pc := 1) (zq_d eX11_places 1 rfl) zc_i2 ?_
  refine zr_aload_n (pc := 2) (zq_d eX11_places 2 rfl) 0 rfl rfl ?_
  refine zr_getI (pc := 3) (zq_d eX11_places 3 rfl) zf_RX11_7 km_69_0 ?_
  refine zr_imul (pc := 6) (zq_d eX11_places 4 rfl) ?_
  refine zr_ishl (pc := 7) (zq_d eX11_places 5 rfl) ?_
  exact zr_ireturn (pc := 8) (zq_d eX11_places 6 rfl) rfl rfl (Nat.zero_le _) (Nat.zero_le _)
def k_X11_beginAt_23_2 (a1 : Int32) (X2 : zq_M)  : Option zq_M :=
  zq_ck a1 1024 (zq_b (zq_u1 X2 87 (zq_ix a1) (vp_nar .boolean (1 : Int32))) (fun X4 => some X4))
def b_X11_beginAt_2 (N : Nat) (a1 : Int32) (rc2_1 : Int32 → zq_M → Option zq_M) (v1 : Int32) (X2 : zq_M) : Option zq_M :=
  (f_X11_places N X2).bind (fun v3 => if v3 ≤ v1 then (k_X11_beginAt_23_2 a1 X2) else (zq_ck v1 1024 (zq_b (zq_u1 X2 87 (zq_ix v1) (vp_nar .boolean (0 : Int32))) (fun X5 => rc2_1 (v1 + (1 : Int32)) X5))))
def f_X11_beginAt (N : Nat) (X : zq_M) (a1 : Int32) : Option zq_M :=
  zq_loop (fun _ _ => none) (b_X11_beginAt_2 N a1) N (0 : Int32) X
set_option maxRecDepth 20000 in
set_option maxHeartbeats 8000000 in
theorem s_X11_beginAt (G : zq_G) (N z : Nat) (X : zq_M) (a1 : Int32) : zq_V G YX11_beginAt (2, 0, 0) (zq_sv zq_shM z) 0 0 0 (lv_args 0 [.ref (zq_ad G 69), .int a1]) [] zq_shM z X (f_X11_beginAt N X a1) := by
  unfold f_X11_beginAt
  refine zr_lo (l2 := [(0, .ref (zq_ad G 69)), (1, .int a1)]) [0, 1] rfl ?_
  refine zr_iconst (pc := 0) (zq_d eX11_beginAt 0 rfl) zc_i0 ?_
  refine zr_istore_n (pc := 1) (lo2 := [(2, .int (0 : Int32)), (0, .ref (zq_ad G 69)), (1, .int a1)]) (zq_d eX11_beginAt 1 rfl) rfl (Nat.le_of_ble_eq_true rfl) rfl ?_
  have hbrc2_1 : ∀ rc2_1 : Int32 → zq_M → Option zq_M, (∀ (v1 : Int32) (X2 : zq_M), zq_V G YX11_beginAt (2, 0, 0) (zq_sv zq_shM z) 0 0 2 [(0, .ref (zq_ad G 69)), (1, .int a1), (2, .int v1)] [] zq_shM z X2 (rc2_1 v1 X2)) → ∀ (v1 : Int32) (X2 : zq_M), zq_V G YX11_beginAt (2, 0, 0) (zq_sv zq_shM z) 0 0 2 [(0, .ref (zq_ad G 69)), (1, .int a1), (2, .int v1)] [] zq_shM z X2 (b_X11_beginAt_2 N a1 rc2_1 v1 X2) := by
    intro rc2_1 hrc2_1 v1 X2
    unfold b_X11_beginAt_2
    refine zr_iload_n (pc := 2) (zq_d eX11_beginAt 2 rfl) 2 rfl rfl ?_
    refine zr_aload_n (pc := 3) (zq_d eX11_beginAt 3 rfl) 0 rfl rfl ?_
    refine zr_Vi (pc := 4) [] (zq_d eX11_beginAt 4 rfl) (s_X11_places G N z X2 ) zd_X11_places zl_RX11_340 om_69 rfl rfl rfl rfl (Nat.le_of_ble_eq_true rfl) (Nat.le_of_ble_eq_true rfl) (Nat.le_of_ble_eq_true rfl) ⟨Nat.le_refl _, Nat.le_refl _⟩ (fun v3 => ?_)
    refine zr_icmp_ge (pc := 7) 23 (zq_d eX11_beginAt 5 rfl) (by decide) (fun _ => ?_) (fun _ => ?_)
    · unfold k_X11_beginAt_23_2
      refine zr_aload_n (pc := 23) (zq_d eX11_beginAt 13 rfl) 0 rfl rfl ?_
      refine zr_getC (pc := 24) (zq_d eX11_beginAt 14 rfl) zf_RX11_102 km_69_30 ?_
      refine zr_iload_n (pc := 27) (zq_d eX11_beginAt 15 rfl) 1 rfl rfl ?_
      refine zr_iconst (pc := 28) (zq_d eX11_beginAt 16 rfl) zc_i1 ?_
      refine zr_zast (pc := 29) (zq_d eX11_beginAt 17 rfl) am_87 (fun X4 => ?_)
      exact zr_vreturn (pc := 30) (zq_d eX11_beginAt 18 rfl) rfl rfl (Nat.zero_le _) (Nat.zero_le _)
    · refine zr_aload_n (pc := 10) (zq_d eX11_beginAt 6 rfl) 0 rfl rfl ?_
      refine zr_getC (pc := 11) (zq_d eX11_beginAt 7 rfl) zf_RX11_102 km_69_30 ?_
      refine zr_iload_n (pc := 14) (zq_d eX11_beginAt 8 rfl) 2 rfl rfl ?_
      refine zr_iconst (pc := 15) (zq_d eX11_beginAt 9 rfl) zc_i0 ?_
      refine zr_zast (pc := 16) (zq_d eX11_beginAt 10 rfl) am_87 (fun X5 => ?_)
      refine zr_iinc (pc := 17) (j := 2) (v := (v1 + (1 : Int32))) (lo2 := [(2, .int (v1 + (1 : Int32))), (0, .ref (zq_ad G 69)), (1, .int a1)]) (zq_d eX11_beginAt 11 rfl) rfl (by rw [zc_i1]) (Nat.le_of_ble_eq_true rfl) rfl ?_
      refine zr_goto (pc := 20) 2 (zq_d eX11_beginAt 12 rfl) (by decide) ?_
      exact zr_lo [1, 2, 0] rfl (hrc2_1 (v1 + (1 : Int32)) X5)
  have hlrc2_1 := zr_loop (P := fun (rc2_1 : Int32 → zq_M → Option zq_M) => ∀ (v1 : Int32) (X2 : zq_M), zq_V G YX11_beginAt (2, 0, 0) (zq_sv zq_shM z) 0 0 2 [(0, .ref (zq_ad G 69)), (1, .int a1), (2, .int v1)] [] zq_shM z X2 (rc2_1 v1 X2)) (fun _ _ => none) (b_X11_beginAt_2 N a1) (fun _ _ => zr_none) hbrc2_1 N
  exact zr_lo [1, 2, 0] rfl (hlrc2_1 (0 : Int32) X)
def b_X11_goOn_102 (N : Nat) (rc102_3 : Int32 → zq_M → Option zq_M) (v7 : Int32) (X8 : zq_M) : Option zq_M :=
  (f_X11_places N X8).bind (fun v9 => if v9 ≤ v7 then (some X8) else (zq_ck v7 1024 (zq_ck v7 1024 (zq_b (zq_u1 X8 87 (zq_ix v7) (vp_nar .boolean (X8.1 88 (zq_ix v7)))) (fun X10 => rc102_3 (v7 + (1 : Int32)) X10)))))
def k_X11_goOn_100_4 (N : Nat) (X5 : zq_M)  : Option zq_M :=
  zq_loop (fun _ _ => none) (b_X11_goOn_102 N) N (0 : Int32) X5
def b_X11_goOn_54 (N : Nat) (v4 : Int32) (v11 : Int32) (rc35_5 : Int32 → zq_M → Option zq_M) (rc54_6 : Int32 → zq_M → Option zq_M) (v13 : Int32) (X14 : zq_M) : Option zq_M :=
  if (4 : Int32) ≤ v13 then (rc35_5 (v11 + (1 : Int32)) X14) else ((f_X11_mayCome N X14 v4 v11 v13).bind (fun v15 => if v15 = 0 then (rc54_6 (v13 + (1 : Int32)) X14) else ((f_X11_moved N X14 v4 v11 v13).bind (fun v16 => zq_ck v16 1024 (zq_b (zq_u1 X14 88 (zq_ix v16) (vp_nar .boolean (1 : Int32))) (fun X17 => rc54_6 (v13 + (1 : Int32)) X17))))))
def b_X11_goOn_35 (N : Nat) (v4 : Int32) (rc25_2 : Int32 → zq_M → Option zq_M) (rc35_5 : Int32 → zq_M → Option zq_M) (v11 : Int32) (X12 : zq_M) : Option zq_M :=
  if (X12.1 69 0) ≤ v11 then (rc25_2 (v4 + (1 : Int32)) X12) else (zq_ck v4 1024 (if (X12.1 87 (zq_ix v4)) = 0 then (rc25_2 (v4 + (1 : Int32)) X12) else (zq_loop (fun _ _ => none) (b_X11_goOn_54 N v4 v11 rc35_5) N (0 : Int32) X12)))
def b_X11_goOn_25 (N : Nat) (rc25_2 : Int32 → zq_M → Option zq_M) (v4 : Int32) (X5 : zq_M) : Option zq_M :=
  (f_X11_places N X5).bind (fun v6 => if v6 ≤ v4 then (k_X11_goOn_100_4 N X5) else (zq_loop (fun _ _ => none) (b_X11_goOn_35 N v4 rc25_2) N (0 : Int32) X5))
def k_X11_goOn_23_7 (N : Nat) (X2 : zq_M)  : Option zq_M :=
  zq_loop (fun _ _ => none) (b_X11_goOn_25 N) N (0 : Int32) X2
def b_X11_goOn_2 (N : Nat) (rc2_1 : Int32 → zq_M → Option zq_M) (v1 : Int32) (X2 : zq_M) : Option zq_M :=
  (f_X11_places N X2).bind (fun v3 => if v3 ≤ v1 then (k_X11_goOn_23_7 N X2) else (zq_ck v1 1024 (zq_b (zq_u1 X2 88 (zq_ix v1) (vp_nar .boolean (0 : Int32))) (fun X18 => rc2_1 (v1 + (1 : Int32)) X18))))
def f_X11_goOn (N : Nat) (X : zq_M)  : Option zq_M :=
  zq_loop (fun _ _ => none) (b_X11_goOn_2 N) N (0 : Int32) X
set_option maxRecDepth 20000 in
set_option maxHeartbeats 8000000 in
theorem s_X11_goOn (G : zq_G) (N z : Nat) (X : zq_M)  : zq_V G YX11_goOn (5, 0, 0) (zq_sv zq_shM z) 0 0 0 (lv_args 0 [.ref (zq_ad G 69)]) [] zq_shM z X (f_X11_goOn N X ) := by
  unfold f_X11_goOn
  refine zr_lo (l2 := [(0, .ref (zq_ad G 69))]) [0] rfl ?_
  refine zr_iconst (pc := 0) (zq_d eX11_goOn 0 rfl) zc_i0 ?_
  refine zr_istore_n (pc := 1) (lo2 := [(1, .int (0 : Int32)), (0, .ref (zq_ad G 69))]) (zq_d eX11_goOn 1 rfl) rfl (Nat.le_of_ble_eq_true rfl) rfl ?_
  have hbrc2_1 : ∀ rc2_1 : Int32 → zq_M → Option zq_M, (∀ (v1 : Int32) (X2 : zq_M), zq_V G YX11_goOn (5, 0, 0) (zq_sv zq_shM z) 0 0 2 [(0, .ref (zq_ad G 69)), (1, .int v1)] [] zq_shM z X2 (rc2_1 v1 X2)) → ∀ (v1 : Int32) (X2 : zq_M), zq_V G YX11_goOn (5, 0, 0) (zq_sv zq_shM z) 0 0 2 [(0, .ref (zq_ad G 69)), (1, .int v1)] [] zq_shM z X2 (b_X11_goOn_2 N rc2_1 v1 X2) := by
    intro rc2_1 hrc2_1 v1 X2
    unfold b_X11_goOn_2
    refine zr_iload_n (pc := 2) (zq_d eX11_goOn 2 rfl) 1 rfl rfl ?_
    refine zr_aload_n (pc := 3) (zq_d eX11_goOn 3 rfl) 0 rfl rfl ?_
    refine zr_Vi (pc := 4) [] (zq_d eX11_goOn 4 rfl) (s_X11_places G N z X2 ) zd_X11_places zl_RX11_340 om_69 rfl rfl rfl rfl (Nat.le_of_ble_eq_true rfl) (Nat.le_of_ble_eq_true rfl) (Nat.le_of_ble_eq_true rfl) ⟨Nat.le_refl _, Nat.le_refl _⟩ (fun v3 => ?_)
    refine zr_icmp_ge (pc := 7) 23 (zq_d eX11_goOn 5 rfl) (by decide) (fun _ => ?_) (fun _ => ?_)
    · unfold k_X11_goOn_23_7
      refine zr_iconst (pc := 23) (zq_d eX11_goOn 13 rfl) zc_i0 ?_
      refine zr_istore_n (pc := 24) (lo2 := [(1, .int (0 : Int32)), (0, .ref (zq_ad G 69))]) (zq_d eX11_goOn 14 rfl) rfl (Nat.le_of_ble_eq_true rfl) rfl ?_
      have hbrc25_2 : ∀ rc25_2 : Int32 → zq_M → Option zq_M, (∀ (v4 : Int32) (X5 : zq_M), zq_V G YX11_goOn (5, 0, 0) (zq_sv zq_shM z) 0 0 25 [(0, .ref (zq_ad G 69)), (1, .int v4)] [] zq_shM z X5 (rc25_2 v4 X5)) → ∀ (v4 : Int32) (X5 : zq_M), zq_V G YX11_goOn (5, 0, 0) (zq_sv zq_shM z) 0 0 25 [(0, .ref (zq_ad G 69)), (1, .int v4)] [] zq_shM z X5 (b_X11_goOn_25 N rc25_2 v4 X5) := by
        intro rc25_2 hrc25_2 v4 X5
        unfold b_X11_goOn_25
        refine zr_iload_n (pc := 25) (zq_d eX11_goOn 15 rfl) 1 rfl rfl ?_
        refine zr_aload_n (pc := 26) (zq_d eX11_goOn 16 rfl) 0 rfl rfl ?_
        refine zr_Vi (pc := 27) [] (zq_d eX11_goOn 17 rfl) (s_X11_places G N z X5 ) zd_X11_places zl_RX11_340 om_69 rfl rfl rfl rfl (Nat.le_of_ble_eq_true rfl) (Nat.le_of_ble_eq_true rfl) (Nat.le_of_ble_eq_true rfl) ⟨Nat.le_refl _, Nat.le_refl _⟩ (fun v6 => ?_)
        refine zr_icmp_ge (pc := 30) 100 (zq_d eX11_goOn 18 rfl) (by decide) (fun _ => ?_) (fun _ => ?_)
        · unfold k_X11_goOn_100_4
          refine zr_iconst (pc := 100) (zq_d eX11_goOn 56 rfl) zc_i0 ?_
          refine zr_istore_n (pc := 101) (lo2 := [(1, .int (0 : Int32)), (0, .ref (zq_ad G 69))]) (zq_d eX11_goOn 57 rfl) rfl (Nat.le_of_ble_eq_true rfl) rfl ?_
          have hbrc102_3 : ∀ rc102_3 : Int32 → zq_M → Option zq_M, (∀ (v7 : Int32) (X8 : zq_M), zq_V G YX11_goOn (5, 0, 0) (zq_sv zq_shM z) 0 0 102 [(0, .ref (zq_ad G 69)), (1, .int v7)] [] zq_shM z X8 (rc102_3 v7 X8)) → ∀ (v7 : Int32) (X8 : zq_M), zq_V G YX11_goOn (5, 0, 0) (zq_sv zq_shM z) 0 0 102 [(0, .ref (zq_ad G 69)), (1, .int v7)] [] zq_shM z X8 (b_X11_goOn_102 N rc102_3 v7 X8) := by
            intro rc102_3 hrc102_3 v7 X8
            unfold b_X11_goOn_102
            refine zr_iload_n (pc := 102) (zq_d eX11_goOn 58 rfl) 1 rfl rfl ?_
            refine zr_aload_n (pc := 103) (zq_d eX11_goOn 59 rfl) 0 rfl rfl ?_
            refine zr_Vi (pc := 104) [] (zq_d eX11_goOn 60 rfl) (s_X11_places G N z X8 ) zd_X11_places zl_RX11_340 om_69 rfl rfl rfl rfl (Nat.le_of_ble_eq_true rfl) (Nat.le_of_ble_eq_true rfl) (Nat.le_of_ble_eq_true rfl) ⟨Nat.le_refl _, Nat.le_refl _⟩ (fun v9 => ?_)
            refine zr_icmp_ge (pc := 107) 128 (zq_d eX11_goOn 61 rfl) (by decide) (fun _ => ?_) (fun _ => ?_)
            · exact zr_vreturn (pc := 128) (zq_d eX11_goOn 72 rfl) rfl rfl (Nat.zero_le _) (Nat.zero_le _)
            · refine zr_aload_n (pc := 110) (zq_d eX11_goOn 62 rfl) 0 rfl rfl ?_
              refine zr_getC (pc := 111) (zq_d eX11_goOn 63 rfl) zf_RX11_102 km_69_30 ?_
              refine zr_iload_n (pc := 114) (zq_d eX11_goOn 64 rfl) 1 rfl rfl ?_
              refine zr_aload_n (pc := 115) (zq_d eX11_goOn 65 rfl) 0 rfl rfl ?_
              refine zr_getC (pc := 116) (zq_d eX11_goOn 66 rfl) zf_RX11_105 km_69_31 ?_
              refine zr_iload_n (pc := 119) (zq_d eX11_goOn 67 rfl) 1 rfl rfl ?_
              refine zr_zald (pc := 120) (zq_d eX11_goOn 68 rfl) am_88 ?_
              refine zr_zast (pc := 121) (zq_d eX11_goOn 69 rfl) am_87 (fun X10 => ?_)
              refine zr_iinc (pc := 122) (j := 1) (v := (v7 + (1 : Int32))) (lo2 := [(1, .int (v7 + (1 : Int32))), (0, .ref (zq_ad G 69))]) (zq_d eX11_goOn 70 rfl) rfl (by rw [zc_i1]) (Nat.le_of_ble_eq_true rfl) rfl ?_
              refine zr_goto (pc := 125) 102 (zq_d eX11_goOn 71 rfl) (by decide) ?_
              exact zr_lo [1, 0] rfl (hrc102_3 (v7 + (1 : Int32)) X10)
          have hlrc102_3 := zr_loop (P := fun (rc102_3 : Int32 → zq_M → Option zq_M) => ∀ (v7 : Int32) (X8 : zq_M), zq_V G YX11_goOn (5, 0, 0) (zq_sv zq_shM z) 0 0 102 [(0, .ref (zq_ad G 69)), (1, .int v7)] [] zq_shM z X8 (rc102_3 v7 X8)) (fun _ _ => none) (b_X11_goOn_102 N) (fun _ _ => zr_none) hbrc102_3 N
          exact zr_lo [1, 0] rfl (hlrc102_3 (0 : Int32) X5)
        · refine zr_iconst (pc := 33) (zq_d eX11_goOn 19 rfl) zc_i0 ?_
          refine zr_istore_n (pc := 34) (lo2 := [(2, .int (0 : Int32)), (0, .ref (zq_ad G 69)), (1, .int v4)]) (zq_d eX11_goOn 20 rfl) rfl (Nat.le_of_ble_eq_true rfl) rfl ?_
          have hbrc35_5 : ∀ rc35_5 : Int32 → zq_M → Option zq_M, (∀ (v11 : Int32) (X12 : zq_M), zq_V G YX11_goOn (5, 0, 0) (zq_sv zq_shM z) 0 0 35 [(0, .ref (zq_ad G 69)), (1, .int v4), (2, .int v11)] [] zq_shM z X12 (rc35_5 v11 X12)) → ∀ (v11 : Int32) (X12 : zq_M), zq_V G YX11_goOn (5, 0, 0) (zq_sv zq_shM z) 0 0 35 [(0, .ref (zq_ad G 69)), (1, .int v4), (2, .int v11)] [] zq_shM z X12 (b_X11_goOn_35 N v4 rc25_2 rc35_5 v11 X12) := by
            intro rc35_5 hrc35_5 v11 X12
            unfold b_X11_goOn_35
            refine zr_iload_n (pc := 35) (zq_d eX11_goOn 21 rfl) 2 rfl rfl ?_
            refine zr_aload_n (pc := 36) (zq_d eX11_goOn 22 rfl) 0 rfl rfl ?_
            refine zr_getI (pc := 37) (zq_d eX11_goOn 23 rfl) zf_RX11_7 km_69_0 ?_
            refine zr_icmp_ge (pc := 40) 94 (zq_d eX11_goOn 24 rfl) (by decide) (fun _ => ?_) (fun _ => ?_)
            · refine zr_iinc (pc := 94) (j := 1) (v := (v4 + (1 : Int32))) (lo2 := [(1, .int (v4 + (1 : Int32))), (0, .ref (zq_ad G 69)), (2, .int v11)]) (zq_d eX11_goOn 54 rfl) rfl (by rw [zc_i1]) (Nat.le_of_ble_eq_true rfl) rfl ?_
              refine zr_goto (pc := 97) 25 (zq_d eX11_goOn 55 rfl) (by decide) ?_
              exact zr_lo [1, 0] rfl (hrc25_2 (v4 + (1 : Int32)) X12)
            · refine zr_aload_n (pc := 43) (zq_d eX11_goOn 25 rfl) 0 rfl rfl ?_
              refine zr_getC (pc := 44) (zq_d eX11_goOn 26 rfl) zf_RX11_102 km_69_30 ?_
              refine zr_iload_n (pc := 47) (zq_d eX11_goOn 27 rfl) 1 rfl rfl ?_
              refine zr_zald (pc := 48) (zq_d eX11_goOn 28 rfl) am_87 ?_
              refine zr_if_eq (pc := 49) 94 (zq_d eX11_goOn 29 rfl) (by decide) (fun _ => ?_) (fun _ => ?_)
              · refine zr_iinc (pc := 94) (j := 1) (v := (v4 + (1 : Int32))) (lo2 := [(1, .int (v4 + (1 : Int32))), (0, .ref (zq_ad G 69)), (2, .int v11)]) (zq_d eX11_goOn 54 rfl) rfl (by rw [zc_i1]) (Nat.le_of_ble_eq_true rfl) rfl ?_
                refine zr_goto (pc := 97) 25 (zq_d eX11_goOn 55 rfl) (by decide) ?_
                exact zr_lo [1, 0] rfl (hrc25_2 (v4 + (1 : Int32)) X12)
              · refine zr_iconst (pc := 52) (zq_d eX11_goOn 30 rfl) zc_i0 ?_
                refine zr_istore_n (pc := 53) (lo2 := [(3, .int (0 : Int32)), (0, .ref (zq_ad G 69)), (1, .int v4), (2, .int v11)]) (zq_d eX11_goOn 31 rfl) rfl (Nat.le_of_ble_eq_true rfl) rfl ?_
                have hbrc54_6 : ∀ rc54_6 : Int32 → zq_M → Option zq_M, (∀ (v13 : Int32) (X14 : zq_M), zq_V G YX11_goOn (5, 0, 0) (zq_sv zq_shM z) 0 0 54 [(0, .ref (zq_ad G 69)), (1, .int v4), (2, .int v11), (3, .int v13)] [] zq_shM z X14 (rc54_6 v13 X14)) → ∀ (v13 : Int32) (X14 : zq_M), zq_V G YX11_goOn (5, 0, 0) (zq_sv zq_shM z) 0 0 54 [(0, .ref (zq_ad G 69)), (1, .int v4), (2, .int v11), (3, .int v13)] [] zq_shM z X14 (b_X11_goOn_54 N v4 v11 rc35_5 rc54_6 v13 X14) := by
                  intro rc54_6 hrc54_6 v13 X14
                  unfold b_X11_goOn_54
                  refine zr_iload_n (pc := 54) (zq_d eX11_goOn 32 rfl) 3 rfl rfl ?_
                  refine zr_iconst (pc := 55) (zq_d eX11_goOn 33 rfl) zc_i4 ?_
                  refine zr_icmp_ge (pc := 56) 88 (zq_d eX11_goOn 34 rfl) (by decide) (fun _ => ?_) (fun _ => ?_)
                  · refine zr_iinc (pc := 88) (j := 2) (v := (v11 + (1 : Int32))) (lo2 := [(2, .int (v11 + (1 : Int32))), (0, .ref (zq_ad G 69)), (1, .int v4), (3, .int v13)]) (zq_d eX11_goOn 52 rfl) rfl (by rw [zc_i1]) (Nat.le_of_ble_eq_true rfl) rfl ?_
                    refine zr_goto (pc := 91) 35 (zq_d eX11_goOn 53 rfl) (by decide) ?_
                    exact zr_lo [1, 2, 0] rfl (hrc35_5 (v11 + (1 : Int32)) X14)
                  · refine zr_aload_n (pc := 59) (zq_d eX11_goOn 35 rfl) 0 rfl rfl ?_
                    refine zr_iload_n (pc := 60) (zq_d eX11_goOn 36 rfl) 1 rfl rfl ?_
                    refine zr_iload_n (pc := 61) (zq_d eX11_goOn 37 rfl) 2 rfl rfl ?_
                    refine zr_iload_n (pc := 62) (zq_d eX11_goOn 38 rfl) 3 rfl rfl ?_
                    refine zr_Vi (pc := 63) [_, _, _] (zq_d eX11_goOn 39 rfl) (s_X11_mayCome G N z X14 _ _ _) zd_X11_mayCome zl_RX11_343 om_69 rfl rfl rfl rfl (Nat.le_of_ble_eq_true rfl) (Nat.le_of_ble_eq_true rfl) (Nat.le_of_ble_eq_true rfl) ⟨Nat.le_refl _, Nat.le_refl _⟩ (fun v15 => ?_)
                    refine zr_if_eq (pc := 66) 82 (zq_d eX11_goOn 40 rfl) (by decide) (fun _ => ?_) (fun _ => ?_)
                    · refine zr_iinc (pc := 82) (j := 3) (v := (v13 + (1 : Int32))) (lo2 := [(3, .int (v13 + (1 : Int32))), (0, .ref (zq_ad G 69)), (1, .int v4), (2, .int v11)]) (zq_d eX11_goOn 50 rfl) rfl (by rw [zc_i1]) (Nat.le_of_ble_eq_true rfl) rfl ?_
                      refine zr_goto (pc := 85) 54 (zq_d eX11_goOn 51 rfl) (by decide) ?_
                      exact zr_lo [1, 2, 3, 0] rfl (hrc54_6 (v13 + (1 : Int32)) X14)
                    · refine zr_aload_n (pc := 69) (zq_d eX11_goOn 41 rfl) 0 rfl rfl ?_
                      refine zr_getC (pc := 70) (zq_d eX11_goOn 42 rfl) zf_RX11_105 km_69_31 ?_
                      refine zr_aload_n (pc := 73) (zq_d eX11_goOn 43 rfl) 0 rfl rfl ?_
                      refine zr_iload_n (pc := 74) (zq_d eX11_goOn 44 rfl) 1 rfl rfl ?_
                      refine zr_iload_n (pc := 75) (zq_d eX11_goOn 45 rfl) 2 rfl rfl ?_
                      refine zr_iload_n (pc := 76) (zq_d eX11_goOn 46 rfl) 3 rfl rfl ?_
                      refine zr_Vi (pc := 77) [_, _, _] (zq_d eX11_goOn 47 rfl) (s_X11_moved G N z X14 _ _ _) zd_X11_moved zl_RX11_229 om_69 rfl rfl rfl rfl (Nat.le_of_ble_eq_true rfl) (Nat.le_of_ble_eq_true rfl) (Nat.le_of_ble_eq_true rfl) ⟨Nat.le_refl _, Nat.le_refl _⟩ (fun v16 => ?_)
                      refine zr_iconst (pc := 80) (zq_d eX11_goOn 48 rfl) zc_i1 ?_
                      refine zr_zast (pc := 81) (zq_d eX11_goOn 49 rfl) am_88 (fun X17 => ?_)
                      refine zr_iinc (pc := 82) (j := 3) (v := (v13 + (1 : Int32))) (lo2 := [(3, .int (v13 + (1 : Int32))), (0, .ref (zq_ad G 69)), (1, .int v4), (2, .int v11)]) (zq_d eX11_goOn 50 rfl) rfl (by rw [zc_i1]) (Nat.le_of_ble_eq_true rfl) rfl ?_
                      refine zr_goto (pc := 85) 54 (zq_d eX11_goOn 51 rfl) (by decide) ?_
                      exact zr_lo [1, 2, 3, 0] rfl (hrc54_6 (v13 + (1 : Int32)) X17)
                have hlrc54_6 := zr_loop (P := fun (rc54_6 : Int32 → zq_M → Option zq_M) => ∀ (v13 : Int32) (X14 : zq_M), zq_V G YX11_goOn (5, 0, 0) (zq_sv zq_shM z) 0 0 54 [(0, .ref (zq_ad G 69)), (1, .int v4), (2, .int v11), (3, .int v13)] [] zq_shM z X14 (rc54_6 v13 X14)) (fun _ _ => none) (b_X11_goOn_54 N v4 v11 rc35_5) (fun _ _ => zr_none) hbrc54_6 N
                exact zr_lo [1, 2, 3, 0] rfl (hlrc54_6 (0 : Int32) X12)
          have hlrc35_5 := zr_loop (P := fun (rc35_5 : Int32 → zq_M → Option zq_M) => ∀ (v11 : Int32) (X12 : zq_M), zq_V G YX11_goOn (5, 0, 0) (zq_sv zq_shM z) 0 0 35 [(0, .ref (zq_ad G 69)), (1, .int v4), (2, .int v11)] [] zq_shM z X12 (rc35_5 v11 X12)) (fun _ _ => none) (b_X11_goOn_35 N v4 rc25_2) (fun _ _ => zr_none) hbrc35_5 N
          exact zr_lo [1, 2, 0] rfl (hlrc35_5 (0 : Int32) X5)
      have hlrc25_2 := zr_loop (P := fun (rc25_2 : Int32 → zq_M → Option zq_M) => ∀ (v4 : Int32) (X5 : zq_M), zq_V G YX11_goOn (5, 0, 0) (zq_sv zq_shM z) 0 0 25 [(0, .ref (zq_ad G 69)), (1, .int v4)] [] zq_shM z X5 (rc25_2 v4 X5)) (fun _ _ => none) (b_X11_goOn_25 N) (fun _ _ => zr_none) hbrc25_2 N
      exact zr_lo [1, 0] rfl (hlrc25_2 (0 : Int32) X2)
    · refine zr_aload_n (pc := 10) (zq_d eX11_goOn 6 rfl) 0 rfl rfl ?_
      refine zr_getC (pc := 11) (zq_d eX11_goOn 7 rfl) zf_RX11_105 km_69_31 ?_
      refine zr_iload_n (pc := 14) (zq_d eX11_goOn 8 rfl) 1 rfl rfl ?_
      refine zr_iconst (pc := 15) (zq_d eX11_goOn 9 rfl) zc_i0 ?_
      refine zr_zast (pc := 16) (zq_d eX11_goOn 10 rfl) am_88 (fun X18 => ?_)
      refine zr_iinc (pc := 17) (j := 1) (v := (v1 + (1 : Int32))) (lo2 := [(1, .int (v1 + (1 : Int32))), (0, .ref (zq_ad G 69))]) (zq_d eX11_goOn 11 rfl) rfl (by rw [zc_i1]) (Nat.le_of_ble_eq_true rfl) rfl ?_
      refine zr_goto (pc := 20) 2 (zq_d eX11_goOn 12 rfl) (by decide) ?_
      exact zr_lo [1, 0] rfl (hrc2_1 (v1 + (1 : Int32)) X18)
  have hlrc2_1 := zr_loop (P := fun (rc2_1 : Int32 → zq_M → Option zq_M) => ∀ (v1 : Int32) (X2 : zq_M), zq_V G YX11_goOn (5, 0, 0) (zq_sv zq_shM z) 0 0 2 [(0, .ref (zq_ad G 69)), (1, .int v1)] [] zq_shM z X2 (rc2_1 v1 X2)) (fun _ _ => none) (b_X11_goOn_2 N) (fun _ _ => zr_none) hbrc2_1 N
  exact zr_lo [1, 0] rfl (hlrc2_1 (0 : Int32) X)
