def f_X11_addLot (N : Nat) (X : zq_M) (a1 : Int64) (a2 : Int64) : Option zq_M :=
  zq_b (((X.2.1 69 40) * a2) + (a1 * (X.2.1 69 41))) (fun w1 => (f_X11_divisor N X w1 ((X.2.1 69 41) * a2)).bind (fun w2 => zq_dw w2 (zq_b (zq_u2 X 69 40 (w1 / w2)) (fun X3 => zq_dw w2 (zq_b (zq_u2 X3 69 41 (((X.2.1 69 41) * a2) / w2)) (fun X4 => some X4))))))
set_option maxRecDepth 20000 in
set_option maxHeartbeats 8000000 in
theorem s_X11_addLot (G : zq_G) (N z : Nat) (X : zq_M) (a1 : Int64) (a2 : Int64) : zq_V G YX11_addLot (2, 0, 0) (zq_sv zq_shM z) 0 0 0 (lv_args 0 [.ref (zq_ad G 69), .long a1, .long a2]) [] zq_shM z X (f_X11_addLot N X a1 a2) := by
  unfold f_X11_addLot
  refine zr_lo (l2 := [(0, .ref (zq_ad G 69)), (1, .long a1), (3, .long a2)]) [0, 1, 2] rfl ?_
  refine zr_aload_n (pc := 0) (zq_d eX11_addLot 0 rfl) 0 rfl rfl ?_
  refine zr_getL (pc := 1) (zq_d eX11_addLot 1 rfl) zf_RX11_133 km_69_40 ?_
  refine zr_lload_n (pc := 4) (zq_d eX11_addLot 2 rfl) 2 rfl rfl ?_
  refine zr_lmul (pc := 5) (zq_d eX11_addLot 3 rfl) ?_
  refine zr_lload_n (pc := 6) (zq_d eX11_addLot 4 rfl) 1 rfl rfl ?_
  refine zr_aload_n (pc := 7) (zq_d eX11_addLot 5 rfl) 0 rfl rfl ?_
  refine zr_getL (pc := 8) (zq_d eX11_addLot 6 rfl) zf_RX11_137 km_69_41 ?_
  refine zr_lmul (pc := 11) (zq_d eX11_addLot 7 rfl) ?_
  refine zr_ladd (pc := 12) (zq_d eX11_addLot 8 rfl) ?_
  refine zr_nml (fun w1 => ?_)
  refine zr_lstore (pc := 13) (lo2 := [(5, .long w1), (0, .ref (zq_ad G 69)), (1, .long a1), (3, .long a2)]) (zq_d eX11_addLot 9 rfl) (Nat.le_of_ble_eq_true rfl) rfl ?_
  refine zr_aload_n (pc := 15) (zq_d eX11_addLot 10 rfl) 1 rfl rfl ?_
  refine zr_getL (pc := 16) (zq_d eX11_addLot 11 rfl) zf_RX11_137 km_69_41 ?_
  refine zr_lload_n (pc := 19) (zq_d eX11_addLot 12 rfl) 3 rfl rfl ?_
  refine zr_lmul (pc := 20) (zq_d eX11_addLot 13 rfl) ?_
  refine zr_lstore (pc := 21) (lo2 := [(7, .long ((X.2.1 69 41) * a2)), (5, .long w1), (0, .ref (zq_ad G 69)), (1, .long a1), (3, .long a2)]) (zq_d eX11_addLot 14 rfl) (Nat.le_of_ble_eq_true rfl) rfl ?_
  refine zr_aload_n (pc := 23) (zq_d eX11_addLot 15 rfl) 2 rfl rfl ?_
  refine zr_lload (pc := 24) (zq_d eX11_addLot 16 rfl) 1 rfl ?_
  refine zr_lload (pc := 26) (zq_d eX11_addLot 17 rfl) 0 rfl ?_
  refine zr_Vl (pc := 28) [_, _] (zq_d eX11_addLot 18 rfl) (s_X11_divisor G N z X _ _) zd_X11_divisor zl_RX11_404 om_69 rfl rfl rfl rfl (Nat.le_of_ble_eq_true rfl) (Nat.le_of_ble_eq_true rfl) (Nat.le_of_ble_eq_true rfl) ⟨Nat.le_refl _, Nat.le_refl _⟩ (fun w2 => ?_)
  refine zr_lstore (pc := 31) (lo2 := [(9, .long w2), (7, .long ((X.2.1 69 41) * a2)), (5, .long w1), (0, .ref (zq_ad G 69)), (1, .long a1), (3, .long a2)]) (zq_d eX11_addLot 19 rfl) (Nat.le_of_ble_eq_true rfl) rfl ?_
  refine zr_aload_n (pc := 33) (zq_d eX11_addLot 20 rfl) 3 rfl rfl ?_
  refine zr_lload (pc := 34) (zq_d eX11_addLot 21 rfl) 2 rfl ?_
  refine zr_lload (pc := 36) (zq_d eX11_addLot 22 rfl) 0 rfl ?_
  refine zr_ldiv (pc := 38) (zq_d eX11_addLot 23 rfl) ?_
  refine zr_putL (pc := 39) (zq_d eX11_addLot 24 rfl) zf_RX11_133 km_69_40 zn_11_40 (fun X3 => ?_)
  refine zr_aload_n (pc := 42) (zq_d eX11_addLot 25 rfl) 3 rfl rfl ?_
  refine zr_lload (pc := 43) (zq_d eX11_addLot 26 rfl) 1 rfl ?_
  refine zr_lload (pc := 45) (zq_d eX11_addLot 27 rfl) 0 rfl ?_
  refine zr_ldiv (pc := 47) (zq_d eX11_addLot 28 rfl) ?_
  refine zr_putL (pc := 48) (zq_d eX11_addLot 29 rfl) zf_RX11_137 km_69_41 zn_11_41 (fun X4 => ?_)
  exact zr_vreturn (pc := 51) (zq_d eX11_addLot 30 rfl) rfl rfl (Nat.zero_le _) (Nat.zero_le _)
def j_X11_addFrom_28 (N : Nat) (X : zq_M) (a4 : Int32) (w5 : Int64) : Option zq_M :=
  (f_X11_addLot N X w5 (a4.toInt64)).bind (fun X6 => some X6)
def f_X11_addFrom (N : Nat) (X : zq_M) (a1 : Int32) (a2 : Int32) (a3 : Int32) (a4 : Int32) : Option zq_M :=
  (f_X11_waysFrom N X a1).bind (fun v1 => if ¬ v1 = 0 then ((f_X11_speaksBehind N X a1 a2 a3).bind (fun v2 => (f_X11_addLot N X (v2.toInt64) ((a4.toInt64) * (v1.toInt64))).bind (fun X3 => some X3))) else ((f_X11_maySpeak N X a1 a2 a3).bind (fun v4 => if v4 = 0 then (j_X11_addFrom_28 N X a4 (0 : Int64)) else (j_X11_addFrom_28 N X a4 (1 : Int64)))))
set_option maxRecDepth 20000 in
set_option maxHeartbeats 8000000 in
theorem s_X11_addFrom (G : zq_G) (N z : Nat) (X : zq_M) (a1 : Int32) (a2 : Int32) (a3 : Int32) (a4 : Int32) : zq_V G YX11_addFrom (6, 0, 0) (zq_sv zq_shM z) 0 0 0 (lv_args 0 [.ref (zq_ad G 69), .int a1, .int a2, .int a3, .int a4]) [] zq_shM z X (f_X11_addFrom N X a1 a2 a3 a4) := by
  unfold f_X11_addFrom
  refine zr_lo (l2 := [(0, .ref (zq_ad G 69)), (1, .int a1), (2, .int a2), (3, .int a3), (4, .int a4)]) [0, 1, 2, 3, 4] rfl ?_
  refine zr_aload_n (pc := 0) (zq_d eX11_addFrom 0 rfl) 0 rfl rfl ?_
  refine zr_iload_n (pc := 1) (zq_d eX11_addFrom 1 rfl) 1 rfl rfl ?_
  refine zr_Vi (pc := 2) [_] (zq_d eX11_addFrom 2 rfl) (s_X11_waysFrom G N z X _) zd_X11_waysFrom zl_RX11_408 om_69 rfl rfl rfl rfl (Nat.le_of_ble_eq_true rfl) (Nat.le_of_ble_eq_true rfl) (Nat.le_of_ble_eq_true rfl) ⟨Nat.le_refl _, Nat.le_refl _⟩ (fun v1 => ?_)
  refine zr_istore (pc := 5) (lo2 := [(5, .int v1), (0, .ref (zq_ad G 69)), (1, .int a1), (2, .int a2), (3, .int a3), (4, .int a4)]) (zq_d eX11_addFrom 3 rfl) (Nat.le_of_ble_eq_true rfl) rfl ?_
  refine zr_iload (pc := 7) (zq_d eX11_addFrom 4 rfl) 0 rfl ?_
  refine zr_if_ne (pc := 9) 37 (zq_d eX11_addFrom 5 rfl) (by decide) (fun _ => ?_) (fun _ => ?_)
  · refine zr_aload_n (pc := 37) (zq_d eX11_addFrom 20 rfl) 1 rfl rfl ?_
    refine zr_aload_n (pc := 38) (zq_d eX11_addFrom 21 rfl) 1 rfl rfl ?_
    refine zr_iload_n (pc := 39) (zq_d eX11_addFrom 22 rfl) 2 rfl rfl ?_
    refine zr_iload_n (pc := 40) (zq_d eX11_addFrom 23 rfl) 3 rfl rfl ?_
    refine zr_iload_n (pc := 41) (zq_d eX11_addFrom 24 rfl) 4 rfl rfl ?_
    refine zr_Vi (pc := 42) [_, _, _] (zq_d eX11_addFrom 25 rfl) (s_X11_speaksBehind G N z X _ _ _) zd_X11_speaksBehind zl_RX11_415 om_69 rfl rfl rfl rfl (Nat.le_of_ble_eq_true rfl) (Nat.le_of_ble_eq_true rfl) (Nat.le_of_ble_eq_true rfl) ⟨Nat.le_refl _, Nat.le_refl _⟩ (fun v2 => ?_)
    refine zr_i2l (pc := 45) (zq_d eX11_addFrom 26 rfl) ?_
    refine zr_iload (pc := 46) (zq_d eX11_addFrom 27 rfl) 5 rfl ?_
    refine zr_i2l (pc := 48) (zq_d eX11_addFrom 28 rfl) ?_
    refine zr_iload (pc := 49) (zq_d eX11_addFrom 29 rfl) 0 rfl ?_
    refine zr_i2l (pc := 51) (zq_d eX11_addFrom 30 rfl) ?_
    refine zr_lmul (pc := 52) (zq_d eX11_addFrom 31 rfl) ?_
    refine zr_Vv (pc := 53) [_, _] (zq_d eX11_addFrom 32 rfl) (s_X11_addLot G N z X _ _) zd_X11_addLot zl_RX11_411 om_69 rfl rfl rfl rfl (Nat.le_of_ble_eq_true rfl) (Nat.le_of_ble_eq_true rfl) (Nat.le_of_ble_eq_true rfl) ⟨Nat.le_refl _, Nat.le_refl _⟩ (fun X3 => ?_)
    exact zr_vreturn (pc := 56) (zq_d eX11_addFrom 33 rfl) rfl rfl (Nat.zero_le _) (Nat.zero_le _)
  · refine zr_aload_n (pc := 12) (zq_d eX11_addFrom 6 rfl) 1 rfl rfl ?_
    refine zr_aload_n (pc := 13) (zq_d eX11_addFrom 7 rfl) 1 rfl rfl ?_
    refine zr_iload_n (pc := 14) (zq_d eX11_addFrom 8 rfl) 2 rfl rfl ?_
    refine zr_iload_n (pc := 15) (zq_d eX11_addFrom 9 rfl) 3 rfl rfl ?_
    refine zr_iload_n (pc := 16) (zq_d eX11_addFrom 10 rfl) 4 rfl rfl ?_
    refine zr_Vi (pc := 17) [_, _, _] (zq_d eX11_addFrom 11 rfl) (s_X11_maySpeak G N z X _ _ _) zd_X11_maySpeak zl_RX11_256 om_69 rfl rfl rfl rfl (Nat.le_of_ble_eq_true rfl) (Nat.le_of_ble_eq_true rfl) (Nat.le_of_ble_eq_true rfl) ⟨Nat.le_refl _, Nat.le_refl _⟩ (fun v4 => ?_)
    have hj28_1 : ∀ (w5 : Int64), zq_V G YX11_addFrom (6, 0, 0) (zq_sv zq_shM z) 0 0 28 [(4, .int a4)] [.long w5, .ref (zq_ad G 69)] zq_shM z X (j_X11_addFrom_28 N X a4 w5) := by
      intro w5
      unfold j_X11_addFrom_28
      refine zr_iload (pc := 28) (zq_d eX11_addFrom 16 rfl) 0 rfl ?_
      refine zr_i2l (pc := 30) (zq_d eX11_addFrom 17 rfl) ?_
      refine zr_Vv (pc := 31) [_, _] (zq_d eX11_addFrom 18 rfl) (s_X11_addLot G N z X _ _) zd_X11_addLot zl_RX11_411 om_69 rfl rfl rfl rfl (Nat.le_of_ble_eq_true rfl) (Nat.le_of_ble_eq_true rfl) (Nat.le_of_ble_eq_true rfl) ⟨Nat.le_refl _, Nat.le_refl _⟩ (fun X6 => ?_)
      refine zr_goto (pc := 34) 56 (zq_d eX11_addFrom 19 rfl) (by decide) ?_
      exact zr_vreturn (pc := 56) (zq_d eX11_addFrom 33 rfl) rfl rfl (Nat.zero_le _) (Nat.zero_le _)
    refine zr_if_eq (pc := 20) 27 (zq_d eX11_addFrom 12 rfl) (by decide) (fun _ => ?_) (fun _ => ?_)
    · refine zr_lconst (pc := 27) (v := 0) (zq_d eX11_addFrom 15 rfl) rfl ?_
      exact zr_lo [5] rfl (hj28_1 (0 : Int64))
    · refine zr_lconst (pc := 23) (v := 1) (zq_d eX11_addFrom 13 rfl) rfl ?_
      refine zr_goto (pc := 24) 28 (zq_d eX11_addFrom 14 rfl) (by decide) ?_
      exact zr_lo [5] rfl (hj28_1 (1 : Int64))
def j_X11_layLot_49 (N : Nat) (X2 : zq_M) (w5 : Int64) : Option zq_M :=
  (f_X11_addLot N X2 w5 (1 : Int64)).bind (fun X6 => some X6)
def j_X11_layLot_27 (N : Nat) (a1 : Int32) (X2 : zq_M)  : Option zq_M :=
  (f_X11_maySpeak N X2 (X2.1 69 1) a1 (X2.1 69 2)).bind (fun v4 => if v4 = 0 then (j_X11_layLot_49 N X2 (0 : Int64)) else (j_X11_layLot_49 N X2 (1 : Int64)))
def b_X11_layLot_89 (N : Nat) (a1 : Int32) (v3 : Int32) (v7 : Int32) (rc77_3 : Int32 → zq_M → Option zq_M) (rc89_4 : Int32 → zq_M → Option zq_M) (v9 : Int32) (X10 : zq_M) : Option zq_M :=
  if (4 : Int32) ≤ v9 then (rc77_3 (v7 + (1 : Int32)) X10) else ((f_X11_mayCome N X10 (X10.1 69 1) v7 v9).bind (fun v11 => if v11 = 0 then (rc89_4 (v9 + (1 : Int32)) X10) else ((f_X11_moved N X10 (X10.1 69 1) v7 v9).bind (fun v12 => (f_X11_addFrom N X10 v12 a1 ((X10.1 69 2) + (1 : Int32)) v3).bind (fun X13 => rc89_4 (v9 + (1 : Int32)) X13)))))
def b_X11_layLot_77 (N : Nat) (a1 : Int32) (v3 : Int32) (rc77_3 : Int32 → zq_M → Option zq_M) (v7 : Int32) (X8 : zq_M) : Option zq_M :=
  if (X8.1 69 0) ≤ v7 then (some X8) else (zq_loop (fun _ _ => none) (b_X11_layLot_89 N a1 v3 v7 rc77_3) N (0 : Int32) X8)
def f_X11_layLot (N : Nat) (X : zq_M) (a1 : Int32) (a2 : Int32) : Option zq_M :=
  zq_b (zq_u2 X 69 40 (0 : Int64)) (fun X1 => zq_b (zq_u2 X1 69 41 (1 : Int64)) (fun X2 => (f_X11_waysFrom N X2 (X2.1 69 1)).bind (fun v3 => if a2 = 0 then (j_X11_layLot_27 N a1 X2) else (if ¬ v3 = 0 then (if ¬ a2 = (1 : Int32) then (zq_loop (fun _ _ => none) (b_X11_layLot_77 N a1 v3) N (0 : Int32) X2) else ((f_X11_addFrom N X2 (X2.1 69 1) a1 (X2.1 69 2) (1 : Int32)).bind (fun X14 => some X14))) else (j_X11_layLot_27 N a1 X2)))))
set_option maxRecDepth 20000 in
set_option maxHeartbeats 8000000 in
theorem s_X11_layLot (G : zq_G) (N z : Nat) (X : zq_M) (a1 : Int32) (a2 : Int32) : zq_V G YX11_layLot (7, 0, 0) (zq_sv zq_shM z) 0 0 0 (lv_args 0 [.ref (zq_ad G 69), .int a1, .int a2]) [] zq_shM z X (f_X11_layLot N X a1 a2) := by
  unfold f_X11_layLot
  refine zr_lo (l2 := [(0, .ref (zq_ad G 69)), (1, .int a1), (2, .int a2)]) [0, 1, 2] rfl ?_
  refine zr_aload_n (pc := 0) (zq_d eX11_layLot 0 rfl) 0 rfl rfl ?_
  refine zr_lconst (pc := 1) (v := 0) (zq_d eX11_layLot 1 rfl) rfl ?_
  refine zr_putL (pc := 2) (zq_d eX11_layLot 2 rfl) zf_RX11_133 km_69_40 zn_11_40 (fun X1 => ?_)
  refine zr_aload_n (pc := 5) (zq_d eX11_layLot 3 rfl) 0 rfl rfl ?_
  refine zr_lconst (pc := 6) (v := 1) (zq_d eX11_layLot 4 rfl) rfl ?_
  refine zr_putL (pc := 7) (zq_d eX11_layLot 5 rfl) zf_RX11_137 km_69_41 zn_11_41 (fun X2 => ?_)
  refine zr_aload_n (pc := 10) (zq_d eX11_layLot 6 rfl) 0 rfl rfl ?_
  refine zr_aload_n (pc := 11) (zq_d eX11_layLot 7 rfl) 0 rfl rfl ?_
  refine zr_getI (pc := 12) (zq_d eX11_layLot 8 rfl) zf_RX11_13 km_69_1 ?_
  refine zr_Vi (pc := 15) [_] (zq_d eX11_layLot 9 rfl) (s_X11_waysFrom G N z X2 _) zd_X11_waysFrom zl_RX11_408 om_69 rfl rfl rfl rfl (Nat.le_of_ble_eq_true rfl) (Nat.le_of_ble_eq_true rfl) (Nat.le_of_ble_eq_true rfl) ⟨Nat.le_refl _, Nat.le_refl _⟩ (fun v3 => ?_)
  refine zr_istore_n (pc := 18) (lo2 := [(3, .int v3), (0, .ref (zq_ad G 69)), (1, .int a1), (2, .int a2)]) (zq_d eX11_layLot 10 rfl) rfl (Nat.le_of_ble_eq_true rfl) rfl ?_
  refine zr_iload_n (pc := 19) (zq_d eX11_layLot 11 rfl) 3 rfl rfl ?_
  have hj27_2 : zq_V G YX11_layLot (7, 0, 0) (zq_sv zq_shM z) 0 0 27 [(0, .ref (zq_ad G 69)), (1, .int a1)] [] zq_shM z X2 (j_X11_layLot_27 N a1 X2) := by
    unfold j_X11_layLot_27
    refine zr_aload_n (pc := 27) (zq_d eX11_layLot 15 rfl) 0 rfl rfl ?_
    refine zr_aload_n (pc := 28) (zq_d eX11_layLot 16 rfl) 0 rfl rfl ?_
    refine zr_aload_n (pc := 29) (zq_d eX11_layLot 17 rfl) 0 rfl rfl ?_
    refine zr_getI (pc := 30) (zq_d eX11_layLot 18 rfl) zf_RX11_13 km_69_1 ?_
    refine zr_iload_n (pc := 33) (zq_d eX11_layLot 19 rfl) 1 rfl rfl ?_
    refine zr_aload_n (pc := 34) (zq_d eX11_layLot 20 rfl) 0 rfl rfl ?_
    refine zr_getI (pc := 35) (zq_d eX11_layLot 21 rfl) zf_RX11_16 km_69_2 ?_
    refine zr_Vi (pc := 38) [_, _, _] (zq_d eX11_layLot 22 rfl) (s_X11_maySpeak G N z X2 _ _ _) zd_X11_maySpeak zl_RX11_256 om_69 rfl rfl rfl rfl (Nat.le_of_ble_eq_true rfl) (Nat.le_of_ble_eq_true rfl) (Nat.le_of_ble_eq_true rfl) ⟨Nat.le_refl _, Nat.le_refl _⟩ (fun v4 => ?_)
    have hj49_1 : ∀ (w5 : Int64), zq_V G YX11_layLot (7, 0, 0) (zq_sv zq_shM z) 0 0 49 [] [.long w5, .ref (zq_ad G 69)] zq_shM z X2 (j_X11_layLot_49 N X2 w5) := by
      intro w5
      unfold j_X11_layLot_49
      refine zr_lconst (pc := 49) (v := 1) (zq_d eX11_layLot 27 rfl) rfl ?_
      refine zr_Vv (pc := 50) [_, _] (zq_d eX11_layLot 28 rfl) (s_X11_addLot G N z X2 _ _) zd_X11_addLot zl_RX11_411 om_69 rfl rfl rfl rfl (Nat.le_of_ble_eq_true rfl) (Nat.le_of_ble_eq_true rfl) (Nat.le_of_ble_eq_true rfl) ⟨Nat.le_refl _, Nat.le_refl _⟩ (fun X6 => ?_)
      exact zr_vreturn (pc := 53) (zq_d eX11_layLot 29 rfl) rfl rfl (Nat.zero_le _) (Nat.zero_le _)
    refine zr_if_eq (pc := 41) 48 (zq_d eX11_layLot 23 rfl) (by decide) (fun _ => ?_) (fun _ => ?_)
    · refine zr_lconst (pc := 48) (v := 0) (zq_d eX11_layLot 26 rfl) rfl ?_
      exact zr_lo [] rfl (hj49_1 (0 : Int64))
    · refine zr_lconst (pc := 44) (v := 1) (zq_d eX11_layLot 24 rfl) rfl ?_
      refine zr_goto (pc := 45) 49 (zq_d eX11_layLot 25 rfl) (by decide) ?_
      exact zr_lo [] rfl (hj49_1 (1 : Int64))
  refine zr_if_eq (pc := 20) 27 (zq_d eX11_layLot 12 rfl) (by decide) (fun _ => ?_) (fun _ => ?_)
  · exact zr_lo [1, 2] rfl (hj27_2)
  · refine zr_iload_n (pc := 23) (zq_d eX11_layLot 13 rfl) 0 rfl rfl ?_
    refine zr_if_ne (pc := 24) 54 (zq_d eX11_layLot 14 rfl) (by decide) (fun _ => ?_) (fun _ => ?_)
    · refine zr_iload_n (pc := 54) (zq_d eX11_layLot 30 rfl) 3 rfl rfl ?_
      refine zr_iconst (pc := 55) (zq_d eX11_layLot 31 rfl) zc_i1 ?_
      refine zr_icmp_ne (pc := 56) 74 (zq_d eX11_layLot 32 rfl) (by decide) (fun _ => ?_) (fun _ => ?_)
      · refine zr_iconst (pc := 74) (zq_d eX11_layLot 42 rfl) zc_i0 ?_
        refine zr_istore (pc := 75) (lo2 := [(4, .int (0 : Int32)), (3, .int v3), (0, .ref (zq_ad G 69)), (1, .int a1), (2, .int a2)]) (zq_d eX11_layLot 43 rfl) (Nat.le_of_ble_eq_true rfl) rfl ?_
        have hbrc77_3 : ∀ rc77_3 : Int32 → zq_M → Option zq_M, (∀ (v7 : Int32) (X8 : zq_M), zq_V G YX11_layLot (7, 0, 0) (zq_sv zq_shM z) 0 0 77 [(0, .ref (zq_ad G 69)), (1, .int a1), (3, .int v3), (4, .int v7)] [] zq_shM z X8 (rc77_3 v7 X8)) → ∀ (v7 : Int32) (X8 : zq_M), zq_V G YX11_layLot (7, 0, 0) (zq_sv zq_shM z) 0 0 77 [(0, .ref (zq_ad G 69)), (1, .int a1), (3, .int v3), (4, .int v7)] [] zq_shM z X8 (b_X11_layLot_77 N a1 v3 rc77_3 v7 X8) := by
          intro rc77_3 hrc77_3 v7 X8
          unfold b_X11_layLot_77
          refine zr_iload (pc := 77) (zq_d eX11_layLot 44 rfl) 3 rfl ?_
          refine zr_aload_n (pc := 79) (zq_d eX11_layLot 45 rfl) 0 rfl rfl ?_
          refine zr_getI (pc := 80) (zq_d eX11_layLot 46 rfl) zf_RX11_7 km_69_0 ?_
          refine zr_icmp_ge (pc := 83) 146 (zq_d eX11_layLot 47 rfl) (by decide) (fun _ => ?_) (fun _ => ?_)
          · exact zr_vreturn (pc := 146) (zq_d eX11_layLot 78 rfl) rfl rfl (Nat.zero_le _) (Nat.zero_le _)
          · refine zr_iconst (pc := 86) (zq_d eX11_layLot 48 rfl) zc_i0 ?_
            refine zr_istore (pc := 87) (lo2 := [(5, .int (0 : Int32)), (0, .ref (zq_ad G 69)), (1, .int a1), (3, .int v3), (4, .int v7)]) (zq_d eX11_layLot 49 rfl) (Nat.le_of_ble_eq_true rfl) rfl ?_
            have hbrc89_4 : ∀ rc89_4 : Int32 → zq_M → Option zq_M, (∀ (v9 : Int32) (X10 : zq_M), zq_V G YX11_layLot (7, 0, 0) (zq_sv zq_shM z) 0 0 89 [(0, .ref (zq_ad G 69)), (1, .int a1), (3, .int v3), (4, .int v7), (5, .int v9)] [] zq_shM z X10 (rc89_4 v9 X10)) → ∀ (v9 : Int32) (X10 : zq_M), zq_V G YX11_layLot (7, 0, 0) (zq_sv zq_shM z) 0 0 89 [(0, .ref (zq_ad G 69)), (1, .int a1), (3, .int v3), (4, .int v7), (5, .int v9)] [] zq_shM z X10 (b_X11_layLot_89 N a1 v3 v7 rc77_3 rc89_4 v9 X10) := by
              intro rc89_4 hrc89_4 v9 X10
              unfold b_X11_layLot_89
              refine zr_iload (pc := 89) (zq_d eX11_layLot 50 rfl) 4 rfl ?_
              refine zr_iconst (pc := 91) (zq_d eX11_layLot 51 rfl) zc_i4 ?_
              refine zr_icmp_ge (pc := 92) 140 (zq_d eX11_layLot 52 rfl) (by decide) (fun _ => ?_) (fun _ => ?_)
              · refine zr_iinc (pc := 140) (j := 3) (v := (v7 + (1 : Int32))) (lo2 := [(4, .int (v7 + (1 : Int32))), (0, .ref (zq_ad G 69)), (1, .int a1), (3, .int v3), (5, .int v9)]) (zq_d eX11_layLot 76 rfl) rfl (by rw [zc_i1]) (Nat.le_of_ble_eq_true rfl) rfl ?_
                refine zr_goto (pc := 143) 77 (zq_d eX11_layLot 77 rfl) (by decide) ?_
                exact zr_lo [1, 2, 3, 0] rfl (hrc77_3 (v7 + (1 : Int32)) X10)
              · refine zr_aload_n (pc := 95) (zq_d eX11_layLot 53 rfl) 0 rfl rfl ?_
                refine zr_aload_n (pc := 96) (zq_d eX11_layLot 54 rfl) 0 rfl rfl ?_
                refine zr_getI (pc := 97) (zq_d eX11_layLot 55 rfl) zf_RX11_13 km_69_1 ?_
                refine zr_iload (pc := 100) (zq_d eX11_layLot 56 rfl) 3 rfl ?_
                refine zr_iload (pc := 102) (zq_d eX11_layLot 57 rfl) 4 rfl ?_
                refine zr_Vi (pc := 104) [_, _, _] (zq_d eX11_layLot 58 rfl) (s_X11_mayCome G N z X10 _ _ _) zd_X11_mayCome zl_RX11_343 om_69 rfl rfl rfl rfl (Nat.le_of_ble_eq_true rfl) (Nat.le_of_ble_eq_true rfl) (Nat.le_of_ble_eq_true rfl) ⟨Nat.le_refl _, Nat.le_refl _⟩ (fun v11 => ?_)
                refine zr_if_eq (pc := 107) 134 (zq_d eX11_layLot 59 rfl) (by decide) (fun _ => ?_) (fun _ => ?_)
                · refine zr_iinc (pc := 134) (j := 4) (v := (v9 + (1 : Int32))) (lo2 := [(5, .int (v9 + (1 : Int32))), (0, .ref (zq_ad G 69)), (1, .int a1), (3, .int v3), (4, .int v7)]) (zq_d eX11_layLot 74 rfl) rfl (by rw [zc_i1]) (Nat.le_of_ble_eq_true rfl) rfl ?_
                  refine zr_goto (pc := 137) 89 (zq_d eX11_layLot 75 rfl) (by decide) ?_
                  exact zr_lo [1, 2, 3, 4, 0] rfl (hrc89_4 (v9 + (1 : Int32)) X10)
                · refine zr_aload_n (pc := 110) (zq_d eX11_layLot 60 rfl) 0 rfl rfl ?_
                  refine zr_aload_n (pc := 111) (zq_d eX11_layLot 61 rfl) 0 rfl rfl ?_
                  refine zr_aload_n (pc := 112) (zq_d eX11_layLot 62 rfl) 0 rfl rfl ?_
                  refine zr_getI (pc := 113) (zq_d eX11_layLot 63 rfl) zf_RX11_13 km_69_1 ?_
                  refine zr_iload (pc := 116) (zq_d eX11_layLot 64 rfl) 3 rfl ?_
                  refine zr_iload (pc := 118) (zq_d eX11_layLot 65 rfl) 4 rfl ?_
                  refine zr_Vi (pc := 120) [_, _, _] (zq_d eX11_layLot 66 rfl) (s_X11_moved G N z X10 _ _ _) zd_X11_moved zl_RX11_229 om_69 rfl rfl rfl rfl (Nat.le_of_ble_eq_true rfl) (Nat.le_of_ble_eq_true rfl) (Nat.le_of_ble_eq_true rfl) ⟨Nat.le_refl _, Nat.le_refl _⟩ (fun v12 => ?_)
                  refine zr_iload_n (pc := 123) (zq_d eX11_layLot 67 rfl) 1 rfl rfl ?_
                  refine zr_aload_n (pc := 124) (zq_d eX11_layLot 68 rfl) 0 rfl rfl ?_
                  refine zr_getI (pc := 125) (zq_d eX11_layLot 69 rfl) zf_RX11_16 km_69_2 ?_
                  refine zr_iconst (pc := 128) (zq_d eX11_layLot 70 rfl) zc_i1 ?_
                  refine zr_iadd (pc := 129) (zq_d eX11_layLot 71 rfl) ?_
                  refine zr_iload_n (pc := 130) (zq_d eX11_layLot 72 rfl) 2 rfl rfl ?_
                  refine zr_Vv (pc := 131) [_, _, _, _] (zq_d eX11_layLot 73 rfl) (s_X11_addFrom G N z X10 _ _ _ _) zd_X11_addFrom zl_RX11_418 om_69 rfl rfl rfl rfl (Nat.le_of_ble_eq_true rfl) (Nat.le_of_ble_eq_true rfl) (Nat.le_of_ble_eq_true rfl) ⟨Nat.le_refl _, Nat.le_refl _⟩ (fun X13 => ?_)
                  refine zr_iinc (pc := 134) (j := 4) (v := (v9 + (1 : Int32))) (lo2 := [(5, .int (v9 + (1 : Int32))), (0, .ref (zq_ad G 69)), (1, .int a1), (3, .int v3), (4, .int v7)]) (zq_d eX11_layLot 74 rfl) rfl (by rw [zc_i1]) (Nat.le_of_ble_eq_true rfl) rfl ?_
                  refine zr_goto (pc := 137) 89 (zq_d eX11_layLot 75 rfl) (by decide) ?_
                  exact zr_lo [1, 2, 3, 4, 0] rfl (hrc89_4 (v9 + (1 : Int32)) X13)
            have hlrc89_4 := zr_loop (P := fun (rc89_4 : Int32 → zq_M → Option zq_M) => ∀ (v9 : Int32) (X10 : zq_M), zq_V G YX11_layLot (7, 0, 0) (zq_sv zq_shM z) 0 0 89 [(0, .ref (zq_ad G 69)), (1, .int a1), (3, .int v3), (4, .int v7), (5, .int v9)] [] zq_shM z X10 (rc89_4 v9 X10)) (fun _ _ => none) (b_X11_layLot_89 N a1 v3 v7 rc77_3) (fun _ _ => zr_none) hbrc89_4 N
            exact zr_lo [1, 2, 3, 4, 0] rfl (hlrc89_4 (0 : Int32) X8)
        have hlrc77_3 := zr_loop (P := fun (rc77_3 : Int32 → zq_M → Option zq_M) => ∀ (v7 : Int32) (X8 : zq_M), zq_V G YX11_layLot (7, 0, 0) (zq_sv zq_shM z) 0 0 77 [(0, .ref (zq_ad G 69)), (1, .int a1), (3, .int v3), (4, .int v7)] [] zq_shM z X8 (rc77_3 v7 X8)) (fun _ _ => none) (b_X11_layLot_77 N a1 v3) (fun _ _ => zr_none) hbrc77_3 N
        exact zr_lo [2, 3, 1, 0] rfl (hlrc77_3 (0 : Int32) X2)
      · refine zr_aload_n (pc := 59) (zq_d eX11_layLot 33 rfl) 1 rfl rfl ?_
        refine zr_aload_n (pc := 60) (zq_d eX11_layLot 34 rfl) 1 rfl rfl ?_
        refine zr_getI (pc := 61) (zq_d eX11_layLot 35 rfl) zf_RX11_13 km_69_1 ?_
        refine zr_iload_n (pc := 64) (zq_d eX11_layLot 36 rfl) 2 rfl rfl ?_
        refine zr_aload_n (pc := 65) (zq_d eX11_layLot 37 rfl) 1 rfl rfl ?_
        refine zr_getI (pc := 66) (zq_d eX11_layLot 38 rfl) zf_RX11_16 km_69_2 ?_
        refine zr_iconst (pc := 69) (zq_d eX11_layLot 39 rfl) zc_i1 ?_
        refine zr_Vv (pc := 70) [_, _, _, _] (zq_d eX11_layLot 40 rfl) (s_X11_addFrom G N z X2 _ _ _ _) zd_X11_addFrom zl_RX11_418 om_69 rfl rfl rfl rfl (Nat.le_of_ble_eq_true rfl) (Nat.le_of_ble_eq_true rfl) (Nat.le_of_ble_eq_true rfl) ⟨Nat.le_refl _, Nat.le_refl _⟩ (fun X14 => ?_)
        exact zr_vreturn (pc := 73) (zq_d eX11_layLot 41 rfl) rfl rfl (Nat.zero_le _) (Nat.zero_le _)
    · exact zr_lo [1, 2] rfl (hj27_2)
def f_X11_lot (N : Nat) (X : zq_M) (a1 : Int32) (a2 : Int32) (a3 : Int32) : Option (Int64 × zq_M) :=
  (f_X11_isPerson N X a1).bind (fun v1 => if v1 = 0 then (some ((-9223372036854775808 : Int64), X)) else ((f_X11_within N X a2 (0 : Int32) (2 : Int32)).bind (fun v2 => if v2 = 0 then (some ((-9223372036854775808 : Int64), X)) else ((f_X11_within N X a3 (0 : Int32) (1 : Int32)).bind (fun v3 => if ¬ v3 = 0 then ((f_X11_layComings N X).bind (fun X4 => (f_X11_layLot N X4 a1 a2).bind (fun X5 => if ¬ a3 = 0 then (some ((X5.2.1 69 41), X5)) else (some ((X5.2.1 69 40), X5))))) else (some ((-9223372036854775808 : Int64), X)))))))
set_option maxRecDepth 20000 in
set_option maxHeartbeats 8000000 in
theorem s_X11_lot (G : zq_G) (N z : Nat) (X : zq_M) (a1 : Int32) (a2 : Int32) (a3 : Int32) : zq_V G YX11_lot (8, 0, 0) (zq_sl zq_shM z) 0 0 0 (lv_args 0 [.ref (zq_ad G 69), .int a1, .int a2, .int a3]) [] zq_shM z X (f_X11_lot N X a1 a2 a3) := by
  unfold f_X11_lot
  refine zr_lo (l2 := [(0, .ref (zq_ad G 69)), (1, .int a1), (2, .int a2), (3, .int a3)]) [0, 1, 2, 3] rfl ?_
  refine zr_aload_n (pc := 0) (zq_d eX11_lot 0 rfl) 0 rfl rfl ?_
  refine zr_iload_n (pc := 1) (zq_d eX11_lot 1 rfl) 1 rfl rfl ?_
  refine zr_Vi (pc := 2) [_] (zq_d eX11_lot 2 rfl) (s_X11_isPerson G N z X _) zd_X11_isPerson zl_RX11_249 om_69 rfl rfl rfl rfl (Nat.le_of_ble_eq_true rfl) (Nat.le_of_ble_eq_true rfl) (Nat.le_of_ble_eq_true rfl) ⟨Nat.le_refl _, Nat.le_refl _⟩ (fun v1 => ?_)
  refine zr_if_eq (pc := 5) 28 (zq_d eX11_lot 3 rfl) (by decide) (fun _ => ?_) (fun _ => ?_)
  · refine zr_ldc2 (pc := 28) (zq_d eX11_lot 16 rfl) zk_RX11_422 ?_
    exact zr_lreturn (pc := 31) (zq_d eX11_lot 17 rfl) rfl rfl (Nat.zero_le _) (Nat.zero_le _)
  · refine zr_aload_n (pc := 8) (zq_d eX11_lot 4 rfl) 0 rfl rfl ?_
    refine zr_iload_n (pc := 9) (zq_d eX11_lot 5 rfl) 2 rfl rfl ?_
    refine zr_iconst (pc := 10) (zq_d eX11_lot 6 rfl) zc_i0 ?_
    refine zr_iconst (pc := 11) (zq_d eX11_lot 7 rfl) zc_i2 ?_
    refine zr_Vi (pc := 12) [_, _, _] (zq_d eX11_lot 8 rfl) (s_X11_within G N z X _ _ _) zd_X11_within zl_RX11_217 om_69 rfl rfl rfl rfl (Nat.le_of_ble_eq_true rfl) (Nat.le_of_ble_eq_true rfl) (Nat.le_of_ble_eq_true rfl) ⟨Nat.le_refl _, Nat.le_refl _⟩ (fun v2 => ?_)
    refine zr_if_eq (pc := 15) 28 (zq_d eX11_lot 9 rfl) (by decide) (fun _ => ?_) (fun _ => ?_)
    · refine zr_ldc2 (pc := 28) (zq_d eX11_lot 16 rfl) zk_RX11_422 ?_
      exact zr_lreturn (pc := 31) (zq_d eX11_lot 17 rfl) rfl rfl (Nat.zero_le _) (Nat.zero_le _)
    · refine zr_aload_n (pc := 18) (zq_d eX11_lot 10 rfl) 0 rfl rfl ?_
      refine zr_iload_n (pc := 19) (zq_d eX11_lot 11 rfl) 3 rfl rfl ?_
      refine zr_iconst (pc := 20) (zq_d eX11_lot 12 rfl) zc_i0 ?_
      refine zr_iconst (pc := 21) (zq_d eX11_lot 13 rfl) zc_i1 ?_
      refine zr_Vi (pc := 22) [_, _, _] (zq_d eX11_lot 14 rfl) (s_X11_within G N z X _ _ _) zd_X11_within zl_RX11_217 om_69 rfl rfl rfl rfl (Nat.le_of_ble_eq_true rfl) (Nat.le_of_ble_eq_true rfl) (Nat.le_of_ble_eq_true rfl) ⟨Nat.le_refl _, Nat.le_refl _⟩ (fun v3 => ?_)
      refine zr_if_ne (pc := 25) 32 (zq_d eX11_lot 15 rfl) (by decide) (fun _ => ?_) (fun _ => ?_)
      · refine zr_aload_n (pc := 32) (zq_d eX11_lot 18 rfl) 0 rfl rfl ?_
        refine zr_Vv (pc := 33) [] (zq_d eX11_lot 19 rfl) (s_X11_layComings G N z X ) zd_X11_layComings zl_RX11_355 om_69 rfl rfl rfl rfl (Nat.le_of_ble_eq_true rfl) (Nat.le_of_ble_eq_true rfl) (Nat.le_of_ble_eq_true rfl) ⟨Nat.le_refl _, Nat.le_refl _⟩ (fun X4 => ?_)
        refine zr_aload_n (pc := 36) (zq_d eX11_lot 20 rfl) 0 rfl rfl ?_
        refine zr_iload_n (pc := 37) (zq_d eX11_lot 21 rfl) 1 rfl rfl ?_
        refine zr_iload_n (pc := 38) (zq_d eX11_lot 22 rfl) 2 rfl rfl ?_
        refine zr_Vv (pc := 39) [_, _] (zq_d eX11_lot 23 rfl) (s_X11_layLot G N z X4 _ _) zd_X11_layLot zl_RX11_424 om_69 rfl rfl rfl rfl (Nat.le_of_ble_eq_true rfl) (Nat.le_of_ble_eq_true rfl) (Nat.le_of_ble_eq_true rfl) ⟨Nat.le_refl _, Nat.le_refl _⟩ (fun X5 => ?_)
        refine zr_iload_n (pc := 42) (zq_d eX11_lot 24 rfl) 3 rfl rfl ?_
        refine zr_if_ne (pc := 43) 53 (zq_d eX11_lot 25 rfl) (by decide) (fun _ => ?_) (fun _ => ?_)
        · refine zr_aload_n (pc := 53) (zq_d eX11_lot 29 rfl) 0 rfl rfl ?_
          refine zr_getL (pc := 54) (zq_d eX11_lot 30 rfl) zf_RX11_137 km_69_41 ?_
          exact zr_lreturn (pc := 57) (zq_d eX11_lot 31 rfl) rfl rfl (Nat.zero_le _) (Nat.zero_le _)
        · refine zr_aload_n (pc := 46) (zq_d eX11_lot 26 rfl) 0 rfl rfl ?_
          refine zr_getL (pc := 47) (zq_d eX11_lot 27 rfl) zf_RX11_133 km_69_40 ?_
          refine zr_goto (pc := 50) 57 (zq_d eX11_lot 28 rfl) (by decide) ?_
          exact zr_lreturn (pc := 57) (zq_d eX11_lot 31 rfl) rfl rfl (Nat.zero_le _) (Nat.zero_le _)
      · refine zr_ldc2 (pc := 28) (zq_d eX11_lot 16 rfl) zk_RX11_422 ?_
        exact zr_lreturn (pc := 31) (zq_d eX11_lot 17 rfl) rfl rfl (Nat.zero_le _) (Nat.zero_le _)
def f_X11_book (N : Nat) (X : zq_M) (a1 : Int32) : Option (Int32 × zq_M) :=
  if ¬ a1 = (-1 : Int32) then ((f_X11_within N X a1 (0 : Int32) (49 : Int32)).bind (fun v1 => if v1 = 0 then (some ((-1 : Int32), X)) else ((f_X11_isThing N X (zq_irem a1 (10 : Int32))).bind (fun v2 => if ¬ v2 = 0 then (if ¬ (X.1 69 42) = (12 : Int32) then (zq_ck (X.1 69 42) 12 (zq_b (zq_u1 X 96 (zq_ix (X.1 69 42)) a1) (fun X3 => zq_b (zq_u1 X3 69 42 ((X3.1 69 42) + (1 : Int32))) (fun X4 => some ((X4.1 69 42), X4))))) else (some ((-4 : Int32), X))) else (some ((-1 : Int32), X)))))) else (zq_b (zq_u1 X 69 42 (0 : Int32)) (fun X5 => some ((0 : Int32), X5)))
set_option maxRecDepth 20000 in
set_option maxHeartbeats 8000000 in
theorem s_X11_book (G : zq_G) (N z : Nat) (X : zq_M) (a1 : Int32) : zq_V G YX11_book (3, 0, 0) (zq_si zq_shM z) 0 0 0 (lv_args 0 [.ref (zq_ad G 69), .int a1]) [] zq_shM z X (f_X11_book N X a1) := by
  unfold f_X11_book
  refine zr_lo (l2 := [(0, .ref (zq_ad G 69)), (1, .int a1)]) [0, 1] rfl ?_
  refine zr_iload_n (pc := 0) (zq_d eX11_book 0 rfl) 1 rfl rfl ?_
  refine zr_iconst (pc := 1) (zq_d eX11_book 1 rfl) zc_im1 ?_
  refine zr_icmp_ne (pc := 2) 12 (zq_d eX11_book 2 rfl) (by decide) (fun _ => ?_) (fun _ => ?_)
  · refine zr_aload_n (pc := 12) (zq_d eX11_book 8 rfl) 0 rfl rfl ?_
    refine zr_iload_n (pc := 13) (zq_d eX11_book 9 rfl) 1 rfl rfl ?_
    refine zr_iconst (pc := 14) (zq_d eX11_book 10 rfl) zc_i0 ?_
    refine zr_bipush (pc := 15) (zq_d eX11_book 11 rfl) zc_b49 ?_
    refine zr_Vi (pc := 17) [_, _, _] (zq_d eX11_book 12 rfl) (s_X11_within G N z X _ _ _) zd_X11_within zl_RX11_217 om_69 rfl rfl rfl rfl (Nat.le_of_ble_eq_true rfl) (Nat.le_of_ble_eq_true rfl) (Nat.le_of_ble_eq_true rfl) ⟨Nat.le_refl _, Nat.le_refl _⟩ (fun v1 => ?_)
    refine zr_if_eq (pc := 20) 34 (zq_d eX11_book 13 rfl) (by decide) (fun _ => ?_) (fun _ => ?_)
    · refine zr_iconst (pc := 34) (zq_d eX11_book 20 rfl) zc_im1 ?_
      exact zr_ireturn (pc := 35) (zq_d eX11_book 21 rfl) rfl rfl (Nat.zero_le _) (Nat.zero_le _)
    · refine zr_aload_n (pc := 23) (zq_d eX11_book 14 rfl) 0 rfl rfl ?_
      refine zr_iload_n (pc := 24) (zq_d eX11_book 15 rfl) 1 rfl rfl ?_
      refine zr_bipush (pc := 25) (zq_d eX11_book 16 rfl) zc_b10 ?_
      refine zr_iremk (pc := 27) (zq_d eX11_book 17 rfl) (by decide) ?_
      refine zr_Vi (pc := 28) [_] (zq_d eX11_book 18 rfl) (s_X11_isThing G N z X _) zd_X11_isThing zl_RX11_334 om_69 rfl rfl rfl rfl (Nat.le_of_ble_eq_true rfl) (Nat.le_of_ble_eq_true rfl) (Nat.le_of_ble_eq_true rfl) ⟨Nat.le_refl _, Nat.le_refl _⟩ (fun v2 => ?_)
      refine zr_if_ne (pc := 31) 36 (zq_d eX11_book 19 rfl) (by decide) (fun _ => ?_) (fun _ => ?_)
      · refine zr_aload_n (pc := 36) (zq_d eX11_book 22 rfl) 0 rfl rfl ?_
        refine zr_getI (pc := 37) (zq_d eX11_book 23 rfl) zf_RX11_140 km_69_42 ?_
        refine zr_bipush (pc := 40) (zq_d eX11_book 24 rfl) zc_b12 ?_
        refine zr_icmp_ne (pc := 42) 48 (zq_d eX11_book 25 rfl) (by decide) (fun _ => ?_) (fun _ => ?_)
        · refine zr_aload_n (pc := 48) (zq_d eX11_book 28 rfl) 0 rfl rfl ?_
          refine zr_getC (pc := 49) (zq_d eX11_book 29 rfl) zf_RX11_143 km_69_43 ?_
          refine zr_aload_n (pc := 52) (zq_d eX11_book 30 rfl) 0 rfl rfl ?_
          refine zr_getI (pc := 53) (zq_d eX11_book 31 rfl) zf_RX11_140 km_69_42 ?_
          refine zr_iload_n (pc := 56) (zq_d eX11_book 32 rfl) 1 rfl rfl ?_
          refine zr_iast (pc := 57) (zq_d eX11_book 33 rfl) am_96 (fun X3 => ?_)
          refine zr_aload_n (pc := 58) (zq_d eX11_book 34 rfl) 0 rfl rfl ?_
          refine zr_dup (pc := 59) (zq_d eX11_book 35 rfl) rfl ?_
          refine zr_getI (pc := 60) (zq_d eX11_book 36 rfl) zf_RX11_140 km_69_42 ?_
          refine zr_iconst (pc := 63) (zq_d eX11_book 37 rfl) zc_i1 ?_
          refine zr_iadd (pc := 64) (zq_d eX11_book 38 rfl) ?_
          refine zr_putI (pc := 65) (zq_d eX11_book 39 rfl) zf_RX11_140 km_69_42 zn_11_42 (fun X4 => ?_)
          refine zr_aload_n (pc := 68) (zq_d eX11_book 40 rfl) 0 rfl rfl ?_
          refine zr_getI (pc := 69) (zq_d eX11_book 41 rfl) zf_RX11_140 km_69_42 ?_
          exact zr_ireturn (pc := 72) (zq_d eX11_book 42 rfl) rfl rfl (Nat.zero_le _) (Nat.zero_le _)
        · refine zr_bipush (pc := 45) (zq_d eX11_book 26 rfl) zc_bm4 ?_
          exact zr_ireturn (pc := 47) (zq_d eX11_book 27 rfl) rfl rfl (Nat.zero_le _) (Nat.zero_le _)
      · refine zr_iconst (pc := 34) (zq_d eX11_book 20 rfl) zc_im1 ?_
        exact zr_ireturn (pc := 35) (zq_d eX11_book 21 rfl) rfl rfl (Nat.zero_le _) (Nat.zero_le _)
  · refine zr_aload_n (pc := 5) (zq_d eX11_book 3 rfl) 0 rfl rfl ?_
    refine zr_iconst (pc := 6) (zq_d eX11_book 4 rfl) zc_i0 ?_
    refine zr_putI (pc := 7) (zq_d eX11_book 5 rfl) zf_RX11_140 km_69_42 zn_11_42 (fun X5 => ?_)
    refine zr_iconst (pc := 10) (zq_d eX11_book 6 rfl) zc_i0 ?_
    exact zr_ireturn (pc := 11) (zq_d eX11_book 7 rfl) rfl rfl (Nat.zero_le _) (Nat.zero_le _)
def b_X11_readBook_144 (v5 : Int32) (rc144_3 : Int32 → zq_M → Option (Int32 × zq_M)) (v7 : Int32) (X8 : zq_M) : Option (Int32 × zq_M) :=
  if (5 : Int32) ≤ v7 then (some (v5, X8)) else (zq_ck v7 5 (zq_ck v7 5 (zq_b (zq_u1 X8 72 (zq_ix v7) (X8.1 97 (zq_ix v7))) (fun X9 => rc144_3 (v7 + (1 : Int32)) X9))))
def j_X11_readBook_142 (N : Nat) (v5 : Int32) (X6 : zq_M)  : Option (Int32 × zq_M) :=
  zq_loop (fun _ _ => none) (b_X11_readBook_144 v5) N (0 : Int32) X6
def b_X11_readBook_35 (N : Nat) (rc35_2 : Int32 → zq_M → Option (Int32 × zq_M)) (v5 : Int32) (X6 : zq_M) : Option (Int32 × zq_M) :=
  if (X6.1 69 42) ≤ v5 then (j_X11_readBook_142 N v5 X6) else (zq_ck v5 12 ((f_X11_isPerson N X6 ((X6.1 96 (zq_ix v5)) / (10 : Int32))).bind (fun v10 => if v10 = 0 then (j_X11_readBook_142 N v5 X6) else (zq_ck v5 12 (zq_ck ((X6.1 96 (zq_ix v5)) / (10 : Int32)) 5 (zq_ck v5 12 ((f_X11_has N X6 (X6.1 72 (zq_ix ((X6.1 96 (zq_ix v5)) / (10 : Int32)))) (zq_irem (X6.1 96 (zq_ix v5)) (10 : Int32))).bind (fun v11 => if v11 = 0 then (j_X11_readBook_142 N v5 X6) else (zq_ck v5 12 ((f_X11_maySpeak N X6 (X6.1 69 1) ((X6.1 96 (zq_ix v5)) / (10 : Int32)) (X6.1 69 2)).bind (fun v12 => if v12 = 0 then (j_X11_readBook_142 N v5 X6) else (zq_ck v5 12 (zq_ck v5 12 ((f_X11_said N X6 ((X6.1 96 (zq_ix v5)) / (10 : Int32)) (zq_irem (X6.1 96 (zq_ix v5)) (10 : Int32))).bind (zq_p (fun v13 X14 => rc35_2 (v5 + (1 : Int32)) X14))))))))))))))))
def k_X11_readBook_33_5 (N : Nat) (X4 : zq_M)  : Option (Int32 × zq_M) :=
  zq_loop (fun _ _ => none) (b_X11_readBook_35 N) N (0 : Int32) X4
def b_X11_readBook_10 (N : Nat) (rc10_1 : Int32 → zq_M → Option (Int32 × zq_M)) (v3 : Int32) (X4 : zq_M) : Option (Int32 × zq_M) :=
  if (5 : Int32) ≤ v3 then (k_X11_readBook_33_5 N X4) else (zq_ck v3 5 (zq_ck v3 5 (zq_b (zq_u1 X4 97 (zq_ix v3) (X4.1 72 (zq_ix v3))) (fun X15 => rc10_1 (v3 + (1 : Int32)) X15))))
def f_X11_readBook (N : Nat) (X : zq_M)  : Option (Int32 × zq_M) :=
  (f_X11_sameNow N X).bind (fun v1 => zq_b (zq_u1 X 69 9 v1) (fun X2 => zq_loop (fun _ _ => none) (b_X11_readBook_10 N) N (0 : Int32) X2))
set_option maxRecDepth 20000 in
set_option maxHeartbeats 8000000 in
theorem s_X11_readBook (G : zq_G) (N z : Nat) (X : zq_M)  : zq_V G YX11_readBook (5, 0, 0) (zq_si zq_shM z) 0 0 0 (lv_args 0 [.ref (zq_ad G 69)]) [] zq_shM z X (f_X11_readBook N X ) := by
  unfold f_X11_readBook
  refine zr_lo (l2 := [(0, .ref (zq_ad G 69))]) [0] rfl ?_
  refine zr_aload_n (pc := 0) (zq_d eX11_readBook 0 rfl) 0 rfl rfl ?_
  refine zr_aload_n (pc := 1) (zq_d eX11_readBook 1 rfl) 0 rfl rfl ?_
  refine zr_Vi (pc := 2) [] (zq_d eX11_readBook 2 rfl) (s_X11_sameNow G N z X ) zd_X11_sameNow zl_RX11_252 om_69 rfl rfl rfl rfl (Nat.le_of_ble_eq_true rfl) (Nat.le_of_ble_eq_true rfl) (Nat.le_of_ble_eq_true rfl) ⟨Nat.le_refl _, Nat.le_refl _⟩ (fun v1 => ?_)
  refine zr_putI (pc := 5) (zq_d eX11_readBook 3 rfl) zf_RX11_38 km_69_9 zn_11_9 (fun X2 => ?_)
  refine zr_iconst (pc := 8) (zq_d eX11_readBook 4 rfl) zc_i0 ?_
  refine zr_istore_n (pc := 9) (lo2 := [(1, .int (0 : Int32)), (0, .ref (zq_ad G 69))]) (zq_d eX11_readBook 5 rfl) rfl (Nat.le_of_ble_eq_true rfl) rfl ?_
  have hbrc10_1 : ∀ rc10_1 : Int32 → zq_M → Option (Int32 × zq_M), (∀ (v3 : Int32) (X4 : zq_M), zq_V G YX11_readBook (5, 0, 0) (zq_si zq_shM z) 0 0 10 [(0, .ref (zq_ad G 69)), (1, .int v3)] [] zq_shM z X4 (rc10_1 v3 X4)) → ∀ (v3 : Int32) (X4 : zq_M), zq_V G YX11_readBook (5, 0, 0) (zq_si zq_shM z) 0 0 10 [(0, .ref (zq_ad G 69)), (1, .int v3)] [] zq_shM z X4 (b_X11_readBook_10 N rc10_1 v3 X4) := by
    intro rc10_1 hrc10_1 v3 X4
    unfold b_X11_readBook_10
    refine zr_iload_n (pc := 10) (zq_d eX11_readBook 6 rfl) 1 rfl rfl ?_
    refine zr_iconst (pc := 11) (zq_d eX11_readBook 7 rfl) zc_i5 ?_
    refine zr_icmp_ge (pc := 12) 33 (zq_d eX11_readBook 8 rfl) (by decide) (fun _ => ?_) (fun _ => ?_)
    · unfold k_X11_readBook_33_5
      refine zr_iconst (pc := 33) (zq_d eX11_readBook 19 rfl) zc_i0 ?_
      refine zr_istore_n (pc := 34) (lo2 := [(1, .int (0 : Int32)), (0, .ref (zq_ad G 69))]) (zq_d eX11_readBook 20 rfl) rfl (Nat.le_of_ble_eq_true rfl) rfl ?_
      have hbrc35_2 : ∀ rc35_2 : Int32 → zq_M → Option (Int32 × zq_M), (∀ (v5 : Int32) (X6 : zq_M), zq_V G YX11_readBook (5, 0, 0) (zq_si zq_shM z) 0 0 35 [(0, .ref (zq_ad G 69)), (1, .int v5)] [] zq_shM z X6 (rc35_2 v5 X6)) → ∀ (v5 : Int32) (X6 : zq_M), zq_V G YX11_readBook (5, 0, 0) (zq_si zq_shM z) 0 0 35 [(0, .ref (zq_ad G 69)), (1, .int v5)] [] zq_shM z X6 (b_X11_readBook_35 N rc35_2 v5 X6) := by
        intro rc35_2 hrc35_2 v5 X6
        unfold b_X11_readBook_35
        refine zr_iload_n (pc := 35) (zq_d eX11_readBook 21 rfl) 1 rfl rfl ?_
        refine zr_aload_n (pc := 36) (zq_d eX11_readBook 22 rfl) 0 rfl rfl ?_
        refine zr_getI (pc := 37) (zq_d eX11_readBook 23 rfl) zf_RX11_140 km_69_42 ?_
        have hj142_4 : zq_V G YX11_readBook (5, 0, 0) (zq_si zq_shM z) 0 0 142 [(0, .ref (zq_ad G 69)), (1, .int v5)] [] zq_shM z X6 (j_X11_readBook_142 N v5 X6) := by
          unfold j_X11_readBook_142
          refine zr_iconst (pc := 142) (zq_d eX11_readBook 82 rfl) zc_i0 ?_
          refine zr_istore_n (pc := 143) (lo2 := [(2, .int (0 : Int32)), (0, .ref (zq_ad G 69)), (1, .int v5)]) (zq_d eX11_readBook 83 rfl) rfl (Nat.le_of_ble_eq_true rfl) rfl ?_
          have hbrc144_3 : ∀ rc144_3 : Int32 → zq_M → Option (Int32 × zq_M), (∀ (v7 : Int32) (X8 : zq_M), zq_V G YX11_readBook (5, 0, 0) (zq_si zq_shM z) 0 0 144 [(0, .ref (zq_ad G 69)), (1, .int v5), (2, .int v7)] [] zq_shM z X8 (rc144_3 v7 X8)) → ∀ (v7 : Int32) (X8 : zq_M), zq_V G YX11_readBook (5, 0, 0) (zq_si zq_shM z) 0 0 144 [(0, .ref (zq_ad G 69)), (1, .int v5), (2, .int v7)] [] zq_shM z X8 (b_X11_readBook_144 v5 rc144_3 v7 X8) := by
            intro rc144_3 hrc144_3 v7 X8
            unfold b_X11_readBook_144
            refine zr_iload_n (pc := 144) (zq_d eX11_readBook 84 rfl) 2 rfl rfl ?_
            refine zr_iconst (pc := 145) (zq_d eX11_readBook 85 rfl) zc_i5 ?_
            refine zr_icmp_ge (pc := 146) 167 (zq_d eX11_readBook 86 rfl) (by decide) (fun _ => ?_) (fun _ => ?_)
            · refine zr_iload_n (pc := 167) (zq_d eX11_readBook 97 rfl) 1 rfl rfl ?_
              exact zr_ireturn (pc := 168) (zq_d eX11_readBook 98 rfl) rfl rfl (Nat.zero_le _) (Nat.zero_le _)
            · refine zr_aload_n (pc := 149) (zq_d eX11_readBook 87 rfl) 0 rfl rfl ?_
              refine zr_getC (pc := 150) (zq_d eX11_readBook 88 rfl) zf_RX11_29 km_69_6 ?_
              refine zr_iload_n (pc := 153) (zq_d eX11_readBook 89 rfl) 2 rfl rfl ?_
              refine zr_aload_n (pc := 154) (zq_d eX11_readBook 90 rfl) 0 rfl rfl ?_
              refine zr_getC (pc := 155) (zq_d eX11_readBook 91 rfl) zf_RX11_146 km_69_44 ?_
              refine zr_iload_n (pc := 158) (zq_d eX11_readBook 92 rfl) 2 rfl rfl ?_
              refine zr_iald (pc := 159) (zq_d eX11_readBook 93 rfl) am_97 ?_
              refine zr_iast (pc := 160) (zq_d eX11_readBook 94 rfl) am_72 (fun X9 => ?_)
              refine zr_iinc (pc := 161) (j := 2) (v := (v7 + (1 : Int32))) (lo2 := [(2, .int (v7 + (1 : Int32))), (0, .ref (zq_ad G 69)), (1, .int v5)]) (zq_d eX11_readBook 95 rfl) rfl (by rw [zc_i1]) (Nat.le_of_ble_eq_true rfl) rfl ?_
              refine zr_goto (pc := 164) 144 (zq_d eX11_readBook 96 rfl) (by decide) ?_
              exact zr_lo [1, 2, 0] rfl (hrc144_3 (v7 + (1 : Int32)) X9)
          have hlrc144_3 := zr_loop (P := fun (rc144_3 : Int32 → zq_M → Option (Int32 × zq_M)) => ∀ (v7 : Int32) (X8 : zq_M), zq_V G YX11_readBook (5, 0, 0) (zq_si zq_shM z) 0 0 144 [(0, .ref (zq_ad G 69)), (1, .int v5), (2, .int v7)] [] zq_shM z X8 (rc144_3 v7 X8)) (fun _ _ => none) (b_X11_readBook_144 v5) (fun _ _ => zr_none) hbrc144_3 N
          exact zr_lo [1, 2, 0] rfl (hlrc144_3 (0 : Int32) X6)
        refine zr_icmp_ge (pc := 40) 142 (zq_d eX11_readBook 24 rfl) (by decide) (fun _ => ?_) (fun _ => ?_)
        · exact zr_lo [0, 1] rfl (hj142_4)
        · refine zr_aload_n (pc := 43) (zq_d eX11_readBook 25 rfl) 0 rfl rfl ?_
          refine zr_aload_n (pc := 44) (zq_d eX11_readBook 26 rfl) 0 rfl rfl ?_
          refine zr_getC (pc := 45) (zq_d eX11_readBook 27 rfl) zf_RX11_143 km_69_43 ?_
          refine zr_iload_n (pc := 48) (zq_d eX11_readBook 28 rfl) 1 rfl rfl ?_
          refine zr_iald (pc := 49) (zq_d eX11_readBook 29 rfl) am_96 ?_
          refine zr_bipush (pc := 50) (zq_d eX11_readBook 30 rfl) zc_b10 ?_
          refine zr_idivk (pc := 52) (zq_d eX11_readBook 31 rfl) (by decide) ?_
          refine zr_Vi (pc := 53) [_] (zq_d eX11_readBook 32 rfl) (s_X11_isPerson G N z X6 _) zd_X11_isPerson zl_RX11_249 om_69 rfl rfl rfl rfl (Nat.le_of_ble_eq_true rfl) (Nat.le_of_ble_eq_true rfl) (Nat.le_of_ble_eq_true rfl) ⟨Nat.le_refl _, Nat.le_refl _⟩ (fun v10 => ?_)
          refine zr_if_eq (pc := 56) 142 (zq_d eX11_readBook 33 rfl) (by decide) (fun _ => ?_) (fun _ => ?_)
          · exact zr_lo [0, 1] rfl (hj142_4)
          · refine zr_aload_n (pc := 59) (zq_d eX11_readBook 34 rfl) 0 rfl rfl ?_
            refine zr_aload_n (pc := 60) (zq_d eX11_readBook 35 rfl) 0 rfl rfl ?_
            refine zr_getC (pc := 61) (zq_d eX11_readBook 36 rfl) zf_RX11_29 km_69_6 ?_
            refine zr_aload_n (pc := 64) (zq_d eX11_readBook 37 rfl) 0 rfl rfl ?_
            refine zr_getC (pc := 65) (zq_d eX11_readBook 38 rfl) zf_RX11_143 km_69_43 ?_
            refine zr_iload_n (pc := 68) (zq_d eX11_readBook 39 rfl) 1 rfl rfl ?_
            refine zr_iald (pc := 69) (zq_d eX11_readBook 40 rfl) am_96 ?_
            refine zr_bipush (pc := 70) (zq_d eX11_readBook 41 rfl) zc_b10 ?_
            refine zr_idivk (pc := 72) (zq_d eX11_readBook 42 rfl) (by decide) ?_
            refine zr_iald (pc := 73) (zq_d eX11_readBook 43 rfl) am_72 ?_
            refine zr_aload_n (pc := 74) (zq_d eX11_readBook 44 rfl) 0 rfl rfl ?_
            refine zr_getC (pc := 75) (zq_d eX11_readBook 45 rfl) zf_RX11_143 km_69_43 ?_
            refine zr_iload_n (pc := 78) (zq_d eX11_readBook 46 rfl) 1 rfl rfl ?_
            refine zr_iald (pc := 79) (zq_d eX11_readBook 47 rfl) am_96 ?_
            refine zr_bipush (pc := 80) (zq_d eX11_readBook 48 rfl) zc_b10 ?_
            refine zr_iremk (pc := 82) (zq_d eX11_readBook 49 rfl) (by decide) ?_
            refine zr_Vi (pc := 83) [_, _] (zq_d eX11_readBook 50 rfl) (s_X11_has G N z X6 _ _) zd_X11_has zl_RX11_331 om_69 rfl rfl rfl rfl (Nat.le_of_ble_eq_true rfl) (Nat.le_of_ble_eq_true rfl) (Nat.le_of_ble_eq_true rfl) ⟨Nat.le_refl _, Nat.le_refl _⟩ (fun v11 => ?_)
            refine zr_if_eq (pc := 86) 142 (zq_d eX11_readBook 51 rfl) (by decide) (fun _ => ?_) (fun _ => ?_)
            · exact zr_lo [0, 1] rfl (hj142_4)
            · refine zr_aload_n (pc := 89) (zq_d eX11_readBook 52 rfl) 0 rfl rfl ?_
              refine zr_aload_n (pc := 90) (zq_d eX11_readBook 53 rfl) 0 rfl rfl ?_
              refine zr_getI (pc := 91) (zq_d eX11_readBook 54 rfl) zf_RX11_13 km_69_1 ?_
              refine zr_aload_n (pc := 94) (zq_d eX11_readBook 55 rfl) 0 rfl rfl ?_
              refine zr_getC (pc := 95) (zq_d eX11_readBook 56 rfl) zf_RX11_143 km_69_43 ?_
              refine zr_iload_n (pc := 98) (zq_d eX11_readBook 57 rfl) 1 rfl rfl ?_
              refine zr_iald (pc := 99) (zq_d eX11_readBook 58 rfl) am_96 ?_
              refine zr_bipush (pc := 100) (zq_d eX11_readBook 59 rfl) zc_b10 ?_
              refine zr_idivk (pc := 102) (zq_d eX11_readBook 60 rfl) (by decide) ?_
              refine zr_aload_n (pc := 103) (zq_d eX11_readBook 61 rfl) 0 rfl rfl ?_
              refine zr_getI (pc := 104) (zq_d eX11_readBook 62 rfl) zf_RX11_16 km_69_2 ?_
              refine zr_Vi (pc := 107) [_, _, _] (zq_d eX11_readBook 63 rfl) (s_X11_maySpeak G N z X6 _ _ _) zd_X11_maySpeak zl_RX11_256 om_69 rfl rfl rfl rfl (Nat.le_of_ble_eq_true rfl) (Nat.le_of_ble_eq_true rfl) (Nat.le_of_ble_eq_true rfl) ⟨Nat.le_refl _, Nat.le_refl _⟩ (fun v12 => ?_)
              refine zr_if_eq (pc := 110) 142 (zq_d eX11_readBook 64 rfl) (by decide) (fun _ => ?_) (fun _ => ?_)
              · exact zr_lo [0, 1] rfl (hj142_4)
              · refine zr_aload_n (pc := 113) (zq_d eX11_readBook 65 rfl) 0 rfl rfl ?_
                refine zr_aload_n (pc := 114) (zq_d eX11_readBook 66 rfl) 0 rfl rfl ?_
                refine zr_getC (pc := 115) (zq_d eX11_readBook 67 rfl) zf_RX11_143 km_69_43 ?_
                refine zr_iload_n (pc := 118) (zq_d eX11_readBook 68 rfl) 1 rfl rfl ?_
                refine zr_iald (pc := 119) (zq_d eX11_readBook 69 rfl) am_96 ?_
                refine zr_bipush (pc := 120) (zq_d eX11_readBook 70 rfl) zc_b10 ?_
                refine zr_idivk (pc := 122) (zq_d eX11_readBook 71 rfl) (by decide) ?_
                refine zr_aload_n (pc := 123) (zq_d eX11_readBook 72 rfl) 0 rfl rfl ?_
                refine zr_getC (pc := 124) (zq_d eX11_readBook 73 rfl) zf_RX11_143 km_69_43 ?_
                refine zr_iload_n (pc := 127) (zq_d eX11_readBook 74 rfl) 1 rfl rfl ?_
                refine zr_iald (pc := 128) (zq_d eX11_readBook 75 rfl) am_96 ?_
                refine zr_bipush (pc := 129) (zq_d eX11_readBook 76 rfl) zc_b10 ?_
                refine zr_iremk (pc := 131) (zq_d eX11_readBook 77 rfl) (by decide) ?_
                refine zr_Wsi (pc := 132) [_, _] (zq_d eX11_readBook 78 rfl) (s_X11_said G N z X6 _ _) zd_X11_said zl_RX11_337 om_69 rfl rfl rfl rfl (Nat.le_of_ble_eq_true rfl) (Nat.le_of_ble_eq_true rfl) (Nat.le_of_ble_eq_true rfl) ⟨Nat.le_refl _, Nat.le_refl _⟩ (fun v13 X14 => ?_)
                refine zr_istore_n (pc := 135) (lo2 := [(2, .int v13), (0, .ref (zq_ad G 69)), (1, .int v5)]) (zq_d eX11_readBook 79 rfl) rfl (Nat.le_of_ble_eq_true rfl) rfl ?_
                refine zr_iinc (pc := 136) (j := 2) (v := (v5 + (1 : Int32))) (lo2 := [(1, .int (v5 + (1 : Int32))), (2, .int v13), (0, .ref (zq_ad G 69))]) (zq_d eX11_readBook 80 rfl) rfl (by rw [zc_i1]) (Nat.le_of_ble_eq_true rfl) rfl ?_
                refine zr_goto (pc := 139) 35 (zq_d eX11_readBook 81 rfl) (by decide) ?_
                exact zr_lo [2, 0] rfl (hrc35_2 (v5 + (1 : Int32)) X14)
      have hlrc35_2 := zr_loop (P := fun (rc35_2 : Int32 → zq_M → Option (Int32 × zq_M)) => ∀ (v5 : Int32) (X6 : zq_M), zq_V G YX11_readBook (5, 0, 0) (zq_si zq_shM z) 0 0 35 [(0, .ref (zq_ad G 69)), (1, .int v5)] [] zq_shM z X6 (rc35_2 v5 X6)) (fun _ _ => none) (b_X11_readBook_35 N) (fun _ _ => zr_none) hbrc35_2 N
      exact zr_lo [1, 0] rfl (hlrc35_2 (0 : Int32) X4)
    · refine zr_aload_n (pc := 15) (zq_d eX11_readBook 9 rfl) 0 rfl rfl ?_
      refine zr_getC (pc := 16) (zq_d eX11_readBook 10 rfl) zf_RX11_146 km_69_44 ?_
      refine zr_iload_n (pc := 19) (zq_d eX11_readBook 11 rfl) 1 rfl rfl ?_
      refine zr_aload_n (pc := 20) (zq_d eX11_readBook 12 rfl) 0 rfl rfl ?_
      refine zr_getC (pc := 21) (zq_d eX11_readBook 13 rfl) zf_RX11_29 km_69_6 ?_
      refine zr_iload_n (pc := 24) (zq_d eX11_readBook 14 rfl) 1 rfl rfl ?_
      refine zr_iald (pc := 25) (zq_d eX11_readBook 15 rfl) am_72 ?_
      refine zr_iast (pc := 26) (zq_d eX11_readBook 16 rfl) am_97 (fun X15 => ?_)
      refine zr_iinc (pc := 27) (j := 1) (v := (v3 + (1 : Int32))) (lo2 := [(1, .int (v3 + (1 : Int32))), (0, .ref (zq_ad G 69))]) (zq_d eX11_readBook 17 rfl) rfl (by rw [zc_i1]) (Nat.le_of_ble_eq_true rfl) rfl ?_
      refine zr_goto (pc := 30) 10 (zq_d eX11_readBook 18 rfl) (by decide) ?_
      exact zr_lo [1, 0] rfl (hrc10_1 (v3 + (1 : Int32)) X15)
  have hlrc10_1 := zr_loop (P := fun (rc10_1 : Int32 → zq_M → Option (Int32 × zq_M)) => ∀ (v3 : Int32) (X4 : zq_M), zq_V G YX11_readBook (5, 0, 0) (zq_si zq_shM z) 0 0 10 [(0, .ref (zq_ad G 69)), (1, .int v3)] [] zq_shM z X4 (rc10_1 v3 X4)) (fun _ _ => none) (b_X11_readBook_10 N) (fun _ _ => zr_none) hbrc10_1 N
  exact zr_lo [1, 0] rfl (hlrc10_1 (0 : Int32) X2)
def f_X11_isTape (N : Nat) (X : zq_M) (a1 : Int32) : Option Int32 :=
  (f_X11_within N X a1 (0 : Int32) (5 : Int32)).bind (fun v1 => zq_gz v1 (some v1))
set_option maxRecDepth 20000 in
set_option maxHeartbeats 8000000 in
theorem s_X11_isTape (G : zq_G) (N z : Nat) (X : zq_M) (a1 : Int32) : zq_V G YX11_isTape (2, 0, 0) (zq_ei zq_shM z X) 0 0 0 (lv_args 0 [.ref (zq_ad G 69), .int a1]) [] zq_shM z X (f_X11_isTape N X a1) := by
  unfold f_X11_isTape
  refine zr_lo (l2 := [(0, .ref (zq_ad G 69)), (1, .int a1)]) [0, 1] rfl ?_
  refine zr_aload_n (pc := 0) (zq_d eX11_isTape 0 rfl) 0 rfl rfl ?_
  refine zr_iload_n (pc := 1) (zq_d eX11_isTape 1 rfl) 1 rfl rfl ?_
  refine zr_iconst (pc := 2) (zq_d eX11_isTape 2 rfl) zc_i0 ?_
  refine zr_iconst (pc := 3) (zq_d eX11_isTape 3 rfl) zc_i5 ?_
  refine zr_Vi (pc := 4) [_, _, _] (zq_d eX11_isTape 4 rfl) (s_X11_within G N z X _ _ _) zd_X11_within zl_RX11_217 om_69 rfl rfl rfl rfl (Nat.le_of_ble_eq_true rfl) (Nat.le_of_ble_eq_true rfl) (Nat.le_of_ble_eq_true rfl) ⟨Nat.le_refl _, Nat.le_refl _⟩ (fun v1 => ?_)
  exact zr_zreturnG (pc := 7) (zq_d eX11_isTape 5 rfl) rfl rfl (Nat.zero_le _) (Nat.zero_le _)
def b_X11_judge_34 (X : zq_M) (a1 : Int32) (a2 : Int32) (rc34_1 : Int32 → Option Int32) (v2 : Int32) : Option Int32 :=
  if (X.1 69 0) ≤ v2 then (some (-5 : Int32)) else (zq_ck a1 6 (if (X.1 107 (zq_ix a1)) < 0 then (some ((100 : Int32) + v2)) else (if a2 < 0 then (some ((100 : Int32) + v2)) else (zq_ck a1 6 (if a2 ≤ (((X.1 108 (zq_ix a1)) - v2) - (1 : Int32)) then (zq_ck ((((60 : Int32) * a1) + a2) + v2) 360 (zq_ck v2 5 (if (lg_cmp (X.2.1 109 (zq_ix ((((60 : Int32) * a1) + a2) + v2))) ((X.1 72 (zq_ix v2)).toInt64)) = 0 then (rc34_1 (v2 + (1 : Int32))) else (some v2)))) else (some ((100 : Int32) + v2)))))))
def j_X11_judge_32 (N : Nat) (X : zq_M) (a1 : Int32) (a2 : Int32)  : Option Int32 :=
  zq_loop (fun _ => none) (b_X11_judge_34 X a1 a2) N (0 : Int32)
def f_X11_judge (N : Nat) (X : zq_M) (a1 : Int32) (a2 : Int32) : Option Int32 :=
  (f_X11_isTape N X a1).bind (fun v1 => if ¬ v1 = 0 then (zq_ck a1 6 (if (X.1 107 (zq_ix a1)) < 0 then (j_X11_judge_32 N X a1 a2) else (zq_ck a1 6 (if (X.1 107 (zq_ix a1)) = (2 : Int32) then (j_X11_judge_32 N X a1 a2) else (some (-12 : Int32)))))) else (some (-1 : Int32)))
set_option maxRecDepth 20000 in
set_option maxHeartbeats 8000000 in
theorem s_X11_judge (G : zq_G) (N z : Nat) (X : zq_M) (a1 : Int32) (a2 : Int32) : zq_V G YX11_judge (3, 0, 0) (zq_ei zq_shM z X) 0 0 0 (lv_args 0 [.ref (zq_ad G 69), .int a1, .int a2]) [] zq_shM z X (f_X11_judge N X a1 a2) := by
  unfold f_X11_judge
  refine zr_lo (l2 := [(0, .ref (zq_ad G 69)), (1, .int a1), (2, .int a2)]) [0, 1, 2] rfl ?_
  refine zr_aload_n (pc := 0) (zq_d eX11_judge 0 rfl) 0 rfl rfl ?_
  refine zr_iload_n (pc := 1) (zq_d eX11_judge 1 rfl) 1 rfl rfl ?_
  refine zr_Vi (pc := 2) [_] (zq_d eX11_judge 2 rfl) (s_X11_isTape G N z X _) zd_X11_isTape zl_RX11_428 om_69 rfl rfl rfl rfl (Nat.le_of_ble_eq_true rfl) (Nat.le_of_ble_eq_true rfl) (Nat.le_of_ble_eq_true rfl) ⟨Nat.le_refl _, Nat.le_refl _⟩ (fun v1 => ?_)
  refine zr_if_ne (pc := 5) 10 (zq_d eX11_judge 3 rfl) (by decide) (fun _ => ?_) (fun _ => ?_)
  · refine zr_aload_n (pc := 10) (zq_d eX11_judge 6 rfl) 0 rfl rfl ?_
    refine zr_getC (pc := 11) (zq_d eX11_judge 7 rfl) zf_RX11_204 km_69_63 ?_
    refine zr_iload_n (pc := 14) (zq_d eX11_judge 8 rfl) 1 rfl rfl ?_
    refine zr_iald (pc := 15) (zq_d eX11_judge 9 rfl) am_107 ?_
    have hj32_2 : zq_V G YX11_judge (3, 0, 0) (zq_ei zq_shM z X) 0 0 32 [(0, .ref (zq_ad G 69)), (1, .int a1), (2, .int a2)] [] zq_shM z X (j_X11_judge_32 N X a1 a2) := by
      unfold j_X11_judge_32
      refine zr_iconst (pc := 32) (zq_d eX11_judge 19 rfl) zc_i0 ?_
      refine zr_istore_n (pc := 33) (lo2 := [(3, .int (0 : Int32)), (0, .ref (zq_ad G 69)), (1, .int a1), (2, .int a2)]) (zq_d eX11_judge 20 rfl) rfl (Nat.le_of_ble_eq_true rfl) rfl ?_
      have hbrc34_1 : ∀ rc34_1 : Int32 → Option Int32, (∀ (v2 : Int32), zq_V G YX11_judge (3, 0, 0) (zq_ei zq_shM z X) 0 0 34 [(0, .ref (zq_ad G 69)), (1, .int a1), (2, .int a2), (3, .int v2)] [] zq_shM z X (rc34_1 v2)) → ∀ (v2 : Int32), zq_V G YX11_judge (3, 0, 0) (zq_ei zq_shM z X) 0 0 34 [(0, .ref (zq_ad G 69)), (1, .int a1), (2, .int a2), (3, .int v2)] [] zq_shM z X (b_X11_judge_34 X a1 a2 rc34_1 v2) := by
        intro rc34_1 hrc34_1 v2
        unfold b_X11_judge_34
        refine zr_iload_n (pc := 34) (zq_d eX11_judge 21 rfl) 3 rfl rfl ?_
        refine zr_aload_n (pc := 35) (zq_d eX11_judge 22 rfl) 0 rfl rfl ?_
        refine zr_getI (pc := 36) (zq_d eX11_judge 23 rfl) zf_RX11_7 km_69_0 ?_
        refine zr_icmp_ge (pc := 39) 106 (zq_d eX11_judge 24 rfl) (by decide) (fun _ => ?_) (fun _ => ?_)
        · refine zr_bipush (pc := 106) (zq_d eX11_judge 67 rfl) zc_bm5 ?_
          exact zr_ireturn (pc := 108) (zq_d eX11_judge 68 rfl) rfl rfl (Nat.zero_le _) (Nat.zero_le _)
        · refine zr_aload_n (pc := 42) (zq_d eX11_judge 25 rfl) 0 rfl rfl ?_
          refine zr_getC (pc := 43) (zq_d eX11_judge 26 rfl) zf_RX11_204 km_69_63 ?_
          refine zr_iload_n (pc := 46) (zq_d eX11_judge 27 rfl) 1 rfl rfl ?_
          refine zr_iald (pc := 47) (zq_d eX11_judge 28 rfl) am_107 ?_
          refine zr_if_lt (pc := 48) 69 (zq_d eX11_judge 29 rfl) (by decide) (fun _ => ?_) (fun _ => ?_)
          · refine zr_bipush (pc := 69) (zq_d eX11_judge 42 rfl) zc_b100 ?_
            refine zr_iload_n (pc := 71) (zq_d eX11_judge 43 rfl) 3 rfl rfl ?_
            refine zr_iadd (pc := 72) (zq_d eX11_judge 44 rfl) ?_
            exact zr_ireturn (pc := 73) (zq_d eX11_judge 45 rfl) rfl rfl (Nat.zero_le _) (Nat.zero_le _)
          · refine zr_iload_n (pc := 51) (zq_d eX11_judge 30 rfl) 2 rfl rfl ?_
            refine zr_if_lt (pc := 52) 69 (zq_d eX11_judge 31 rfl) (by decide) (fun _ => ?_) (fun _ => ?_)
            · refine zr_bipush (pc := 69) (zq_d eX11_judge 42 rfl) zc_b100 ?_
              refine zr_iload_n (pc := 71) (zq_d eX11_judge 43 rfl) 3 rfl rfl ?_
              refine zr_iadd (pc := 72) (zq_d eX11_judge 44 rfl) ?_
              exact zr_ireturn (pc := 73) (zq_d eX11_judge 45 rfl) rfl rfl (Nat.zero_le _) (Nat.zero_le _)
            · refine zr_iload_n (pc := 55) (zq_d eX11_judge 32 rfl) 2 rfl rfl ?_
              refine zr_aload_n (pc := 56) (zq_d eX11_judge 33 rfl) 0 rfl rfl ?_
              refine zr_getC (pc := 57) (zq_d eX11_judge 34 rfl) zf_RX11_207 km_69_64 ?_
              refine zr_iload_n (pc := 60) (zq_d eX11_judge 35 rfl) 1 rfl rfl ?_
              refine zr_iald (pc := 61) (zq_d eX11_judge 36 rfl) am_108 ?_
              refine zr_iload_n (pc := 62) (zq_d eX11_judge 37 rfl) 3 rfl rfl ?_
              refine zr_isub (pc := 63) (zq_d eX11_judge 38 rfl) ?_
              refine zr_iconst (pc := 64) (zq_d eX11_judge 39 rfl) zc_i1 ?_
              refine zr_isub (pc := 65) (zq_d eX11_judge 40 rfl) ?_
              refine zr_icmp_le (pc := 66) 74 (zq_d eX11_judge 41 rfl) (by decide) (fun _ => ?_) (fun _ => ?_)
              · refine zr_aload_n (pc := 74) (zq_d eX11_judge 46 rfl) 0 rfl rfl ?_
                refine zr_getC (pc := 75) (zq_d eX11_judge 47 rfl) zf_RX11_210 km_69_65 ?_
                refine zr_bipush (pc := 78) (zq_d eX11_judge 48 rfl) zc_b60 ?_
                refine zr_iload_n (pc := 80) (zq_d eX11_judge 49 rfl) 1 rfl rfl ?_
                refine zr_imul (pc := 81) (zq_d eX11_judge 50 rfl) ?_
                refine zr_iload_n (pc := 82) (zq_d eX11_judge 51 rfl) 2 rfl rfl ?_
                refine zr_iadd (pc := 83) (zq_d eX11_judge 52 rfl) ?_
                refine zr_iload_n (pc := 84) (zq_d eX11_judge 53 rfl) 3 rfl rfl ?_
                refine zr_iadd (pc := 85) (zq_d eX11_judge 54 rfl) ?_
                refine zr_lald (pc := 86) (zq_d eX11_judge 55 rfl) am_109 ?_
                refine zr_aload_n (pc := 87) (zq_d eX11_judge 56 rfl) 0 rfl rfl ?_
                refine zr_getC (pc := 88) (zq_d eX11_judge 57 rfl) zf_RX11_29 km_69_6 ?_
                refine zr_iload_n (pc := 91) (zq_d eX11_judge 58 rfl) 3 rfl rfl ?_
                refine zr_iald (pc := 92) (zq_d eX11_judge 59 rfl) am_72 ?_
                refine zr_i2l (pc := 93) (zq_d eX11_judge 60 rfl) ?_
                refine zr_lcmp (pc := 94) (zq_d eX11_judge 61 rfl) ?_
                refine zr_if_eq (pc := 95) 100 (zq_d eX11_judge 62 rfl) (by decide) (fun _ => ?_) (fun _ => ?_)
                · refine zr_iinc (pc := 100) (j := 3) (v := (v2 + (1 : Int32))) (lo2 := [(3, .int (v2 + (1 : Int32))), (0, .ref (zq_ad G 69)), (1, .int a1), (2, .int a2)]) (zq_d eX11_judge 65 rfl) rfl (by rw [zc_i1]) (Nat.le_of_ble_eq_true rfl) rfl ?_
                  refine zr_goto (pc := 103) 34 (zq_d eX11_judge 66 rfl) (by decide) ?_
                  exact zr_lo [1, 2, 3, 0] rfl (hrc34_1 (v2 + (1 : Int32)))
                · refine zr_iload_n (pc := 98) (zq_d eX11_judge 63 rfl) 3 rfl rfl ?_
                  exact zr_ireturn (pc := 99) (zq_d eX11_judge 64 rfl) rfl rfl (Nat.zero_le _) (Nat.zero_le _)
              · refine zr_bipush (pc := 69) (zq_d eX11_judge 42 rfl) zc_b100 ?_
                refine zr_iload_n (pc := 71) (zq_d eX11_judge 43 rfl) 3 rfl rfl ?_
                refine zr_iadd (pc := 72) (zq_d eX11_judge 44 rfl) ?_
                exact zr_ireturn (pc := 73) (zq_d eX11_judge 45 rfl) rfl rfl (Nat.zero_le _) (Nat.zero_le _)
      have hlrc34_1 := zr_loop (P := fun (rc34_1 : Int32 → Option Int32) => ∀ (v2 : Int32), zq_V G YX11_judge (3, 0, 0) (zq_ei zq_shM z X) 0 0 34 [(0, .ref (zq_ad G 69)), (1, .int a1), (2, .int a2), (3, .int v2)] [] zq_shM z X (rc34_1 v2)) (fun _ => none) (b_X11_judge_34 X a1 a2) (fun _ => zr_none) hbrc34_1 N
      exact zr_lo [1, 2, 3, 0] rfl (hlrc34_1 (0 : Int32))
    refine zr_if_lt (pc := 16) 32 (zq_d eX11_judge 10 rfl) (by decide) (fun _ => ?_) (fun _ => ?_)
    · exact zr_lo [0, 1, 2] rfl (hj32_2)
    · refine zr_aload_n (pc := 19) (zq_d eX11_judge 11 rfl) 0 rfl rfl ?_
      refine zr_getC (pc := 20) (zq_d eX11_judge 12 rfl) zf_RX11_204 km_69_63 ?_
      refine zr_iload_n (pc := 23) (zq_d eX11_judge 13 rfl) 1 rfl rfl ?_
      refine zr_iald (pc := 24) (zq_d eX11_judge 14 rfl) am_107 ?_
      refine zr_iconst (pc := 25) (zq_d eX11_judge 15 rfl) zc_i2 ?_
      refine zr_icmp_eq (pc := 26) 32 (zq_d eX11_judge 16 rfl) (by decide) (fun _ => ?_) (fun _ => ?_)
      · exact zr_lo [0, 1, 2] rfl (hj32_2)
      · refine zr_bipush (pc := 29) (zq_d eX11_judge 17 rfl) zc_bm12 ?_
        exact zr_ireturn (pc := 31) (zq_d eX11_judge 18 rfl) rfl rfl (Nat.zero_le _) (Nat.zero_le _)
  · refine zr_iconst (pc := 8) (zq_d eX11_judge 4 rfl) zc_im1 ?_
    exact zr_ireturn (pc := 9) (zq_d eX11_judge 5 rfl) rfl rfl (Nat.zero_le _) (Nat.zero_le _)
def b_X11_image_149  (rc149_3 : Int32 → zq_M → Option (Int32 × zq_M)) (v13 : Int32) (X14 : zq_M) : Option (Int32 × zq_M) :=
  if (12 : Int32) ≤ v13 then (some ((X14.1 69 0), X14)) else (zq_ck v13 12 (zq_ck v13 12 (zq_b (zq_u1 X14 103 (zq_ix v13) (X14.1 93 (zq_ix v13))) (fun X15 => zq_ck v13 12 (zq_ck v13 12 (zq_b (zq_u1 X15 104 (zq_ix v13) (X15.1 94 (zq_ix v13))) (fun X16 => zq_ck v13 12 (zq_ck v13 12 (zq_b (zq_u1 X16 105 (zq_ix v13) (X16.1 96 (zq_ix v13))) (fun X17 => rc149_3 (v13 + (1 : Int32)) X17))))))))))
def k_X11_image_147_4 (N : Nat) (X12 : zq_M)  : Option (Int32 × zq_M) :=
  zq_loop (fun _ _ => none) (b_X11_image_149) N (0 : Int32) X12
def b_X11_image_112 (N : Nat) (rc112_2 : Int32 → zq_M → Option (Int32 × zq_M)) (v11 : Int32) (X12 : zq_M) : Option (Int32 × zq_M) :=
  if (3 : Int32) ≤ v11 then (k_X11_image_147_4 N X12) else (zq_ck v11 3 (zq_ck v11 3 (zq_b (zq_u1 X12 101 (zq_ix v11) (X12.1 73 (zq_ix v11))) (fun X18 => zq_ck v11 3 (zq_ck v11 3 (zq_b (zq_u1 X18 102 (zq_ix v11) (X18.1 74 (zq_ix v11))) (fun X19 => rc112_2 (v11 + (1 : Int32)) X19)))))))
def k_X11_image_110_5 (N : Nat) (X10 : zq_M)  : Option (Int32 × zq_M) :=
  zq_loop (fun _ _ => none) (b_X11_image_112 N) N (0 : Int32) X10
def b_X11_image_63 (N : Nat) (rc63_1 : Int32 → zq_M → Option (Int32 × zq_M)) (v9 : Int32) (X10 : zq_M) : Option (Int32 × zq_M) :=
  if (5 : Int32) ≤ v9 then (k_X11_image_110_5 N X10) else (zq_ck v9 5 (zq_ck v9 5 (zq_b (zq_u1 X10 98 (zq_ix v9) (X10.1 70 (zq_ix v9))) (fun X20 => zq_ck v9 5 (zq_ck v9 5 (zq_b (zq_u1 X20 99 (zq_ix v9) (X20.1 71 (zq_ix v9))) (fun X21 => zq_ck v9 5 (zq_ck v9 5 (zq_b (zq_u1 X21 100 (zq_ix v9) (X21.1 72 (zq_ix v9))) (fun X22 => rc63_1 (v9 + (1 : Int32)) X22))))))))))
def f_X11_image (N : Nat) (X : zq_M)  : Option (Int32 × zq_M) :=
  zq_gz (1 : Int32) (zq_b (zq_u1 X 69 45 (1 : Int32)) (fun X1 => zq_b (zq_u1 X1 69 46 (X1.1 69 11)) (fun X2 => zq_b (zq_u1 X2 69 47 (X2.1 69 0)) (fun X3 => zq_b (zq_u1 X3 69 48 (X3.1 69 1)) (fun X4 => zq_b (zq_u1 X4 69 49 (X4.1 69 2)) (fun X5 => zq_b (zq_u1 X5 69 50 (X5.1 69 3)) (fun X6 => zq_b (zq_u1 X6 69 51 (X6.1 69 36)) (fun X7 => zq_b (zq_u1 X7 69 52 (X7.1 69 42)) (fun X8 => zq_loop (fun _ _ => none) (b_X11_image_63 N) N (0 : Int32) X8)))))))))
set_option maxRecDepth 20000 in
set_option maxHeartbeats 8000000 in
theorem s_X11_image (G : zq_G) (N z : Nat) (X : zq_M)  : zq_V G YX11_image (1, 0, 0) (zq_si zq_shM z) 0 0 0 (lv_args 0 [.ref (zq_ad G 69)]) [] zq_shM z X (f_X11_image N X ) := by
  unfold f_X11_image
  refine zr_lo (l2 := [(0, .ref (zq_ad G 69))]) [0] rfl ?_
  refine zr_aload_n (pc := 0) (zq_d eX11_image 0 rfl) 0 rfl rfl ?_
  refine zr_iconst (pc := 1) (zq_d eX11_image 1 rfl) zc_i1 ?_
  refine zr_putZ (pc := 2) (zq_d eX11_image 2 rfl) zf_RX11_149 km_69_45 zn_11_45 (fun X1 => ?_)
  refine zr_aload_n (pc := 5) (zq_d eX11_image 3 rfl) 0 rfl rfl ?_
  refine zr_aload_n (pc := 6) (zq_d eX11_image 4 rfl) 0 rfl rfl ?_
  refine zr_getI (pc := 7) (zq_d eX11_image 5 rfl) zf_RX11_44 km_69_11 ?_
  refine zr_putI (pc := 10) (zq_d eX11_image 6 rfl) zf_RX11_153 km_69_46 zn_11_46 (fun X2 => ?_)
  refine zr_aload_n (pc := 13) (zq_d eX11_image 7 rfl) 0 rfl rfl ?_
  refine zr_aload_n (pc := 14) (zq_d eX11_image 8 rfl) 0 rfl rfl ?_
  refine zr_getI (pc := 15) (zq_d eX11_image 9 rfl) zf_RX11_7 km_69_0 ?_
  refine zr_putI (pc := 18) (zq_d eX11_image 10 rfl) zf_RX11_156 km_69_47 zn_11_47 (fun X3 => ?_)
  refine zr_aload_n (pc := 21) (zq_d eX11_image 11 rfl) 0 rfl rfl ?_
  refine zr_aload_n (pc := 22) (zq_d eX11_image 12 rfl) 0 rfl rfl ?_
  refine zr_getI (pc := 23) (zq_d eX11_image 13 rfl) zf_RX11_13 km_69_1 ?_
  refine zr_putI (pc := 26) (zq_d eX11_image 14 rfl) zf_RX11_159 km_69_48 zn_11_48 (fun X4 => ?_)
  refine zr_aload_n (pc := 29) (zq_d eX11_image 15 rfl) 0 rfl rfl ?_
  refine zr_aload_n (pc := 30) (zq_d eX11_image 16 rfl) 0 rfl rfl ?_
  refine zr_getI (pc := 31) (zq_d eX11_image 17 rfl) zf_RX11_16 km_69_2 ?_
  refine zr_putI (pc := 34) (zq_d eX11_image 18 rfl) zf_RX11_162 km_69_49 zn_11_49 (fun X5 => ?_)
  refine zr_aload_n (pc := 37) (zq_d eX11_image 19 rfl) 0 rfl rfl ?_
  refine zr_aload_n (pc := 38) (zq_d eX11_image 20 rfl) 0 rfl rfl ?_
  refine zr_getI (pc := 39) (zq_d eX11_image 21 rfl) zf_RX11_19 km_69_3 ?_
  refine zr_putI (pc := 42) (zq_d eX11_image 22 rfl) zf_RX11_165 km_69_50 zn_11_50 (fun X6 => ?_)
  refine zr_aload_n (pc := 45) (zq_d eX11_image 23 rfl) 0 rfl rfl ?_
  refine zr_aload_n (pc := 46) (zq_d eX11_image 24 rfl) 0 rfl rfl ?_
  refine zr_getI (pc := 47) (zq_d eX11_image 25 rfl) zf_RX11_121 km_69_36 ?_
  refine zr_putI (pc := 50) (zq_d eX11_image 26 rfl) zf_RX11_168 km_69_51 zn_11_51 (fun X7 => ?_)
  refine zr_aload_n (pc := 53) (zq_d eX11_image 27 rfl) 0 rfl rfl ?_
  refine zr_aload_n (pc := 54) (zq_d eX11_image 28 rfl) 0 rfl rfl ?_
  refine zr_getI (pc := 55) (zq_d eX11_image 29 rfl) zf_RX11_140 km_69_42 ?_
  refine zr_putI (pc := 58) (zq_d eX11_image 30 rfl) zf_RX11_171 km_69_52 zn_11_52 (fun X8 => ?_)
  refine zr_iconst (pc := 61) (zq_d eX11_image 31 rfl) zc_i0 ?_
  refine zr_istore_n (pc := 62) (lo2 := [(1, .int (0 : Int32)), (0, .ref (zq_ad G 69))]) (zq_d eX11_image 32 rfl) rfl (Nat.le_of_ble_eq_true rfl) rfl ?_
  have hbrc63_1 : ∀ rc63_1 : Int32 → zq_M → Option (Int32 × zq_M), (∀ (v9 : Int32) (X10 : zq_M), zq_V G YX11_image (1, 0, 0) (zq_si zq_shM z) 0 0 63 [(0, .ref (zq_ad G 69)), (1, .int v9)] [] zq_shM z X10 (rc63_1 v9 X10)) → ∀ (v9 : Int32) (X10 : zq_M), zq_V G YX11_image (1, 0, 0) (zq_si zq_shM z) 0 0 63 [(0, .ref (zq_ad G 69)), (1, .int v9)] [] zq_shM z X10 (b_X11_image_63 N rc63_1 v9 X10) := by
    intro rc63_1 hrc63_1 v9 X10
    unfold b_X11_image_63
    refine zr_iload_n (pc := 63) (zq_d eX11_image 33 rfl) 1 rfl rfl ?_
    refine zr_iconst (pc := 64) (zq_d eX11_image 34 rfl) zc_i5 ?_
    refine zr_icmp_ge (pc := 65) 110 (zq_d eX11_image 35 rfl) (by decide) (fun _ => ?_) (fun _ => ?_)
    · unfold k_X11_image_110_5
      refine zr_iconst (pc := 110) (zq_d eX11_image 62 rfl) zc_i0 ?_
      refine zr_istore_n (pc := 111) (lo2 := [(1, .int (0 : Int32)), (0, .ref (zq_ad G 69))]) (zq_d eX11_image 63 rfl) rfl (Nat.le_of_ble_eq_true rfl) rfl ?_
      have hbrc112_2 : ∀ rc112_2 : Int32 → zq_M → Option (Int32 × zq_M), (∀ (v11 : Int32) (X12 : zq_M), zq_V G YX11_image (1, 0, 0) (zq_si zq_shM z) 0 0 112 [(0, .ref (zq_ad G 69)), (1, .int v11)] [] zq_shM z X12 (rc112_2 v11 X12)) → ∀ (v11 : Int32) (X12 : zq_M), zq_V G YX11_image (1, 0, 0) (zq_si zq_shM z) 0 0 112 [(0, .ref (zq_ad G 69)), (1, .int v11)] [] zq_shM z X12 (b_X11_image_112 N rc112_2 v11 X12) := by
        intro rc112_2 hrc112_2 v11 X12
        unfold b_X11_image_112
        refine zr_iload_n (pc := 112) (zq_d eX11_image 64 rfl) 1 rfl rfl ?_
        refine zr_iconst (pc := 113) (zq_d eX11_image 65 rfl) zc_i3 ?_
        refine zr_icmp_ge (pc := 114) 147 (zq_d eX11_image 66 rfl) (by decide) (fun _ => ?_) (fun _ => ?_)
        · unfold k_X11_image_147_4
          refine zr_iconst (pc := 147) (zq_d eX11_image 85 rfl) zc_i0 ?_
          refine zr_istore_n (pc := 148) (lo2 := [(1, .int (0 : Int32)), (0, .ref (zq_ad G 69))]) (zq_d eX11_image 86 rfl) rfl (Nat.le_of_ble_eq_true rfl) rfl ?_
          have hbrc149_3 : ∀ rc149_3 : Int32 → zq_M → Option (Int32 × zq_M), (∀ (v13 : Int32) (X14 : zq_M), zq_V G YX11_image (1, 0, 0) (zq_si zq_shM z) 0 0 149 [(0, .ref (zq_ad G 69)), (1, .int v13)] [] zq_shM z X14 (rc149_3 v13 X14)) → ∀ (v13 : Int32) (X14 : zq_M), zq_V G YX11_image (1, 0, 0) (zq_si zq_shM z) 0 0 149 [(0, .ref (zq_ad G 69)), (1, .int v13)] [] zq_shM z X14 (b_X11_image_149 rc149_3 v13 X14) := by
            intro rc149_3 hrc149_3 v13 X14
            unfold b_X11_image_149
            refine zr_iload_n (pc := 149) (zq_d eX11_image 87 rfl) 1 rfl rfl ?_
            refine zr_bipush (pc := 150) (zq_d eX11_image 88 rfl) zc_b12 ?_
            refine zr_icmp_ge (pc := 152) 197 (zq_d eX11_image 89 rfl) (by decide) (fun _ => ?_) (fun _ => ?_)
            · refine zr_aload_n (pc := 197) (zq_d eX11_image 116 rfl) 0 rfl rfl ?_
              refine zr_getI (pc := 198) (zq_d eX11_image 117 rfl) zf_RX11_7 km_69_0 ?_
              exact zr_ireturn (pc := 201) (zq_d eX11_image 118 rfl) rfl rfl (Nat.zero_le _) (Nat.zero_le _)
            · refine zr_aload_n (pc := 155) (zq_d eX11_image 90 rfl) 0 rfl rfl ?_
              refine zr_getC (pc := 156) (zq_d eX11_image 91 rfl) zf_RX11_189 km_69_58 ?_
              refine zr_iload_n (pc := 159) (zq_d eX11_image 92 rfl) 1 rfl rfl ?_
              refine zr_aload_n (pc := 160) (zq_d eX11_image 93 rfl) 0 rfl rfl ?_
              refine zr_getC (pc := 161) (zq_d eX11_image 94 rfl) zf_RX11_124 km_69_37 ?_
              refine zr_iload_n (pc := 164) (zq_d eX11_image 95 rfl) 1 rfl rfl ?_
              refine zr_iald (pc := 165) (zq_d eX11_image 96 rfl) am_93 ?_
              refine zr_iast (pc := 166) (zq_d eX11_image 97 rfl) am_103 (fun X15 => ?_)
              refine zr_aload_n (pc := 167) (zq_d eX11_image 98 rfl) 0 rfl rfl ?_
              refine zr_getC (pc := 168) (zq_d eX11_image 99 rfl) zf_RX11_192 km_69_59 ?_
              refine zr_iload_n (pc := 171) (zq_d eX11_image 100 rfl) 1 rfl rfl ?_
              refine zr_aload_n (pc := 172) (zq_d eX11_image 101 rfl) 0 rfl rfl ?_
              refine zr_getC (pc := 173) (zq_d eX11_image 102 rfl) zf_RX11_127 km_69_38 ?_
              refine zr_iload_n (pc := 176) (zq_d eX11_image 103 rfl) 1 rfl rfl ?_
              refine zr_iald (pc := 177) (zq_d eX11_image 104 rfl) am_94 ?_
              refine zr_iast (pc := 178) (zq_d eX11_image 105 rfl) am_104 (fun X16 => ?_)
              refine zr_aload_n (pc := 179) (zq_d eX11_image 106 rfl) 0 rfl rfl ?_
              refine zr_getC (pc := 180) (zq_d eX11_image 107 rfl) zf_RX11_195 km_69_60 ?_
              refine zr_iload_n (pc := 183) (zq_d eX11_image 108 rfl) 1 rfl rfl ?_
              refine zr_aload_n (pc := 184) (zq_d eX11_image 109 rfl) 0 rfl rfl ?_
              refine zr_getC (pc := 185) (zq_d eX11_image 110 rfl) zf_RX11_143 km_69_43 ?_
              refine zr_iload_n (pc := 188) (zq_d eX11_image 111 rfl) 1 rfl rfl ?_
              refine zr_iald (pc := 189) (zq_d eX11_image 112 rfl) am_96 ?_
              refine zr_iast (pc := 190) (zq_d eX11_image 113 rfl) am_105 (fun X17 => ?_)
              refine zr_iinc (pc := 191) (j := 1) (v := (v13 + (1 : Int32))) (lo2 := [(1, .int (v13 + (1 : Int32))), (0, .ref (zq_ad G 69))]) (zq_d eX11_image 114 rfl) rfl (by rw [zc_i1]) (Nat.le_of_ble_eq_true rfl) rfl ?_
              refine zr_goto (pc := 194) 149 (zq_d eX11_image 115 rfl) (by decide) ?_
              exact zr_lo [1, 0] rfl (hrc149_3 (v13 + (1 : Int32)) X17)
          have hlrc149_3 := zr_loop (P := fun (rc149_3 : Int32 → zq_M → Option (Int32 × zq_M)) => ∀ (v13 : Int32) (X14 : zq_M), zq_V G YX11_image (1, 0, 0) (zq_si zq_shM z) 0 0 149 [(0, .ref (zq_ad G 69)), (1, .int v13)] [] zq_shM z X14 (rc149_3 v13 X14)) (fun _ _ => none) (b_X11_image_149) (fun _ _ => zr_none) hbrc149_3 N
          exact zr_lo [1, 0] rfl (hlrc149_3 (0 : Int32) X12)
        · refine zr_aload_n (pc := 117) (zq_d eX11_image 67 rfl) 0 rfl rfl ?_
          refine zr_getC (pc := 118) (zq_d eX11_image 68 rfl) zf_RX11_183 km_69_56 ?_
          refine zr_iload_n (pc := 121) (zq_d eX11_image 69 rfl) 1 rfl rfl ?_
          refine zr_aload_n (pc := 122) (zq_d eX11_image 70 rfl) 0 rfl rfl ?_
          refine zr_getC (pc := 123) (zq_d eX11_image 71 rfl) zf_RX11_32 km_69_7 ?_
          refine zr_iload_n (pc := 126) (zq_d eX11_image 72 rfl) 1 rfl rfl ?_
          refine zr_iald (pc := 127) (zq_d eX11_image 73 rfl) am_73 ?_
          refine zr_iast (pc := 128) (zq_d eX11_image 74 rfl) am_101 (fun X18 => ?_)
          refine zr_aload_n (pc := 129) (zq_d eX11_image 75 rfl) 0 rfl rfl ?_
          refine zr_getC (pc := 130) (zq_d eX11_image 76 rfl) zf_RX11_186 km_69_57 ?_
          refine zr_iload_n (pc := 133) (zq_d eX11_image 77 rfl) 1 rfl rfl ?_
          refine zr_aload_n (pc := 134) (zq_d eX11_image 78 rfl) 0 rfl rfl ?_
          refine zr_getC (pc := 135) (zq_d eX11_image 79 rfl) zf_RX11_35 km_69_8 ?_
          refine zr_iload_n (pc := 138) (zq_d eX11_image 80 rfl) 1 rfl rfl ?_
          refine zr_iald (pc := 139) (zq_d eX11_image 81 rfl) am_74 ?_
          refine zr_iast (pc := 140) (zq_d eX11_image 82 rfl) am_102 (fun X19 => ?_)
          refine zr_iinc (pc := 141) (j := 1) (v := (v11 + (1 : Int32))) (lo2 := [(1, .int (v11 + (1 : Int32))), (0, .ref (zq_ad G 69))]) (zq_d eX11_image 83 rfl) rfl (by rw [zc_i1]) (Nat.le_of_ble_eq_true rfl) rfl ?_
          refine zr_goto (pc := 144) 112 (zq_d eX11_image 84 rfl) (by decide) ?_
          exact zr_lo [1, 0] rfl (hrc112_2 (v11 + (1 : Int32)) X19)
      have hlrc112_2 := zr_loop (P := fun (rc112_2 : Int32 → zq_M → Option (Int32 × zq_M)) => ∀ (v11 : Int32) (X12 : zq_M), zq_V G YX11_image (1, 0, 0) (zq_si zq_shM z) 0 0 112 [(0, .ref (zq_ad G 69)), (1, .int v11)] [] zq_shM z X12 (rc112_2 v11 X12)) (fun _ _ => none) (b_X11_image_112 N) (fun _ _ => zr_none) hbrc112_2 N
      exact zr_lo [1, 0] rfl (hlrc112_2 (0 : Int32) X10)
    · refine zr_aload_n (pc := 68) (zq_d eX11_image 36 rfl) 0 rfl rfl ?_
      refine zr_getC (pc := 69) (zq_d eX11_image 37 rfl) zf_RX11_174 km_69_53 ?_
      refine zr_iload_n (pc := 72) (zq_d eX11_image 38 rfl) 1 rfl rfl ?_
      refine zr_aload_n (pc := 73) (zq_d eX11_image 39 rfl) 0 rfl rfl ?_
      refine zr_getC (pc := 74) (zq_d eX11_image 40 rfl) zf_RX11_22 km_69_4 ?_
      refine zr_iload_n (pc := 77) (zq_d eX11_image 41 rfl) 1 rfl rfl ?_
      refine zr_iald (pc := 78) (zq_d eX11_image 42 rfl) am_70 ?_
      refine zr_iast (pc := 79) (zq_d eX11_image 43 rfl) am_98 (fun X20 => ?_)
      refine zr_aload_n (pc := 80) (zq_d eX11_image 44 rfl) 0 rfl rfl ?_
      refine zr_getC (pc := 81) (zq_d eX11_image 45 rfl) zf_RX11_177 km_69_54 ?_
      refine zr_iload_n (pc := 84) (zq_d eX11_image 46 rfl) 1 rfl rfl ?_
      refine zr_aload_n (pc := 85) (zq_d eX11_image 47 rfl) 0 rfl rfl ?_
      refine zr_getC (pc := 86) (zq_d eX11_image 48 rfl) zf_RX11_26 km_69_5 ?_
      refine zr_iload_n (pc := 89) (zq_d eX11_image 49 rfl) 1 rfl rfl ?_
      refine zr_iald (pc := 90) (zq_d eX11_image 50 rfl) am_71 ?_
      refine zr_iast (pc := 91) (zq_d eX11_image 51 rfl) am_99 (fun X21 => ?_)
      refine zr_aload_n (pc := 92) (zq_d eX11_image 52 rfl) 0 rfl rfl ?_
      refine zr_getC (pc := 93) (zq_d eX11_image 53 rfl) zf_RX11_180 km_69_55 ?_
      refine zr_iload_n (pc := 96) (zq_d eX11_image 54 rfl) 1 rfl rfl ?_
      refine zr_aload_n (pc := 97) (zq_d eX11_image 55 rfl) 0 rfl rfl ?_
      refine zr_getC (pc := 98) (zq_d eX11_image 56 rfl) zf_RX11_29 km_69_6 ?_
      refine zr_iload_n (pc := 101) (zq_d eX11_image 57 rfl) 1 rfl rfl ?_
      refine zr_iald (pc := 102) (zq_d eX11_image 58 rfl) am_72 ?_
      refine zr_iast (pc := 103) (zq_d eX11_image 59 rfl) am_100 (fun X22 => ?_)
      refine zr_iinc (pc := 104) (j := 1) (v := (v9 + (1 : Int32))) (lo2 := [(1, .int (v9 + (1 : Int32))), (0, .ref (zq_ad G 69))]) (zq_d eX11_image 60 rfl) rfl (by rw [zc_i1]) (Nat.le_of_ble_eq_true rfl) rfl ?_
      refine zr_goto (pc := 107) 63 (zq_d eX11_image 61 rfl) (by decide) ?_
      exact zr_lo [1, 0] rfl (hrc63_1 (v9 + (1 : Int32)) X22)
  have hlrc63_1 := zr_loop (P := fun (rc63_1 : Int32 → zq_M → Option (Int32 × zq_M)) => ∀ (v9 : Int32) (X10 : zq_M), zq_V G YX11_image (1, 0, 0) (zq_si zq_shM z) 0 0 63 [(0, .ref (zq_ad G 69)), (1, .int v9)] [] zq_shM z X10 (rc63_1 v9 X10)) (fun _ _ => none) (b_X11_image_63 N) (fun _ _ => zr_none) hbrc63_1 N
  exact zr_lo [1, 0] rfl (hlrc63_1 (0 : Int32) X8)
def b_X11_undo_154  (rc154_3 : Int32 → zq_M → Option (Int32 × zq_M)) (v12 : Int32) (X13 : zq_M) : Option (Int32 × zq_M) :=
  if (12 : Int32) ≤ v12 then (some ((X13.1 69 0), X13)) else (zq_ck v12 12 (zq_ck v12 12 (zq_b (zq_u1 X13 93 (zq_ix v12) (X13.1 103 (zq_ix v12))) (fun X14 => zq_ck v12 12 (zq_ck v12 12 (zq_b (zq_u1 X14 94 (zq_ix v12) (X14.1 104 (zq_ix v12))) (fun X15 => zq_ck v12 12 (zq_ck v12 12 (zq_b (zq_u1 X15 96 (zq_ix v12) (X15.1 105 (zq_ix v12))) (fun X16 => rc154_3 (v12 + (1 : Int32)) X16))))))))))
def k_X11_undo_152_4 (N : Nat) (X11 : zq_M)  : Option (Int32 × zq_M) :=
  zq_loop (fun _ _ => none) (b_X11_undo_154) N (0 : Int32) X11
def b_X11_undo_117 (N : Nat) (rc117_2 : Int32 → zq_M → Option (Int32 × zq_M)) (v10 : Int32) (X11 : zq_M) : Option (Int32 × zq_M) :=
  if (3 : Int32) ≤ v10 then (k_X11_undo_152_4 N X11) else (zq_ck v10 3 (zq_ck v10 3 (zq_b (zq_u1 X11 73 (zq_ix v10) (X11.1 101 (zq_ix v10))) (fun X17 => zq_ck v10 3 (zq_ck v10 3 (zq_b (zq_u1 X17 74 (zq_ix v10) (X17.1 102 (zq_ix v10))) (fun X18 => rc117_2 (v10 + (1 : Int32)) X18)))))))
def k_X11_undo_115_5 (N : Nat) (X9 : zq_M)  : Option (Int32 × zq_M) :=
  zq_loop (fun _ _ => none) (b_X11_undo_117 N) N (0 : Int32) X9
def b_X11_undo_68 (N : Nat) (rc68_1 : Int32 → zq_M → Option (Int32 × zq_M)) (v8 : Int32) (X9 : zq_M) : Option (Int32 × zq_M) :=
  if (5 : Int32) ≤ v8 then (k_X11_undo_115_5 N X9) else (zq_ck v8 5 (zq_ck v8 5 (zq_b (zq_u1 X9 70 (zq_ix v8) (X9.1 98 (zq_ix v8))) (fun X19 => zq_ck v8 5 (zq_ck v8 5 (zq_b (zq_u1 X19 71 (zq_ix v8) (X19.1 99 (zq_ix v8))) (fun X20 => zq_ck v8 5 (zq_ck v8 5 (zq_b (zq_u1 X20 72 (zq_ix v8) (X20.1 100 (zq_ix v8))) (fun X21 => rc68_1 (v8 + (1 : Int32)) X21))))))))))
def f_X11_undo (N : Nat) (X : zq_M)  : Option (Int32 × zq_M) :=
  if ¬ (X.1 69 45) = 0 then (zq_b (zq_u1 X 69 11 (X.1 69 46)) (fun X1 => zq_b (zq_u1 X1 69 0 (X1.1 69 47)) (fun X2 => zq_b (zq_u1 X2 69 1 (X2.1 69 48)) (fun X3 => zq_b (zq_u1 X3 69 2 (X3.1 69 49)) (fun X4 => zq_b (zq_u1 X4 69 3 (X4.1 69 50)) (fun X5 => zq_b (zq_u1 X5 69 36 (X5.1 69 51)) (fun X6 => zq_b (zq_u1 X6 69 42 (X6.1 69 52)) (fun X7 => zq_loop (fun _ _ => none) (b_X11_undo_68 N) N (0 : Int32) X7)))))))) else (some ((-3 : Int32), X))
set_option maxRecDepth 20000 in
set_option maxHeartbeats 8000000 in
theorem s_X11_undo (G : zq_G) (N z : Nat) (X : zq_M)  : zq_V G YX11_undo (1, 0, 0) (zq_si zq_shM z) 0 0 0 (lv_args 0 [.ref (zq_ad G 69)]) [] zq_shM z X (f_X11_undo N X ) := by
  unfold f_X11_undo
  refine zr_lo (l2 := [(0, .ref (zq_ad G 69))]) [0] rfl ?_
  refine zr_aload_n (pc := 0) (zq_d eX11_undo 0 rfl) 0 rfl rfl ?_
  refine zr_getI (pc := 1) (zq_d eX11_undo 1 rfl) zf_RX11_149 km_69_45 ?_
  refine zr_if_ne (pc := 4) 10 (zq_d eX11_undo 2 rfl) (by decide) (fun _ => ?_) (fun _ => ?_)
  · refine zr_aload_n (pc := 10) (zq_d eX11_undo 5 rfl) 0 rfl rfl ?_
    refine zr_aload_n (pc := 11) (zq_d eX11_undo 6 rfl) 0 rfl rfl ?_
    refine zr_getI (pc := 12) (zq_d eX11_undo 7 rfl) zf_RX11_153 km_69_46 ?_
    refine zr_putI (pc := 15) (zq_d eX11_undo 8 rfl) zf_RX11_44 km_69_11 zn_11_11 (fun X1 => ?_)
    refine zr_aload_n (pc := 18) (zq_d eX11_undo 9 rfl) 0 rfl rfl ?_
    refine zr_aload_n (pc := 19) (zq_d eX11_undo 10 rfl) 0 rfl rfl ?_
    refine zr_getI (pc := 20) (zq_d eX11_undo 11 rfl) zf_RX11_156 km_69_47 ?_
    refine zr_putI (pc := 23) (zq_d eX11_undo 12 rfl) zf_RX11_7 km_69_0 zn_11_0 (fun X2 => ?_)
    refine zr_aload_n (pc := 26) (zq_d eX11_undo 13 rfl) 0 rfl rfl ?_
    refine zr_aload_n (pc := 27) (zq_d eX11_undo 14 rfl) 0 rfl rfl ?_
    refine zr_getI (pc := 28) (zq_d eX11_undo 15 rfl) zf_RX11_159 km_69_48 ?_
    refine zr_putI (pc := 31) (zq_d eX11_undo 16 rfl) zf_RX11_13 km_69_1 zn_11_1 (fun X3 => ?_)
    refine zr_aload_n (pc := 34) (zq_d eX11_undo 17 rfl) 0 rfl rfl ?_
    refine zr_aload_n (pc := 35) (zq_d eX11_undo 18 rfl) 0 rfl rfl ?_
    refine zr_getI (pc := 36) (zq_d eX11_undo 19 rfl) zf_RX11_162 km_69_49 ?_
    refine zr_putI (pc := 39) (zq_d eX11_undo 20 rfl) zf_RX11_16 km_69_2 zn_11_2 (fun X4 => ?_)
    refine zr_aload_n (pc := 42) (zq_d eX11_undo 21 rfl) 0 rfl rfl ?_
    refine zr_aload_n (pc := 43) (zq_d eX11_undo 22 rfl) 0 rfl rfl ?_
    refine zr_getI (pc := 44) (zq_d eX11_undo 23 rfl) zf_RX11_165 km_69_50 ?_
    refine zr_putI (pc := 47) (zq_d eX11_undo 24 rfl) zf_RX11_19 km_69_3 zn_11_3 (fun X5 => ?_)
    refine zr_aload_n (pc := 50) (zq_d eX11_undo 25 rfl) 0 rfl rfl ?_
    refine zr_aload_n (pc := 51) (zq_d eX11_undo 26 rfl) 0 rfl rfl ?_
    refine zr_getI (pc := 52) (zq_d eX11_undo 27 rfl) zf_RX11_168 km_69_51 ?_
    refine zr_putI (pc := 55) (zq_d eX11_undo 28 rfl) zf_RX11_121 km_69_36 zn_11_36 (fun X6 => ?_)
    refine zr_aload_n (pc := 58) (zq_d eX11_undo 29 rfl) 0 rfl rfl ?_
    refine zr_aload_n (pc := 59) (zq_d eX11_undo 30 rfl) 0 rfl rfl ?_
    refine zr_getI (pc := 60) (zq_d eX11_undo 31 rfl) zf_RX11_171 km_69_52 ?_
    refine zr_putI (pc := 63) (zq_d eX11_undo 32 rfl) zf_RX11_140 km_69_42 zn_11_42 (fun X7 => ?_)
    refine zr_iconst (pc := 66) (zq_d eX11_undo 33 rfl) zc_i0 ?_
    refine zr_istore_n (pc := 67) (lo2 := [(1, .int (0 : Int32)), (0, .ref (zq_ad G 69))]) (zq_d eX11_undo 34 rfl) rfl (Nat.le_of_ble_eq_true rfl) rfl ?_
    have hbrc68_1 : ∀ rc68_1 : Int32 → zq_M → Option (Int32 × zq_M), (∀ (v8 : Int32) (X9 : zq_M), zq_V G YX11_undo (1, 0, 0) (zq_si zq_shM z) 0 0 68 [(0, .ref (zq_ad G 69)), (1, .int v8)] [] zq_shM z X9 (rc68_1 v8 X9)) → ∀ (v8 : Int32) (X9 : zq_M), zq_V G YX11_undo (1, 0, 0) (zq_si zq_shM z) 0 0 68 [(0, .ref (zq_ad G 69)), (1, .int v8)] [] zq_shM z X9 (b_X11_undo_68 N rc68_1 v8 X9) := by
      intro rc68_1 hrc68_1 v8 X9
      unfold b_X11_undo_68
      refine zr_iload_n (pc := 68) (zq_d eX11_undo 35 rfl) 1 rfl rfl ?_
      refine zr_iconst (pc := 69) (zq_d eX11_undo 36 rfl) zc_i5 ?_
      refine zr_icmp_ge (pc := 70) 115 (zq_d eX11_undo 37 rfl) (by decide) (fun _ => ?_) (fun _ => ?_)
      · unfold k_X11_undo_115_5
        refine zr_iconst (pc := 115) (zq_d eX11_undo 64 rfl) zc_i0 ?_
        refine zr_istore_n (pc := 116) (lo2 := [(1, .int (0 : Int32)), (0, .ref (zq_ad G 69))]) (zq_d eX11_undo 65 rfl) rfl (Nat.le_of_ble_eq_true rfl) rfl ?_
        have hbrc117_2 : ∀ rc117_2 : Int32 → zq_M → Option (Int32 × zq_M), (∀ (v10 : Int32) (X11 : zq_M), zq_V G YX11_undo (1, 0, 0) (zq_si zq_shM z) 0 0 117 [(0, .ref (zq_ad G 69)), (1, .int v10)] [] zq_shM z X11 (rc117_2 v10 X11)) → ∀ (v10 : Int32) (X11 : zq_M), zq_V G YX11_undo (1, 0, 0) (zq_si zq_shM z) 0 0 117 [(0, .ref (zq_ad G 69)), (1, .int v10)] [] zq_shM z X11 (b_X11_undo_117 N rc117_2 v10 X11) := by
          intro rc117_2 hrc117_2 v10 X11
          unfold b_X11_undo_117
          refine zr_iload_n (pc := 117) (zq_d eX11_undo 66 rfl) 1 rfl rfl ?_
          refine zr_iconst (pc := 118) (zq_d eX11_undo 67 rfl) zc_i3 ?_
          refine zr_icmp_ge (pc := 119) 152 (zq_d eX11_undo 68 rfl) (by decide) (fun _ => ?_) (fun _ => ?_)
          · unfold k_X11_undo_152_4
            refine zr_iconst (pc := 152) (zq_d eX11_undo 87 rfl) zc_i0 ?_
            refine zr_istore_n (pc := 153) (lo2 := [(1, .int (0 : Int32)), (0, .ref (zq_ad G 69))]) (zq_d eX11_undo 88 rfl) rfl (Nat.le_of_ble_eq_true rfl) rfl ?_
            have hbrc154_3 : ∀ rc154_3 : Int32 → zq_M → Option (Int32 × zq_M), (∀ (v12 : Int32) (X13 : zq_M), zq_V G YX11_undo (1, 0, 0) (zq_si zq_shM z) 0 0 154 [(0, .ref (zq_ad G 69)), (1, .int v12)] [] zq_shM z X13 (rc154_3 v12 X13)) → ∀ (v12 : Int32) (X13 : zq_M), zq_V G YX11_undo (1, 0, 0) (zq_si zq_shM z) 0 0 154 [(0, .ref (zq_ad G 69)), (1, .int v12)] [] zq_shM z X13 (b_X11_undo_154 rc154_3 v12 X13) := by
              intro rc154_3 hrc154_3 v12 X13
              unfold b_X11_undo_154
              refine zr_iload_n (pc := 154) (zq_d eX11_undo 89 rfl) 1 rfl rfl ?_
              refine zr_bipush (pc := 155) (zq_d eX11_undo 90 rfl) zc_b12 ?_
              refine zr_icmp_ge (pc := 157) 202 (zq_d eX11_undo 91 rfl) (by decide) (fun _ => ?_) (fun _ => ?_)
              · refine zr_aload_n (pc := 202) (zq_d eX11_undo 118 rfl) 0 rfl rfl ?_
                refine zr_getI (pc := 203) (zq_d eX11_undo 119 rfl) zf_RX11_7 km_69_0 ?_
                exact zr_ireturn (pc := 206) (zq_d eX11_undo 120 rfl) rfl rfl (Nat.zero_le _) (Nat.zero_le _)
              · refine zr_aload_n (pc := 160) (zq_d eX11_undo 92 rfl) 0 rfl rfl ?_
                refine zr_getC (pc := 161) (zq_d eX11_undo 93 rfl) zf_RX11_124 km_69_37 ?_
                refine zr_iload_n (pc := 164) (zq_d eX11_undo 94 rfl) 1 rfl rfl ?_
                refine zr_aload_n (pc := 165) (zq_d eX11_undo 95 rfl) 0 rfl rfl ?_
                refine zr_getC (pc := 166) (zq_d eX11_undo 96 rfl) zf_RX11_189 km_69_58 ?_
                refine zr_iload_n (pc := 169) (zq_d eX11_undo 97 rfl) 1 rfl rfl ?_
                refine zr_iald (pc := 170) (zq_d eX11_undo 98 rfl) am_103 ?_
                refine zr_iast (pc := 171) (zq_d eX11_undo 99 rfl) am_93 (fun X14 => ?_)
                refine zr_aload_n (pc := 172) (zq_d eX11_undo 100 rfl) 0 rfl rfl ?_
                refine zr_getC (pc := 173) (zq_d eX11_undo 101 rfl) zf_RX11_127 km_69_38 ?_
                refine zr_iload_n (pc := 176) (zq_d eX11_undo 102 rfl) 1 rfl rfl ?_
                refine zr_aload_n (pc := 177) (zq_d eX11_undo 103 rfl) 0 rfl rfl ?_
                refine zr_getC (pc := 178) (zq_d eX11_undo 104 rfl) zf_RX11_192 km_69_59 ?_
                refine zr_iload_n (pc := 181) (zq_d eX11_undo 105 rfl) 1 rfl rfl ?_
                refine zr_iald (pc := 182) (zq_d eX11_undo 106 rfl) am_104 ?_
                refine zr_iast (pc := 183) (zq_d eX11_undo 107 rfl) am_94 (fun X15 => ?_)
                refine zr_aload_n (pc := 184) (zq_d eX11_undo 108 rfl) 0 rfl rfl ?_
                refine zr_getC (pc := 185) (zq_d eX11_undo 109 rfl) zf_RX11_143 km_69_43 ?_
                refine zr_iload_n (pc := 188) (zq_d eX11_undo 110 rfl) 1 rfl rfl ?_
                refine zr_aload_n (pc := 189) (zq_d eX11_undo 111 rfl) 0 rfl rfl ?_
                refine zr_getC (pc := 190) (zq_d eX11_undo 112 rfl) zf_RX11_195 km_69_60 ?_
                refine zr_iload_n (pc := 193) (zq_d eX11_undo 113 rfl) 1 rfl rfl ?_
                refine zr_iald (pc := 194) (zq_d eX11_undo 114 rfl) am_105 ?_
                refine zr_iast (pc := 195) (zq_d eX11_undo 115 rfl) am_96 (fun X16 => ?_)
                refine zr_iinc (pc := 196) (j := 1) (v := (v12 + (1 : Int32))) (lo2 := [(1, .int (v12 + (1 : Int32))), (0, .ref (zq_ad G 69))]) (zq_d eX11_undo 116 rfl) rfl (by rw [zc_i1]) (Nat.le_of_ble_eq_true rfl) rfl ?_
                refine zr_goto (pc := 199) 154 (zq_d eX11_undo 117 rfl) (by decide) ?_
                exact zr_lo [1, 0] rfl (hrc154_3 (v12 + (1 : Int32)) X16)
            have hlrc154_3 := zr_loop (P := fun (rc154_3 : Int32 → zq_M → Option (Int32 × zq_M)) => ∀ (v12 : Int32) (X13 : zq_M), zq_V G YX11_undo (1, 0, 0) (zq_si zq_shM z) 0 0 154 [(0, .ref (zq_ad G 69)), (1, .int v12)] [] zq_shM z X13 (rc154_3 v12 X13)) (fun _ _ => none) (b_X11_undo_154) (fun _ _ => zr_none) hbrc154_3 N
            exact zr_lo [1, 0] rfl (hlrc154_3 (0 : Int32) X11)
          · refine zr_aload_n (pc := 122) (zq_d eX11_undo 69 rfl) 0 rfl rfl ?_
            refine zr_getC (pc := 123) (zq_d eX11_undo 70 rfl) zf_RX11_32 km_69_7 ?_
            refine zr_iload_n (pc := 126) (zq_d eX11_undo 71 rfl) 1 rfl rfl ?_
            refine zr_aload_n (pc := 127) (zq_d eX11_undo 72 rfl) 0 rfl rfl ?_
            refine zr_getC (pc := 128) (zq_d eX11_undo 73 rfl) zf_RX11_183 km_69_56 ?_
            refine zr_iload_n (pc := 131) (zq_d eX11_undo 74 rfl) 1 rfl rfl ?_
            refine zr_iald (pc := 132) (zq_d eX11_undo 75 rfl) am_101 ?_
            refine zr_iast (pc := 133) (zq_d eX11_undo 76 rfl) am_73 (fun X17 => ?_)
            refine zr_aload_n (pc := 134) (zq_d eX11_undo 77 rfl) 0 rfl rfl ?_
            refine zr_getC (pc := 135) (zq_d eX11_undo 78 rfl) zf_RX11_35 km_69_8 ?_
            refine zr_iload_n (pc := 138) (zq_d eX11_undo 79 rfl) 1 rfl rfl ?_
            refine zr_aload_n (pc := 139) (zq_d eX11_undo 80 rfl) 0 rfl rfl ?_
            refine zr_getC (pc := 140) (zq_d eX11_undo 81 rfl) zf_RX11_186 km_69_57 ?_
            refine zr_iload_n (pc := 143) (zq_d eX11_undo 82 rfl) 1 rfl rfl ?_
            refine zr_iald (pc := 144) (zq_d eX11_undo 83 rfl) am_102 ?_
            refine zr_iast (pc := 145) (zq_d eX11_undo 84 rfl) am_74 (fun X18 => ?_)
            refine zr_iinc (pc := 146) (j := 1) (v := (v10 + (1 : Int32))) (lo2 := [(1, .int (v10 + (1 : Int32))), (0, .ref (zq_ad G 69))]) (zq_d eX11_undo 85 rfl) rfl (by rw [zc_i1]) (Nat.le_of_ble_eq_true rfl) rfl ?_
            refine zr_goto (pc := 149) 117 (zq_d eX11_undo 86 rfl) (by decide) ?_
            exact zr_lo [1, 0] rfl (hrc117_2 (v10 + (1 : Int32)) X18)
        have hlrc117_2 := zr_loop (P := fun (rc117_2 : Int32 → zq_M → Option (Int32 × zq_M)) => ∀ (v10 : Int32) (X11 : zq_M), zq_V G YX11_undo (1, 0, 0) (zq_si zq_shM z) 0 0 117 [(0, .ref (zq_ad G 69)), (1, .int v10)] [] zq_shM z X11 (rc117_2 v10 X11)) (fun _ _ => none) (b_X11_undo_117 N) (fun _ _ => zr_none) hbrc117_2 N
        exact zr_lo [1, 0] rfl (hlrc117_2 (0 : Int32) X9)
      · refine zr_aload_n (pc := 73) (zq_d eX11_undo 38 rfl) 0 rfl rfl ?_
        refine zr_getC (pc := 74) (zq_d eX11_undo 39 rfl) zf_RX11_22 km_69_4 ?_
        refine zr_iload_n (pc := 77) (zq_d eX11_undo 40 rfl) 1 rfl rfl ?_
        refine zr_aload_n (pc := 78) (zq_d eX11_undo 41 rfl) 0 rfl rfl ?_
        refine zr_getC (pc := 79) (zq_d eX11_undo 42 rfl) zf_RX11_174 km_69_53 ?_
        refine zr_iload_n (pc := 82) (zq_d eX11_undo 43 rfl) 1 rfl rfl ?_
        refine zr_iald (pc := 83) (zq_d eX11_undo 44 rfl) am_98 ?_
        refine zr_iast (pc := 84) (zq_d eX11_undo 45 rfl) am_70 (fun X19 => ?_)
        refine zr_aload_n (pc := 85) (zq_d eX11_undo 46 rfl) 0 rfl rfl ?_
        refine zr_getC (pc := 86) (zq_d eX11_undo 47 rfl) zf_RX11_26 km_69_5 ?_
        refine zr_iload_n (pc := 89) (zq_d eX11_undo 48 rfl) 1 rfl rfl ?_
        refine zr_aload_n (pc := 90) (zq_d eX11_undo 49 rfl) 0 rfl rfl ?_
        refine zr_getC (pc := 91) (zq_d eX11_undo 50 rfl) zf_RX11_177 km_69_54 ?_
        refine zr_iload_n (pc := 94) (zq_d eX11_undo 51 rfl) 1 rfl rfl ?_
        refine zr_iald (pc := 95) (zq_d eX11_undo 52 rfl) am_99 ?_
        refine zr_iast (pc := 96) (zq_d eX11_undo 53 rfl) am_71 (fun X20 => ?_)
        refine zr_aload_n (pc := 97) (zq_d eX11_undo 54 rfl) 0 rfl rfl ?_
        refine zr_getC (pc := 98) (zq_d eX11_undo 55 rfl) zf_RX11_29 km_69_6 ?_
        refine zr_iload_n (pc := 101) (zq_d eX11_undo 56 rfl) 1 rfl rfl ?_
        refine zr_aload_n (pc := 102) (zq_d eX11_undo 57 rfl) 0 rfl rfl ?_
        refine zr_getC (pc := 103) (zq_d eX11_undo 58 rfl) zf_RX11_180 km_69_55 ?_
        refine zr_iload_n (pc := 106) (zq_d eX11_undo 59 rfl) 1 rfl rfl ?_
        refine zr_iald (pc := 107) (zq_d eX11_undo 60 rfl) am_100 ?_
        refine zr_iast (pc := 108) (zq_d eX11_undo 61 rfl) am_72 (fun X21 => ?_)
        refine zr_iinc (pc := 109) (j := 1) (v := (v8 + (1 : Int32))) (lo2 := [(1, .int (v8 + (1 : Int32))), (0, .ref (zq_ad G 69))]) (zq_d eX11_undo 62 rfl) rfl (by rw [zc_i1]) (Nat.le_of_ble_eq_true rfl) rfl ?_
        refine zr_goto (pc := 112) 68 (zq_d eX11_undo 63 rfl) (by decide) ?_
        exact zr_lo [1, 0] rfl (hrc68_1 (v8 + (1 : Int32)) X21)
    have hlrc68_1 := zr_loop (P := fun (rc68_1 : Int32 → zq_M → Option (Int32 × zq_M)) => ∀ (v8 : Int32) (X9 : zq_M), zq_V G YX11_undo (1, 0, 0) (zq_si zq_shM z) 0 0 68 [(0, .ref (zq_ad G 69)), (1, .int v8)] [] zq_shM z X9 (rc68_1 v8 X9)) (fun _ _ => none) (b_X11_undo_68 N) (fun _ _ => zr_none) hbrc68_1 N
    exact zr_lo [1, 0] rfl (hlrc68_1 (0 : Int32) X7)
  · refine zr_bipush (pc := 7) (zq_d eX11_undo 3 rfl) zc_bm3 ?_
    exact zr_ireturn (pc := 9) (zq_d eX11_undo 4 rfl) rfl rfl (Nat.zero_le _) (Nat.zero_le _)
def j_X11_body_19  (X1 : zq_M) : Option zq_M :=
  zq_b (zq_u1 X1 69 61 ((X1.1 69 61) + (1 : Int32))) (fun X2 => some X2)
def f_X11_body (N : Nat) (X : zq_M) (a1 : Int32) : Option zq_M :=
  if (20 : Int32) ≤ (X.1 69 61) then (j_X11_body_19 X) else (zq_ck (X.1 69 61) 20 (zq_b (zq_u1 X 106 (zq_ix (X.1 69 61)) a1) (fun X3 => j_X11_body_19 X3)))
set_option maxRecDepth 20000 in
set_option maxHeartbeats 8000000 in
theorem s_X11_body (G : zq_G) (N z : Nat) (X : zq_M) (a1 : Int32) : zq_V G YX11_body (1, 0, 0) (zq_sv zq_shM z) 0 0 0 (lv_args 0 [.ref (zq_ad G 69), .int a1]) [] zq_shM z X (f_X11_body N X a1) := by
  unfold f_X11_body
  refine zr_lo (l2 := [(0, .ref (zq_ad G 69)), (1, .int a1)]) [0, 1] rfl ?_
  refine zr_aload_n (pc := 0) (zq_d eX11_body 0 rfl) 0 rfl rfl ?_
  refine zr_getI (pc := 1) (zq_d eX11_body 1 rfl) zf_RX11_198 km_69_61 ?_
  refine zr_bipush (pc := 4) (zq_d eX11_body 2 rfl) zc_b20 ?_
  have hj19_1 : ∀ (X1 : zq_M), zq_V G YX11_body (1, 0, 0) (zq_sv zq_shM z) 0 0 19 [(0, .ref (zq_ad G 69))] [] zq_shM z X1 (j_X11_body_19 X1) := by
    intro X1
    unfold j_X11_body_19
    refine zr_aload_n (pc := 19) (zq_d eX11_body 10 rfl) 0 rfl rfl ?_
    refine zr_dup (pc := 20) (zq_d eX11_body 11 rfl) rfl ?_
    refine zr_getI (pc := 21) (zq_d eX11_body 12 rfl) zf_RX11_198 km_69_61 ?_
    refine zr_iconst (pc := 24) (zq_d eX11_body 13 rfl) zc_i1 ?_
    refine zr_iadd (pc := 25) (zq_d eX11_body 14 rfl) ?_
    refine zr_putI (pc := 26) (zq_d eX11_body 15 rfl) zf_RX11_198 km_69_61 zn_11_61 (fun X2 => ?_)
    exact zr_vreturn (pc := 29) (zq_d eX11_body 16 rfl) rfl rfl (Nat.zero_le _) (Nat.zero_le _)
  refine zr_icmp_ge (pc := 6) 19 (zq_d eX11_body 3 rfl) (by decide) (fun _ => ?_) (fun _ => ?_)
  · exact zr_lo [0] rfl (hj19_1 X)
  · refine zr_aload_n (pc := 9) (zq_d eX11_body 4 rfl) 0 rfl rfl ?_
    refine zr_getC (pc := 10) (zq_d eX11_body 5 rfl) zf_RX11_201 km_69_62 ?_
    refine zr_aload_n (pc := 13) (zq_d eX11_body 6 rfl) 0 rfl rfl ?_
    refine zr_getI (pc := 14) (zq_d eX11_body 7 rfl) zf_RX11_198 km_69_61 ?_
    refine zr_iload_n (pc := 17) (zq_d eX11_body 8 rfl) 1 rfl rfl ?_
    refine zr_iast (pc := 18) (zq_d eX11_body 9 rfl) am_106 (fun X3 => ?_)
    exact zr_lo [0] rfl (hj19_1 X3)
def f_X11_roomHears (N : Nat) (X : zq_M) (a1 : Int32) (a2 : Int32) : Option (Int32 × zq_M) :=
  (f_X11_body N X (10 : Int32)).bind (fun X1 => some ((a2 + a1), X1))
set_option maxRecDepth 20000 in
set_option maxHeartbeats 8000000 in
theorem s_X11_roomHears (G : zq_G) (N z : Nat) (X : zq_M) (a1 : Int32) (a2 : Int32) : zq_V G YX11_roomHears (2, 0, 0) (zq_si zq_shM z) 0 0 0 (lv_args 0 [.ref (zq_ad G 69), .int a1, .int a2]) [] zq_shM z X (f_X11_roomHears N X a1 a2) := by
  unfold f_X11_roomHears
  refine zr_lo (l2 := [(0, .ref (zq_ad G 69)), (1, .int a1), (2, .int a2)]) [0, 1, 2] rfl ?_
  refine zr_aload_n (pc := 0) (zq_d eX11_roomHears 0 rfl) 0 rfl rfl ?_
  refine zr_bipush (pc := 1) (zq_d eX11_roomHears 1 rfl) zc_b10 ?_
  refine zr_Vv (pc := 3) [_] (zq_d eX11_roomHears 2 rfl) (s_X11_body G N z X _) zd_X11_body zl_RX11_431 om_69 rfl rfl rfl rfl (Nat.le_of_ble_eq_true rfl) (Nat.le_of_ble_eq_true rfl) (Nat.le_of_ble_eq_true rfl) ⟨Nat.le_refl _, Nat.le_refl _⟩ (fun X1 => ?_)
  refine zr_iload_n (pc := 6) (zq_d eX11_roomHears 3 rfl) 2 rfl rfl ?_
  refine zr_iload_n (pc := 7) (zq_d eX11_roomHears 4 rfl) 1 rfl rfl ?_
  refine zr_iadd (pc := 8) (zq_d eX11_roomHears 5 rfl) ?_
  exact zr_ireturn (pc := 9) (zq_d eX11_roomHears 6 rfl) rfl rfl (Nat.zero_le _) (Nat.zero_le _)
def j_X11_hearsAct_40 (N : Nat) (X : zq_M) (a1 : Int32) (a2 : Int32)  : Option (Int32 × zq_M) :=
  (f_X11_body N X (30 : Int32)).bind (fun X1 => (f_X11_roomHears N X1 a1 (a2 * (3 : Int32))).bind (zq_p (fun v2 X3 => some (v2, X3))))
def j_X11_hearsAct_89 (N : Nat) (X : zq_M) (a1 : Int32) (a2 : Int32)  : Option (Int32 × zq_M) :=
  (f_X11_roomHears N X a1 a2).bind (zq_p (fun v4 X5 => some (v4, X5)))
def f_X11_hearsAct (N : Nat) (X : zq_M) (a1 : Int32) (a2 : Int32) : Option (Int32 × zq_M) :=
  zq_ck a1 3 (if (X.1 73 (zq_ix a1)) = (2 : Int32) then (j_X11_hearsAct_40 N X a1 a2) else (if (X.1 73 (zq_ix a1)) = (3 : Int32) then (j_X11_hearsAct_89 N X a1 a2) else (if (X.1 73 (zq_ix a1)) = (4 : Int32) then ((f_X11_body N X (50 : Int32)).bind (fun X9 => (f_X11_roomHears N X9 a1 a2).bind (zq_p (fun v10 X11 => some ((-v10), X11))))) else (if (X.1 73 (zq_ix a1)) = (5 : Int32) then (j_X11_hearsAct_40 N X a1 a2) else (if (X.1 73 (zq_ix a1)) = (6 : Int32) then ((f_X11_body N X (71 : Int32)).bind (fun X6 => (f_X11_roomHears N X6 a1 a2).bind (zq_p (fun v7 X8 => zq_ck a1 3 (some ((v7 ^^^ (X8.1 74 (zq_ix a1))), X8)))))) else (j_X11_hearsAct_89 N X a1 a2))))))
set_option maxRecDepth 20000 in
set_option maxHeartbeats 8000000 in
theorem s_X11_hearsAct (G : zq_G) (N z : Nat) (X : zq_M) (a1 : Int32) (a2 : Int32) : zq_V G YX11_hearsAct (3, 0, 0) (zq_si zq_shM z) 0 0 0 (lv_args 0 [.ref (zq_ad G 69), .int a1, .int a2]) [] zq_shM z X (f_X11_hearsAct N X a1 a2) := by
  unfold f_X11_hearsAct
  refine zr_lo (l2 := [(0, .ref (zq_ad G 69)), (1, .int a1), (2, .int a2)]) [0, 1, 2] rfl ?_
  refine zr_aload_n (pc := 0) (zq_d eX11_hearsAct 0 rfl) 0 rfl rfl ?_
  refine zr_getC (pc := 1) (zq_d eX11_hearsAct 1 rfl) zf_RX11_32 km_69_7 ?_
  refine zr_iload_n (pc := 4) (zq_d eX11_hearsAct 2 rfl) 1 rfl rfl ?_
  refine zr_iald (pc := 5) (zq_d eX11_hearsAct 3 rfl) am_73 ?_
  have hj40_1 : zq_V G YX11_hearsAct (3, 0, 0) (zq_si zq_shM z) 0 0 40 [(0, .ref (zq_ad G 69)), (1, .int a1), (2, .int a2)] [] zq_shM z X (j_X11_hearsAct_40 N X a1 a2) := by
    unfold j_X11_hearsAct_40
    refine zr_aload_n (pc := 40) (zq_d eX11_hearsAct 5 rfl) 0 rfl rfl ?_
    refine zr_bipush (pc := 41) (zq_d eX11_hearsAct 6 rfl) zc_b30 ?_
    refine zr_Vv (pc := 43) [_] (zq_d eX11_hearsAct 7 rfl) (s_X11_body G N z X _) zd_X11_body zl_RX11_431 om_69 rfl rfl rfl rfl (Nat.le_of_ble_eq_true rfl) (Nat.le_of_ble_eq_true rfl) (Nat.le_of_ble_eq_true rfl) ⟨Nat.le_refl _, Nat.le_refl _⟩ (fun X1 => ?_)
    refine zr_aload_n (pc := 46) (zq_d eX11_hearsAct 8 rfl) 0 rfl rfl ?_
    refine zr_iload_n (pc := 47) (zq_d eX11_hearsAct 9 rfl) 1 rfl rfl ?_
    refine zr_iload_n (pc := 48) (zq_d eX11_hearsAct 10 rfl) 2 rfl rfl ?_
    refine zr_iconst (pc := 49) (zq_d eX11_hearsAct 11 rfl) zc_i3 ?_
    refine zr_imul (pc := 50) (zq_d eX11_hearsAct 12 rfl) ?_
    refine zr_Wsi (pc := 51) [_, _] (zq_d eX11_hearsAct 13 rfl) (s_X11_roomHears G N z X1 _ _) zd_X11_roomHears zl_RX11_434 om_69 rfl rfl rfl rfl (Nat.le_of_ble_eq_true rfl) (Nat.le_of_ble_eq_true rfl) (Nat.le_of_ble_eq_true rfl) ⟨Nat.le_refl _, Nat.le_refl _⟩ (fun v2 X3 => ?_)
    exact zr_ireturn (pc := 54) (zq_d eX11_hearsAct 14 rfl) rfl rfl (Nat.zero_le _) (Nat.zero_le _)
  have hj89_2 : zq_V G YX11_hearsAct (3, 0, 0) (zq_si zq_shM z) 0 0 89 [(0, .ref (zq_ad G 69)), (1, .int a1), (2, .int a2)] [] zq_shM z X (j_X11_hearsAct_89 N X a1 a2) := by
    unfold j_X11_hearsAct_89
    refine zr_aload_n (pc := 89) (zq_d eX11_hearsAct 37 rfl) 0 rfl rfl ?_
    refine zr_iload_n (pc := 90) (zq_d eX11_hearsAct 38 rfl) 1 rfl rfl ?_
    refine zr_iload_n (pc := 91) (zq_d eX11_hearsAct 39 rfl) 2 rfl rfl ?_
    refine zr_Wsi (pc := 92) [_, _] (zq_d eX11_hearsAct 40 rfl) (s_X11_roomHears G N z X _ _) zd_X11_roomHears zl_RX11_434 om_69 rfl rfl rfl rfl (Nat.le_of_ble_eq_true rfl) (Nat.le_of_ble_eq_true rfl) (Nat.le_of_ble_eq_true rfl) ⟨Nat.le_refl _, Nat.le_refl _⟩ (fun v4 X5 => ?_)
    exact zr_ireturn (pc := 95) (zq_d eX11_hearsAct 41 rfl) rfl rfl (Nat.zero_le _) (Nat.zero_le _)
  refine zr_cs (fun q3 => ?_) (fun q3 => ?_)
  · refine zr_tab (pc := 6) (n := 2) 40 (zq_d eX11_hearsAct 4 rfl) q3 (by decide) (by decide) (by decide) rfl (by decide) ?_
    exact zr_lo [0, 1, 2] rfl (hj40_1)
  · refine zr_cs (fun q4 => ?_) (fun q4 => ?_)
    · refine zr_tab (pc := 6) (n := 3) 89 (zq_d eX11_hearsAct 4 rfl) q4 (by decide) (by decide) (by decide) rfl (by decide) ?_
      exact zr_lo [0, 1, 2] rfl (hj89_2)
    · refine zr_cs (fun q5 => ?_) (fun q5 => ?_)
      · refine zr_tab (pc := 6) (n := 4) 55 (zq_d eX11_hearsAct 4 rfl) q5 (by decide) (by decide) (by decide) rfl (by decide) ?_
        refine zr_aload_n (pc := 55) (zq_d eX11_hearsAct 15 rfl) 0 rfl rfl ?_
        refine zr_bipush (pc := 56) (zq_d eX11_hearsAct 16 rfl) zc_b50 ?_
        refine zr_Vv (pc := 58) [_] (zq_d eX11_hearsAct 17 rfl) (s_X11_body G N z X _) zd_X11_body zl_RX11_431 om_69 rfl rfl rfl rfl (Nat.le_of_ble_eq_true rfl) (Nat.le_of_ble_eq_true rfl) (Nat.le_of_ble_eq_true rfl) ⟨Nat.le_refl _, Nat.le_refl _⟩ (fun X9 => ?_)
        refine zr_aload_n (pc := 61) (zq_d eX11_hearsAct 18 rfl) 0 rfl rfl ?_
        refine zr_iload_n (pc := 62) (zq_d eX11_hearsAct 19 rfl) 1 rfl rfl ?_
        refine zr_iload_n (pc := 63) (zq_d eX11_hearsAct 20 rfl) 2 rfl rfl ?_
        refine zr_Wsi (pc := 64) [_, _] (zq_d eX11_hearsAct 21 rfl) (s_X11_roomHears G N z X9 _ _) zd_X11_roomHears zl_RX11_434 om_69 rfl rfl rfl rfl (Nat.le_of_ble_eq_true rfl) (Nat.le_of_ble_eq_true rfl) (Nat.le_of_ble_eq_true rfl) ⟨Nat.le_refl _, Nat.le_refl _⟩ (fun v10 X11 => ?_)
        refine zr_ineg (pc := 67) (zq_d eX11_hearsAct 22 rfl) ?_
        exact zr_ireturn (pc := 68) (zq_d eX11_hearsAct 23 rfl) rfl rfl (Nat.zero_le _) (Nat.zero_le _)
      · refine zr_cs (fun q6 => ?_) (fun q6 => ?_)
        · refine zr_tab (pc := 6) (n := 5) 40 (zq_d eX11_hearsAct 4 rfl) q6 (by decide) (by decide) (by decide) rfl (by decide) ?_
          exact zr_lo [0, 1, 2] rfl (hj40_1)
        · refine zr_cs (fun q7 => ?_) (fun q7 => ?_)
          · refine zr_tab (pc := 6) (n := 6) 69 (zq_d eX11_hearsAct 4 rfl) q7 (by decide) (by decide) (by decide) rfl (by decide) ?_
            refine zr_aload_n (pc := 69) (zq_d eX11_hearsAct 24 rfl) 0 rfl rfl ?_
            refine zr_bipush (pc := 70) (zq_d eX11_hearsAct 25 rfl) zc_b71 ?_
            refine zr_Vv (pc := 72) [_] (zq_d eX11_hearsAct 26 rfl) (s_X11_body G N z X _) zd_X11_body zl_RX11_431 om_69 rfl rfl rfl rfl (Nat.le_of_ble_eq_true rfl) (Nat.le_of_ble_eq_true rfl) (Nat.le_of_ble_eq_true rfl) ⟨Nat.le_refl _, Nat.le_refl _⟩ (fun X6 => ?_)
            refine zr_aload_n (pc := 75) (zq_d eX11_hearsAct 27 rfl) 0 rfl rfl ?_
            refine zr_iload_n (pc := 76) (zq_d eX11_hearsAct 28 rfl) 1 rfl rfl ?_
            refine zr_iload_n (pc := 77) (zq_d eX11_hearsAct 29 rfl) 2 rfl rfl ?_
            refine zr_Wsi (pc := 78) [_, _] (zq_d eX11_hearsAct 30 rfl) (s_X11_roomHears G N z X6 _ _) zd_X11_roomHears zl_RX11_434 om_69 rfl rfl rfl rfl (Nat.le_of_ble_eq_true rfl) (Nat.le_of_ble_eq_true rfl) (Nat.le_of_ble_eq_true rfl) ⟨Nat.le_refl _, Nat.le_refl _⟩ (fun v7 X8 => ?_)
            refine zr_aload_n (pc := 81) (zq_d eX11_hearsAct 31 rfl) 0 rfl rfl ?_
            refine zr_getC (pc := 82) (zq_d eX11_hearsAct 32 rfl) zf_RX11_35 km_69_8 ?_
            refine zr_iload_n (pc := 85) (zq_d eX11_hearsAct 33 rfl) 1 rfl rfl ?_
            refine zr_iald (pc := 86) (zq_d eX11_hearsAct 34 rfl) am_74 ?_
            refine zr_ixor (pc := 87) (zq_d eX11_hearsAct 35 rfl) ?_
            exact zr_ireturn (pc := 88) (zq_d eX11_hearsAct 36 rfl) rfl rfl (Nat.zero_le _) (Nat.zero_le _)
          · refine zr_tabD (pc := 6) 89 (zq_d eX11_hearsAct 4 rfl) (by have t0 := zq_nt (n := 2) (by decide) q3; have t1 := zq_nt (n := 3) (by decide) q4; have t2 := zq_nt (n := 4) (by decide) q5; have t3 := zq_nt (n := 5) (by decide) q6; have t4 := zq_nt (n := 6) (by decide) q7; omega) (by decide) ?_
            exact zr_lo [0, 1, 2] rfl (hj89_2)
def f_X11_roomSpeaks (N : Nat) (X : zq_M) (a1 : Int32) (a2 : Int32) : Option (Int32 × zq_M) :=
  (f_X11_body N X (11 : Int32)).bind (fun X1 => (f_X11_hearsAct N X1 a1 a2).bind (zq_p (fun v2 X3 => zq_ck a1 3 (some ((v2 - (X3.1 74 (zq_ix a1))), X3)))))
set_option maxRecDepth 20000 in
set_option maxHeartbeats 8000000 in
theorem s_X11_roomSpeaks (G : zq_G) (N z : Nat) (X : zq_M) (a1 : Int32) (a2 : Int32) : zq_V G YX11_roomSpeaks (4, 0, 0) (zq_si zq_shM z) 0 0 0 (lv_args 0 [.ref (zq_ad G 69), .int a1, .int a2]) [] zq_shM z X (f_X11_roomSpeaks N X a1 a2) := by
  unfold f_X11_roomSpeaks
  refine zr_lo (l2 := [(0, .ref (zq_ad G 69)), (1, .int a1), (2, .int a2)]) [0, 1, 2] rfl ?_
  refine zr_aload_n (pc := 0) (zq_d eX11_roomSpeaks 0 rfl) 0 rfl rfl ?_
  refine zr_bipush (pc := 1) (zq_d eX11_roomSpeaks 1 rfl) zc_b11 ?_
  refine zr_Vv (pc := 3) [_] (zq_d eX11_roomSpeaks 2 rfl) (s_X11_body G N z X _) zd_X11_body zl_RX11_431 om_69 rfl rfl rfl rfl (Nat.le_of_ble_eq_true rfl) (Nat.le_of_ble_eq_true rfl) (Nat.le_of_ble_eq_true rfl) ⟨Nat.le_refl _, Nat.le_refl _⟩ (fun X1 => ?_)
  refine zr_aload_n (pc := 6) (zq_d eX11_roomSpeaks 3 rfl) 0 rfl rfl ?_
  refine zr_iload_n (pc := 7) (zq_d eX11_roomSpeaks 4 rfl) 1 rfl rfl ?_
  refine zr_iload_n (pc := 8) (zq_d eX11_roomSpeaks 5 rfl) 2 rfl rfl ?_
  refine zr_Wsi (pc := 9) [_, _] (zq_d eX11_roomSpeaks 6 rfl) (s_X11_hearsAct G N z X1 _ _) zd_X11_hearsAct zl_RX11_437 om_69 rfl rfl rfl rfl (Nat.le_of_ble_eq_true rfl) (Nat.le_of_ble_eq_true rfl) (Nat.le_of_ble_eq_true rfl) ⟨Nat.le_refl _, Nat.le_refl _⟩ (fun v2 X3 => ?_)
  refine zr_aload_n (pc := 12) (zq_d eX11_roomSpeaks 7 rfl) 0 rfl rfl ?_
  refine zr_getC (pc := 13) (zq_d eX11_roomSpeaks 8 rfl) zf_RX11_35 km_69_8 ?_
  refine zr_iload_n (pc := 16) (zq_d eX11_roomSpeaks 9 rfl) 1 rfl rfl ?_
  refine zr_iald (pc := 17) (zq_d eX11_roomSpeaks 10 rfl) am_74 ?_
  refine zr_isub (pc := 18) (zq_d eX11_roomSpeaks 11 rfl) ?_
  exact zr_ireturn (pc := 19) (zq_d eX11_roomSpeaks 12 rfl) rfl rfl (Nat.zero_le _) (Nat.zero_le _)
def f_X11_lowerSpeaks (N : Nat) (X : zq_M) (a1 : Int32) (a2 : Int32) : Option (Int32 × zq_M) :=
  (f_X11_body N X (20 : Int32)).bind (fun X1 => (f_X11_roomSpeaks N X1 a1 a2).bind (zq_p (fun v2 X3 => some ((v2 ^^^ (6 : Int32)), X3))))
set_option maxRecDepth 20000 in
set_option maxHeartbeats 8000000 in
theorem s_X11_lowerSpeaks (G : zq_G) (N z : Nat) (X : zq_M) (a1 : Int32) (a2 : Int32) : zq_V G YX11_lowerSpeaks (5, 0, 0) (zq_si zq_shM z) 0 0 0 (lv_args 0 [.ref (zq_ad G 69), .int a1, .int a2]) [] zq_shM z X (f_X11_lowerSpeaks N X a1 a2) := by
  unfold f_X11_lowerSpeaks
  refine zr_lo (l2 := [(0, .ref (zq_ad G 69)), (1, .int a1), (2, .int a2)]) [0, 1, 2] rfl ?_
  refine zr_aload_n (pc := 0) (zq_d eX11_lowerSpeaks 0 rfl) 0 rfl rfl ?_
  refine zr_bipush (pc := 1) (zq_d eX11_lowerSpeaks 1 rfl) zc_b20 ?_
  refine zr_Vv (pc := 3) [_] (zq_d eX11_lowerSpeaks 2 rfl) (s_X11_body G N z X _) zd_X11_body zl_RX11_431 om_69 rfl rfl rfl rfl (Nat.le_of_ble_eq_true rfl) (Nat.le_of_ble_eq_true rfl) (Nat.le_of_ble_eq_true rfl) ⟨Nat.le_refl _, Nat.le_refl _⟩ (fun X1 => ?_)
  refine zr_aload_n (pc := 6) (zq_d eX11_lowerSpeaks 3 rfl) 0 rfl rfl ?_
  refine zr_iload_n (pc := 7) (zq_d eX11_lowerSpeaks 4 rfl) 1 rfl rfl ?_
  refine zr_iload_n (pc := 8) (zq_d eX11_lowerSpeaks 5 rfl) 2 rfl rfl ?_
  refine zr_Wsi (pc := 9) [_, _] (zq_d eX11_lowerSpeaks 6 rfl) (s_X11_roomSpeaks G N z X1 _ _) zd_X11_roomSpeaks zl_RX11_440 om_69 rfl rfl rfl rfl (Nat.le_of_ble_eq_true rfl) (Nat.le_of_ble_eq_true rfl) (Nat.le_of_ble_eq_true rfl) ⟨Nat.le_refl _, Nat.le_refl _⟩ (fun v2 X3 => ?_)
  refine zr_bipush (pc := 12) (zq_d eX11_lowerSpeaks 7 rfl) zc_b6 ?_
  refine zr_ixor (pc := 14) (zq_d eX11_lowerSpeaks 8 rfl) ?_
  exact zr_ireturn (pc := 15) (zq_d eX11_lowerSpeaks 9 rfl) rfl rfl (Nat.zero_le _) (Nat.zero_le _)
def f_X11_speaksAct (N : Nat) (X : zq_M) (a1 : Int32) (a2 : Int32) : Option (Int32 × zq_M) :=
  zq_ck a1 3 (if (X.1 73 (zq_ix a1)) = (1 : Int32) then ((f_X11_lowerSpeaks N X a1 a2).bind (zq_p (fun v11 X12 => some (v11, X12)))) else (if (X.1 73 (zq_ix a1)) = (4 : Int32) then ((f_X11_body N X (51 : Int32)).bind (fun X8 => (f_X11_lowerSpeaks N X8 a1 (a2 + (1 : Int32))).bind (zq_p (fun v9 X10 => some (v9, X10))))) else (if (X.1 73 (zq_ix a1)) = (6 : Int32) then ((f_X11_body N X (70 : Int32)).bind (fun X3 => (f_X11_roomSpeaks N X3 a1 a2).bind (zq_p (fun v4 X5 => (f_X11_roomHears N X5 a1 (2 : Int32)).bind (zq_p (fun v6 X7 => some ((v4 + v6), X7))))))) else ((f_X11_roomSpeaks N X a1 a2).bind (zq_p (fun v1 X2 => some (v1, X2)))))))
set_option maxRecDepth 20000 in
set_option maxHeartbeats 8000000 in
theorem s_X11_speaksAct (G : zq_G) (N z : Nat) (X : zq_M) (a1 : Int32) (a2 : Int32) : zq_V G YX11_speaksAct (6, 0, 0) (zq_si zq_shM z) 0 0 0 (lv_args 0 [.ref (zq_ad G 69), .int a1, .int a2]) [] zq_shM z X (f_X11_speaksAct N X a1 a2) := by
  unfold f_X11_speaksAct
  refine zr_lo (l2 := [(0, .ref (zq_ad G 69)), (1, .int a1), (2, .int a2)]) [0, 1, 2] rfl ?_
  refine zr_aload_n (pc := 0) (zq_d eX11_speaksAct 0 rfl) 0 rfl rfl ?_
  refine zr_getC (pc := 1) (zq_d eX11_speaksAct 1 rfl) zf_RX11_32 km_69_7 ?_
  refine zr_iload_n (pc := 4) (zq_d eX11_speaksAct 2 rfl) 1 rfl rfl ?_
  refine zr_iald (pc := 5) (zq_d eX11_speaksAct 3 rfl) am_73 ?_
  refine zr_cs (fun q1 => ?_) (fun q1 => ?_)
  · refine zr_lok (pc := 6) (n := 1) 40 (zq_d eX11_speaksAct 4 rfl) q1 (by decide) (by decide) rfl (by decide) ?_
    refine zr_aload_n (pc := 40) (zq_d eX11_speaksAct 5 rfl) 0 rfl rfl ?_
    refine zr_iload_n (pc := 41) (zq_d eX11_speaksAct 6 rfl) 1 rfl rfl ?_
    refine zr_iload_n (pc := 42) (zq_d eX11_speaksAct 7 rfl) 2 rfl rfl ?_
    refine zr_Wsi (pc := 43) [_, _] (zq_d eX11_speaksAct 8 rfl) (s_X11_lowerSpeaks G N z X _ _) zd_X11_lowerSpeaks zl_RX11_443 om_69 rfl rfl rfl rfl (Nat.le_of_ble_eq_true rfl) (Nat.le_of_ble_eq_true rfl) (Nat.le_of_ble_eq_true rfl) ⟨Nat.le_refl _, Nat.le_refl _⟩ (fun v11 X12 => ?_)
    exact zr_ireturn (pc := 46) (zq_d eX11_speaksAct 9 rfl) rfl rfl (Nat.zero_le _) (Nat.zero_le _)
  · refine zr_cs (fun q2 => ?_) (fun q2 => ?_)
    · refine zr_lok (pc := 6) (n := 4) 47 (zq_d eX11_speaksAct 4 rfl) q2 (by decide) (by decide) rfl (by decide) ?_
      refine zr_aload_n (pc := 47) (zq_d eX11_speaksAct 10 rfl) 0 rfl rfl ?_
      refine zr_bipush (pc := 48) (zq_d eX11_speaksAct 11 rfl) zc_b51 ?_
      refine zr_Vv (pc := 50) [_] (zq_d eX11_speaksAct 12 rfl) (s_X11_body G N z X _) zd_X11_body zl_RX11_431 om_69 rfl rfl rfl rfl (Nat.le_of_ble_eq_true rfl) (Nat.le_of_ble_eq_true rfl) (Nat.le_of_ble_eq_true rfl) ⟨Nat.le_refl _, Nat.le_refl _⟩ (fun X8 => ?_)
      refine zr_aload_n (pc := 53) (zq_d eX11_speaksAct 13 rfl) 0 rfl rfl ?_
      refine zr_iload_n (pc := 54) (zq_d eX11_speaksAct 14 rfl) 1 rfl rfl ?_
      refine zr_iload_n (pc := 55) (zq_d eX11_speaksAct 15 rfl) 2 rfl rfl ?_
      refine zr_iconst (pc := 56) (zq_d eX11_speaksAct 16 rfl) zc_i1 ?_
      refine zr_iadd (pc := 57) (zq_d eX11_speaksAct 17 rfl) ?_
      refine zr_Wsi (pc := 58) [_, _] (zq_d eX11_speaksAct 18 rfl) (s_X11_lowerSpeaks G N z X8 _ _) zd_X11_lowerSpeaks zl_RX11_443 om_69 rfl rfl rfl rfl (Nat.le_of_ble_eq_true rfl) (Nat.le_of_ble_eq_true rfl) (Nat.le_of_ble_eq_true rfl) ⟨Nat.le_refl _, Nat.le_refl _⟩ (fun v9 X10 => ?_)
      exact zr_ireturn (pc := 61) (zq_d eX11_speaksAct 19 rfl) rfl rfl (Nat.zero_le _) (Nat.zero_le _)
    · refine zr_cs (fun q3 => ?_) (fun q3 => ?_)
      · refine zr_lok (pc := 6) (n := 6) 62 (zq_d eX11_speaksAct 4 rfl) q3 (by decide) (by decide) rfl (by decide) ?_
        refine zr_aload_n (pc := 62) (zq_d eX11_speaksAct 20 rfl) 0 rfl rfl ?_
        refine zr_bipush (pc := 63) (zq_d eX11_speaksAct 21 rfl) zc_b70 ?_
        refine zr_Vv (pc := 65) [_] (zq_d eX11_speaksAct 22 rfl) (s_X11_body G N z X _) zd_X11_body zl_RX11_431 om_69 rfl rfl rfl rfl (Nat.le_of_ble_eq_true rfl) (Nat.le_of_ble_eq_true rfl) (Nat.le_of_ble_eq_true rfl) ⟨Nat.le_refl _, Nat.le_refl _⟩ (fun X3 => ?_)
        refine zr_aload_n (pc := 68) (zq_d eX11_speaksAct 23 rfl) 0 rfl rfl ?_
        refine zr_iload_n (pc := 69) (zq_d eX11_speaksAct 24 rfl) 1 rfl rfl ?_
        refine zr_iload_n (pc := 70) (zq_d eX11_speaksAct 25 rfl) 2 rfl rfl ?_
        refine zr_Wsi (pc := 71) [_, _] (zq_d eX11_speaksAct 26 rfl) (s_X11_roomSpeaks G N z X3 _ _) zd_X11_roomSpeaks zl_RX11_440 om_69 rfl rfl rfl rfl (Nat.le_of_ble_eq_true rfl) (Nat.le_of_ble_eq_true rfl) (Nat.le_of_ble_eq_true rfl) ⟨Nat.le_refl _, Nat.le_refl _⟩ (fun v4 X5 => ?_)
        refine zr_istore_n (pc := 74) (lo2 := [(3, .int v4), (0, .ref (zq_ad G 69)), (1, .int a1), (2, .int a2)]) (zq_d eX11_speaksAct 27 rfl) rfl (Nat.le_of_ble_eq_true rfl) rfl ?_
        refine zr_iload_n (pc := 75) (zq_d eX11_speaksAct 28 rfl) 0 rfl rfl ?_
        refine zr_aload_n (pc := 76) (zq_d eX11_speaksAct 29 rfl) 1 rfl rfl ?_
        refine zr_iload_n (pc := 77) (zq_d eX11_speaksAct 30 rfl) 2 rfl rfl ?_
        refine zr_iconst (pc := 78) (zq_d eX11_speaksAct 31 rfl) zc_i2 ?_
        refine zr_Wsi (pc := 79) [_, _] (zq_d eX11_speaksAct 32 rfl) (s_X11_roomHears G N z X5 _ _) zd_X11_roomHears zl_RX11_434 om_69 rfl rfl rfl rfl (Nat.le_of_ble_eq_true rfl) (Nat.le_of_ble_eq_true rfl) (Nat.le_of_ble_eq_true rfl) ⟨Nat.le_refl _, Nat.le_refl _⟩ (fun v6 X7 => ?_)
        refine zr_iadd (pc := 82) (zq_d eX11_speaksAct 33 rfl) ?_
        exact zr_ireturn (pc := 83) (zq_d eX11_speaksAct 34 rfl) rfl rfl (Nat.zero_le _) (Nat.zero_le _)
      · refine zr_lokD (pc := 6) 84 (zq_d eX11_speaksAct 4 rfl) (by decide) (List.forall_mem_cons.mpr ⟨zq_nt (by decide) q1, List.forall_mem_cons.mpr ⟨zq_nt (by decide) q2, List.forall_mem_cons.mpr ⟨zq_nt (by decide) q3, List.forall_mem_nil _⟩⟩⟩) (by decide) ?_
        refine zr_aload_n (pc := 84) (zq_d eX11_speaksAct 35 rfl) 0 rfl rfl ?_
        refine zr_iload_n (pc := 85) (zq_d eX11_speaksAct 36 rfl) 1 rfl rfl ?_
        refine zr_iload_n (pc := 86) (zq_d eX11_speaksAct 37 rfl) 2 rfl rfl ?_
        refine zr_Wsi (pc := 87) [_, _] (zq_d eX11_speaksAct 38 rfl) (s_X11_roomSpeaks G N z X _ _) zd_X11_roomSpeaks zl_RX11_440 om_69 rfl rfl rfl rfl (Nat.le_of_ble_eq_true rfl) (Nat.le_of_ble_eq_true rfl) (Nat.le_of_ble_eq_true rfl) ⟨Nat.le_refl _, Nat.le_refl _⟩ (fun v1 X2 => ?_)
        exact zr_ireturn (pc := 90) (zq_d eX11_speaksAct 39 rfl) rfl rfl (Nat.zero_le _) (Nat.zero_le _)
def f_X11_roomTells (N : Nat) (X : zq_M) (a1 : Int32) (a2 : Int32) : Option (Int32 × zq_M) :=
  (f_X11_body N X (12 : Int32)).bind (fun X1 => (f_X11_speaksAct N X1 a1 a2).bind (zq_p (fun v2 X3 => some ((v2 * (2 : Int32)), X3))))
set_option maxRecDepth 20000 in
set_option maxHeartbeats 8000000 in
theorem s_X11_roomTells (G : zq_G) (N z : Nat) (X : zq_M) (a1 : Int32) (a2 : Int32) : zq_V G YX11_roomTells (7, 0, 0) (zq_si zq_shM z) 0 0 0 (lv_args 0 [.ref (zq_ad G 69), .int a1, .int a2]) [] zq_shM z X (f_X11_roomTells N X a1 a2) := by
  unfold f_X11_roomTells
  refine zr_lo (l2 := [(0, .ref (zq_ad G 69)), (1, .int a1), (2, .int a2)]) [0, 1, 2] rfl ?_
  refine zr_aload_n (pc := 0) (zq_d eX11_roomTells 0 rfl) 0 rfl rfl ?_
  refine zr_bipush (pc := 1) (zq_d eX11_roomTells 1 rfl) zc_b12 ?_
  refine zr_Vv (pc := 3) [_] (zq_d eX11_roomTells 2 rfl) (s_X11_body G N z X _) zd_X11_body zl_RX11_431 om_69 rfl rfl rfl rfl (Nat.le_of_ble_eq_true rfl) (Nat.le_of_ble_eq_true rfl) (Nat.le_of_ble_eq_true rfl) ⟨Nat.le_refl _, Nat.le_refl _⟩ (fun X1 => ?_)
  refine zr_aload_n (pc := 6) (zq_d eX11_roomTells 3 rfl) 0 rfl rfl ?_
  refine zr_iload_n (pc := 7) (zq_d eX11_roomTells 4 rfl) 1 rfl rfl ?_
  refine zr_iload_n (pc := 8) (zq_d eX11_roomTells 5 rfl) 2 rfl rfl ?_
  refine zr_Wsi (pc := 9) [_, _] (zq_d eX11_roomTells 6 rfl) (s_X11_speaksAct G N z X1 _ _) zd_X11_speaksAct zl_RX11_446 om_69 rfl rfl rfl rfl (Nat.le_of_ble_eq_true rfl) (Nat.le_of_ble_eq_true rfl) (Nat.le_of_ble_eq_true rfl) ⟨Nat.le_refl _, Nat.le_refl _⟩ (fun v2 X3 => ?_)
  refine zr_iconst (pc := 12) (zq_d eX11_roomTells 7 rfl) zc_i2 ?_
  refine zr_imul (pc := 13) (zq_d eX11_roomTells 8 rfl) ?_
  exact zr_ireturn (pc := 14) (zq_d eX11_roomTells 9 rfl) rfl rfl (Nat.zero_le _) (Nat.zero_le _)
def j_X11_tellsAct_36 (N : Nat) (X : zq_M) (a1 : Int32) (a2 : Int32)  : Option (Int32 × zq_M) :=
  (f_X11_body N X (40 : Int32)).bind (fun X1 => (f_X11_roomTells N X1 a1 a2).bind (zq_p (fun v2 X3 => (f_X11_speaksAct N X3 a1 (1 : Int32)).bind (zq_p (fun v4 X5 => some ((v2 + v4), X5))))))
def j_X11_tellsAct_73 (N : Nat) (X : zq_M) (a1 : Int32) (a2 : Int32)  : Option (Int32 × zq_M) :=
  (f_X11_roomTells N X a1 a2).bind (zq_p (fun v6 X7 => some (v6, X7)))
def f_X11_tellsAct (N : Nat) (X : zq_M) (a1 : Int32) (a2 : Int32) : Option (Int32 × zq_M) :=
  zq_ck a1 3 (if (X.1 73 (zq_ix a1)) = (3 : Int32) then (j_X11_tellsAct_36 N X a1 a2) else (if (X.1 73 (zq_ix a1)) = (4 : Int32) then (j_X11_tellsAct_73 N X a1 a2) else (if (X.1 73 (zq_ix a1)) = (5 : Int32) then ((f_X11_body N X (60 : Int32)).bind (fun X8 => (f_X11_roomTells N X8 a1 (a2 - a1)).bind (zq_p (fun v9 X10 => some (v9, X10))))) else (if (X.1 73 (zq_ix a1)) = (6 : Int32) then (j_X11_tellsAct_36 N X a1 a2) else (j_X11_tellsAct_73 N X a1 a2)))))
set_option maxRecDepth 20000 in
set_option maxHeartbeats 8000000 in
theorem s_X11_tellsAct (G : zq_G) (N z : Nat) (X : zq_M) (a1 : Int32) (a2 : Int32) : zq_V G YX11_tellsAct (8, 0, 0) (zq_si zq_shM z) 0 0 0 (lv_args 0 [.ref (zq_ad G 69), .int a1, .int a2]) [] zq_shM z X (f_X11_tellsAct N X a1 a2) := by
  unfold f_X11_tellsAct
  refine zr_lo (l2 := [(0, .ref (zq_ad G 69)), (1, .int a1), (2, .int a2)]) [0, 1, 2] rfl ?_
  refine zr_aload_n (pc := 0) (zq_d eX11_tellsAct 0 rfl) 0 rfl rfl ?_
  refine zr_getC (pc := 1) (zq_d eX11_tellsAct 1 rfl) zf_RX11_32 km_69_7 ?_
  refine zr_iload_n (pc := 4) (zq_d eX11_tellsAct 2 rfl) 1 rfl rfl ?_
  refine zr_iald (pc := 5) (zq_d eX11_tellsAct 3 rfl) am_73 ?_
  have hj36_1 : zq_V G YX11_tellsAct (8, 0, 0) (zq_si zq_shM z) 0 0 36 [(0, .ref (zq_ad G 69)), (1, .int a1), (2, .int a2)] [] zq_shM z X (j_X11_tellsAct_36 N X a1 a2) := by
    unfold j_X11_tellsAct_36
    refine zr_aload_n (pc := 36) (zq_d eX11_tellsAct 5 rfl) 0 rfl rfl ?_
    refine zr_bipush (pc := 37) (zq_d eX11_tellsAct 6 rfl) zc_b40 ?_
    refine zr_Vv (pc := 39) [_] (zq_d eX11_tellsAct 7 rfl) (s_X11_body G N z X _) zd_X11_body zl_RX11_431 om_69 rfl rfl rfl rfl (Nat.le_of_ble_eq_true rfl) (Nat.le_of_ble_eq_true rfl) (Nat.le_of_ble_eq_true rfl) ⟨Nat.le_refl _, Nat.le_refl _⟩ (fun X1 => ?_)
    refine zr_aload_n (pc := 42) (zq_d eX11_tellsAct 8 rfl) 0 rfl rfl ?_
    refine zr_iload_n (pc := 43) (zq_d eX11_tellsAct 9 rfl) 1 rfl rfl ?_
    refine zr_iload_n (pc := 44) (zq_d eX11_tellsAct 10 rfl) 2 rfl rfl ?_
    refine zr_Wsi (pc := 45) [_, _] (zq_d eX11_tellsAct 11 rfl) (s_X11_roomTells G N z X1 _ _) zd_X11_roomTells zl_RX11_449 om_69 rfl rfl rfl rfl (Nat.le_of_ble_eq_true rfl) (Nat.le_of_ble_eq_true rfl) (Nat.le_of_ble_eq_true rfl) ⟨Nat.le_refl _, Nat.le_refl _⟩ (fun v2 X3 => ?_)
    refine zr_istore_n (pc := 48) (lo2 := [(3, .int v2), (0, .ref (zq_ad G 69)), (1, .int a1), (2, .int a2)]) (zq_d eX11_tellsAct 12 rfl) rfl (Nat.le_of_ble_eq_true rfl) rfl ?_
    refine zr_iload_n (pc := 49) (zq_d eX11_tellsAct 13 rfl) 0 rfl rfl ?_
    refine zr_aload_n (pc := 50) (zq_d eX11_tellsAct 14 rfl) 1 rfl rfl ?_
    refine zr_iload_n (pc := 51) (zq_d eX11_tellsAct 15 rfl) 2 rfl rfl ?_
    refine zr_iconst (pc := 52) (zq_d eX11_tellsAct 16 rfl) zc_i1 ?_
    refine zr_Wsi (pc := 53) [_, _] (zq_d eX11_tellsAct 17 rfl) (s_X11_speaksAct G N z X3 _ _) zd_X11_speaksAct zl_RX11_446 om_69 rfl rfl rfl rfl (Nat.le_of_ble_eq_true rfl) (Nat.le_of_ble_eq_true rfl) (Nat.le_of_ble_eq_true rfl) ⟨Nat.le_refl _, Nat.le_refl _⟩ (fun v4 X5 => ?_)
    refine zr_iadd (pc := 56) (zq_d eX11_tellsAct 18 rfl) ?_
    exact zr_ireturn (pc := 57) (zq_d eX11_tellsAct 19 rfl) rfl rfl (Nat.zero_le _) (Nat.zero_le _)
  have hj73_2 : zq_V G YX11_tellsAct (8, 0, 0) (zq_si zq_shM z) 0 0 73 [(0, .ref (zq_ad G 69)), (1, .int a1), (2, .int a2)] [] zq_shM z X (j_X11_tellsAct_73 N X a1 a2) := by
    unfold j_X11_tellsAct_73
    refine zr_aload_n (pc := 73) (zq_d eX11_tellsAct 30 rfl) 0 rfl rfl ?_
    refine zr_iload_n (pc := 74) (zq_d eX11_tellsAct 31 rfl) 1 rfl rfl ?_
    refine zr_iload_n (pc := 75) (zq_d eX11_tellsAct 32 rfl) 2 rfl rfl ?_
    refine zr_Wsi (pc := 76) [_, _] (zq_d eX11_tellsAct 33 rfl) (s_X11_roomTells G N z X _ _) zd_X11_roomTells zl_RX11_449 om_69 rfl rfl rfl rfl (Nat.le_of_ble_eq_true rfl) (Nat.le_of_ble_eq_true rfl) (Nat.le_of_ble_eq_true rfl) ⟨Nat.le_refl _, Nat.le_refl _⟩ (fun v6 X7 => ?_)
    exact zr_ireturn (pc := 79) (zq_d eX11_tellsAct 34 rfl) rfl rfl (Nat.zero_le _) (Nat.zero_le _)
  refine zr_cs (fun q3 => ?_) (fun q3 => ?_)
  · refine zr_tab (pc := 6) (n := 3) 36 (zq_d eX11_tellsAct 4 rfl) q3 (by decide) (by decide) (by decide) rfl (by decide) ?_
    exact zr_lo [0, 1, 2] rfl (hj36_1)
  · refine zr_cs (fun q4 => ?_) (fun q4 => ?_)
    · refine zr_tab (pc := 6) (n := 4) 73 (zq_d eX11_tellsAct 4 rfl) q4 (by decide) (by decide) (by decide) rfl (by decide) ?_
      exact zr_lo [0, 1, 2] rfl (hj73_2)
    · refine zr_cs (fun q5 => ?_) (fun q5 => ?_)
      · refine zr_tab (pc := 6) (n := 5) 58 (zq_d eX11_tellsAct 4 rfl) q5 (by decide) (by decide) (by decide) rfl (by decide) ?_
        refine zr_aload_n (pc := 58) (zq_d eX11_tellsAct 20 rfl) 0 rfl rfl ?_
        refine zr_bipush (pc := 59) (zq_d eX11_tellsAct 21 rfl) zc_b60 ?_
        refine zr_Vv (pc := 61) [_] (zq_d eX11_tellsAct 22 rfl) (s_X11_body G N z X _) zd_X11_body zl_RX11_431 om_69 rfl rfl rfl rfl (Nat.le_of_ble_eq_true rfl) (Nat.le_of_ble_eq_true rfl) (Nat.le_of_ble_eq_true rfl) ⟨Nat.le_refl _, Nat.le_refl _⟩ (fun X8 => ?_)
        refine zr_aload_n (pc := 64) (zq_d eX11_tellsAct 23 rfl) 0 rfl rfl ?_
        refine zr_iload_n (pc := 65) (zq_d eX11_tellsAct 24 rfl) 1 rfl rfl ?_
        refine zr_iload_n (pc := 66) (zq_d eX11_tellsAct 25 rfl) 2 rfl rfl ?_
        refine zr_iload_n (pc := 67) (zq_d eX11_tellsAct 26 rfl) 1 rfl rfl ?_
        refine zr_isub (pc := 68) (zq_d eX11_tellsAct 27 rfl) ?_
        refine zr_Wsi (pc := 69) [_, _] (zq_d eX11_tellsAct 28 rfl) (s_X11_roomTells G N z X8 _ _) zd_X11_roomTells zl_RX11_449 om_69 rfl rfl rfl rfl (Nat.le_of_ble_eq_true rfl) (Nat.le_of_ble_eq_true rfl) (Nat.le_of_ble_eq_true rfl) ⟨Nat.le_refl _, Nat.le_refl _⟩ (fun v9 X10 => ?_)
        exact zr_ireturn (pc := 72) (zq_d eX11_tellsAct 29 rfl) rfl rfl (Nat.zero_le _) (Nat.zero_le _)
      · refine zr_cs (fun q6 => ?_) (fun q6 => ?_)
        · refine zr_tab (pc := 6) (n := 6) 36 (zq_d eX11_tellsAct 4 rfl) q6 (by decide) (by decide) (by decide) rfl (by decide) ?_
          exact zr_lo [0, 1, 2] rfl (hj36_1)
        · refine zr_tabD (pc := 6) 73 (zq_d eX11_tellsAct 4 rfl) (by have t0 := zq_nt (n := 3) (by decide) q3; have t1 := zq_nt (n := 4) (by decide) q4; have t2 := zq_nt (n := 5) (by decide) q5; have t3 := zq_nt (n := 6) (by decide) q6; omega) (by decide) ?_
          exact zr_lo [0, 1, 2] rfl (hj73_2)
def f_X11_act (N : Nat) (X : zq_M) (a1 : Int32) (a2 : Int32) (a3 : Int32) : Option (Int32 × zq_M) :=
  zq_b (zq_u1 X 69 61 (0 : Int32)) (fun X1 => (f_X11_isRoom N X1 a1).bind (fun v2 => if v2 = 0 then (some ((0 : Int32), X1)) else ((f_X11_within N X1 a2 (0 : Int32) (2 : Int32)).bind (fun v3 => if ¬ v3 = 0 then (if ¬ a2 = 0 then (if ¬ a2 = (1 : Int32) then ((f_X11_tellsAct N X1 a1 a3).bind (zq_p (fun v4 X5 => some (v4, X5)))) else ((f_X11_speaksAct N X1 a1 a3).bind (zq_p (fun v6 X7 => some (v6, X7))))) else ((f_X11_hearsAct N X1 a1 a3).bind (zq_p (fun v8 X9 => some (v8, X9))))) else (some ((0 : Int32), X1))))))
set_option maxRecDepth 20000 in
set_option maxHeartbeats 8000000 in
theorem s_X11_act (G : zq_G) (N z : Nat) (X : zq_M) (a1 : Int32) (a2 : Int32) (a3 : Int32) : zq_V G YX11_act (9, 0, 0) (zq_si zq_shM z) 0 0 0 (lv_args 0 [.ref (zq_ad G 69), .int a1, .int a2, .int a3]) [] zq_shM z X (f_X11_act N X a1 a2 a3) := by
  unfold f_X11_act
  refine zr_lo (l2 := [(0, .ref (zq_ad G 69)), (1, .int a1), (2, .int a2), (3, .int a3)]) [0, 1, 2, 3] rfl ?_
  refine zr_aload_n (pc := 0) (zq_d eX11_act 0 rfl) 0 rfl rfl ?_
  refine zr_iconst (pc := 1) (zq_d eX11_act 1 rfl) zc_i0 ?_
  refine zr_putI (pc := 2) (zq_d eX11_act 2 rfl) zf_RX11_198 km_69_61 zn_11_61 (fun X1 => ?_)
  refine zr_aload_n (pc := 5) (zq_d eX11_act 3 rfl) 0 rfl rfl ?_
  refine zr_iload_n (pc := 6) (zq_d eX11_act 4 rfl) 1 rfl rfl ?_
  refine zr_Vi (pc := 7) [_] (zq_d eX11_act 5 rfl) (s_X11_isRoom G N z X1 _) zd_X11_isRoom zl_RX11_259 om_69 rfl rfl rfl rfl (Nat.le_of_ble_eq_true rfl) (Nat.le_of_ble_eq_true rfl) (Nat.le_of_ble_eq_true rfl) ⟨Nat.le_refl _, Nat.le_refl _⟩ (fun v2 => ?_)
  refine zr_if_eq (pc := 10) 23 (zq_d eX11_act 6 rfl) (by decide) (fun _ => ?_) (fun _ => ?_)
  · refine zr_iconst (pc := 23) (zq_d eX11_act 13 rfl) zc_i0 ?_
    exact zr_ireturn (pc := 24) (zq_d eX11_act 14 rfl) rfl rfl (Nat.zero_le _) (Nat.zero_le _)
  · refine zr_aload_n (pc := 13) (zq_d eX11_act 7 rfl) 0 rfl rfl ?_
    refine zr_iload_n (pc := 14) (zq_d eX11_act 8 rfl) 2 rfl rfl ?_
    refine zr_iconst (pc := 15) (zq_d eX11_act 9 rfl) zc_i0 ?_
    refine zr_iconst (pc := 16) (zq_d eX11_act 10 rfl) zc_i2 ?_
    refine zr_Vi (pc := 17) [_, _, _] (zq_d eX11_act 11 rfl) (s_X11_within G N z X1 _ _ _) zd_X11_within zl_RX11_217 om_69 rfl rfl rfl rfl (Nat.le_of_ble_eq_true rfl) (Nat.le_of_ble_eq_true rfl) (Nat.le_of_ble_eq_true rfl) ⟨Nat.le_refl _, Nat.le_refl _⟩ (fun v3 => ?_)
    refine zr_if_ne (pc := 20) 25 (zq_d eX11_act 12 rfl) (by decide) (fun _ => ?_) (fun _ => ?_)
    · refine zr_iload_n (pc := 25) (zq_d eX11_act 15 rfl) 2 rfl rfl ?_
      refine zr_if_ne (pc := 26) 38 (zq_d eX11_act 16 rfl) (by decide) (fun _ => ?_) (fun _ => ?_)
      · refine zr_iload_n (pc := 38) (zq_d eX11_act 22 rfl) 2 rfl rfl ?_
        refine zr_iconst (pc := 39) (zq_d eX11_act 23 rfl) zc_i1 ?_
        refine zr_icmp_ne (pc := 40) 52 (zq_d eX11_act 24 rfl) (by decide) (fun _ => ?_) (fun _ => ?_)
        · refine zr_aload_n (pc := 52) (zq_d eX11_act 30 rfl) 0 rfl rfl ?_
          refine zr_iload_n (pc := 53) (zq_d eX11_act 31 rfl) 1 rfl rfl ?_
          refine zr_iload_n (pc := 54) (zq_d eX11_act 32 rfl) 3 rfl rfl ?_
          refine zr_Wsi (pc := 55) [_, _] (zq_d eX11_act 33 rfl) (s_X11_tellsAct G N z X1 _ _) zd_X11_tellsAct zl_RX11_452 om_69 rfl rfl rfl rfl (Nat.le_of_ble_eq_true rfl) (Nat.le_of_ble_eq_true rfl) (Nat.le_of_ble_eq_true rfl) ⟨Nat.le_refl _, Nat.le_refl _⟩ (fun v4 X5 => ?_)
          exact zr_ireturn (pc := 58) (zq_d eX11_act 34 rfl) rfl rfl (Nat.zero_le _) (Nat.zero_le _)
        · refine zr_aload_n (pc := 43) (zq_d eX11_act 25 rfl) 0 rfl rfl ?_
          refine zr_iload_n (pc := 44) (zq_d eX11_act 26 rfl) 1 rfl rfl ?_
          refine zr_iload_n (pc := 45) (zq_d eX11_act 27 rfl) 3 rfl rfl ?_
          refine zr_Wsi (pc := 46) [_, _] (zq_d eX11_act 28 rfl) (s_X11_speaksAct G N z X1 _ _) zd_X11_speaksAct zl_RX11_446 om_69 rfl rfl rfl rfl (Nat.le_of_ble_eq_true rfl) (Nat.le_of_ble_eq_true rfl) (Nat.le_of_ble_eq_true rfl) ⟨Nat.le_refl _, Nat.le_refl _⟩ (fun v6 X7 => ?_)
          refine zr_goto (pc := 49) 58 (zq_d eX11_act 29 rfl) (by decide) ?_
          exact zr_ireturn (pc := 58) (zq_d eX11_act 34 rfl) rfl rfl (Nat.zero_le _) (Nat.zero_le _)
      · refine zr_aload_n (pc := 29) (zq_d eX11_act 17 rfl) 0 rfl rfl ?_
        refine zr_iload_n (pc := 30) (zq_d eX11_act 18 rfl) 1 rfl rfl ?_
        refine zr_iload_n (pc := 31) (zq_d eX11_act 19 rfl) 3 rfl rfl ?_
        refine zr_Wsi (pc := 32) [_, _] (zq_d eX11_act 20 rfl) (s_X11_hearsAct G N z X1 _ _) zd_X11_hearsAct zl_RX11_437 om_69 rfl rfl rfl rfl (Nat.le_of_ble_eq_true rfl) (Nat.le_of_ble_eq_true rfl) (Nat.le_of_ble_eq_true rfl) ⟨Nat.le_refl _, Nat.le_refl _⟩ (fun v8 X9 => ?_)
        refine zr_goto (pc := 35) 58 (zq_d eX11_act 21 rfl) (by decide) ?_
        exact zr_ireturn (pc := 58) (zq_d eX11_act 34 rfl) rfl rfl (Nat.zero_le _) (Nat.zero_le _)
    · refine zr_iconst (pc := 23) (zq_d eX11_act 13 rfl) zc_i0 ?_
      exact zr_ireturn (pc := 24) (zq_d eX11_act 14 rfl) rfl rfl (Nat.zero_le _) (Nat.zero_le _)
def f_X11_trace (N : Nat) (X : zq_M) (a1 : Int32) : Option Int32 :=
  (f_X11_within N X a1 (0 : Int32) (19 : Int32)).bind (fun v1 => if v1 = 0 then (some (-1 : Int32)) else (if (X.1 69 61) ≤ a1 then (some (-1 : Int32)) else (zq_ck a1 20 (some (X.1 106 (zq_ix a1))))))
set_option maxRecDepth 20000 in
set_option maxHeartbeats 8000000 in
theorem s_X11_trace (G : zq_G) (N z : Nat) (X : zq_M) (a1 : Int32) : zq_V G YX11_trace (2, 0, 0) (zq_ei zq_shM z X) 0 0 0 (lv_args 0 [.ref (zq_ad G 69), .int a1]) [] zq_shM z X (f_X11_trace N X a1) := by
  unfold f_X11_trace
  refine zr_lo (l2 := [(0, .ref (zq_ad G 69)), (1, .int a1)]) [0, 1] rfl ?_
  refine zr_aload_n (pc := 0) (zq_d eX11_trace 0 rfl) 0 rfl rfl ?_
  refine zr_iload_n (pc := 1) (zq_d eX11_trace 1 rfl) 1 rfl rfl ?_
  refine zr_iconst (pc := 2) (zq_d eX11_trace 2 rfl) zc_i0 ?_
  refine zr_bipush (pc := 3) (zq_d eX11_trace 3 rfl) zc_b19 ?_
  refine zr_Vi (pc := 5) [_, _, _] (zq_d eX11_trace 4 rfl) (s_X11_within G N z X _ _ _) zd_X11_within zl_RX11_217 om_69 rfl rfl rfl rfl (Nat.le_of_ble_eq_true rfl) (Nat.le_of_ble_eq_true rfl) (Nat.le_of_ble_eq_true rfl) ⟨Nat.le_refl _, Nat.le_refl _⟩ (fun v1 => ?_)
  refine zr_if_eq (pc := 8) 28 (zq_d eX11_trace 5 rfl) (by decide) (fun _ => ?_) (fun _ => ?_)
  · refine zr_iconst (pc := 28) (zq_d eX11_trace 15 rfl) zc_im1 ?_
    exact zr_ireturn (pc := 29) (zq_d eX11_trace 16 rfl) rfl rfl (Nat.zero_le _) (Nat.zero_le _)
  · refine zr_iload_n (pc := 11) (zq_d eX11_trace 6 rfl) 1 rfl rfl ?_
    refine zr_aload_n (pc := 12) (zq_d eX11_trace 7 rfl) 0 rfl rfl ?_
    refine zr_getI (pc := 13) (zq_d eX11_trace 8 rfl) zf_RX11_198 km_69_61 ?_
    refine zr_icmp_ge (pc := 16) 28 (zq_d eX11_trace 9 rfl) (by decide) (fun _ => ?_) (fun _ => ?_)
    · refine zr_iconst (pc := 28) (zq_d eX11_trace 15 rfl) zc_im1 ?_
      exact zr_ireturn (pc := 29) (zq_d eX11_trace 16 rfl) rfl rfl (Nat.zero_le _) (Nat.zero_le _)
    · refine zr_aload_n (pc := 19) (zq_d eX11_trace 10 rfl) 0 rfl rfl ?_
      refine zr_getC (pc := 20) (zq_d eX11_trace 11 rfl) zf_RX11_201 km_69_62 ?_
      refine zr_iload_n (pc := 23) (zq_d eX11_trace 12 rfl) 1 rfl rfl ?_
      refine zr_iald (pc := 24) (zq_d eX11_trace 13 rfl) am_106 ?_
      refine zr_goto (pc := 25) 29 (zq_d eX11_trace 14 rfl) (by decide) ?_
      exact zr_ireturn (pc := 29) (zq_d eX11_trace 16 rfl) rfl rfl (Nat.zero_le _) (Nat.zero_le _)
def j_X11_taken_61 (X : zq_M) (a1 : Int32) (a2 : Int32)  : Option Int32 :=
  if ¬ a2 = (3 : Int32) then (some (-12 : Int32)) else (if ¬ (X.1 73 (zq_ix a1)) = (6 : Int32) then (some (-12 : Int32)) else (some (X.1 73 (zq_ix a1))))
def j_X11_taken_51 (X : zq_M) (a1 : Int32) (a2 : Int32)  : Option Int32 :=
  if ¬ a2 = (2 : Int32) then (j_X11_taken_61 X a1 a2) else (if (X.1 73 (zq_ix a1)) = (5 : Int32) then (some (X.1 73 (zq_ix a1))) else (j_X11_taken_61 X a1 a2))
def f_X11_taken (N : Nat) (X : zq_M) (a1 : Int32) (a2 : Int32) : Option Int32 :=
  (f_X11_within N X a2 (0 : Int32) (6 : Int32)).bind (fun v1 => if ¬ v1 = 0 then ((f_X11_isRoom N X a1).bind (fun v2 => if ¬ v2 = 0 then (zq_ck a1 3 (if a2 = 0 then (some (X.1 73 (zq_ix a1))) else (if (X.1 73 (zq_ix a1)) = a2 then (some (X.1 73 (zq_ix a1))) else (if ¬ a2 = (1 : Int32) then (j_X11_taken_51 X a1 a2) else (if (X.1 73 (zq_ix a1)) = (4 : Int32) then (some (X.1 73 (zq_ix a1))) else (j_X11_taken_51 X a1 a2)))))) else (some (-11 : Int32)))) else (some (-2 : Int32)))
set_option maxRecDepth 20000 in
set_option maxHeartbeats 8000000 in
theorem s_X11_taken (G : zq_G) (N z : Nat) (X : zq_M) (a1 : Int32) (a2 : Int32) : zq_V G YX11_taken (3, 0, 0) (zq_ei zq_shM z X) 0 0 0 (lv_args 0 [.ref (zq_ad G 69), .int a1, .int a2]) [] zq_shM z X (f_X11_taken N X a1 a2) := by
  unfold f_X11_taken
  refine zr_lo (l2 := [(0, .ref (zq_ad G 69)), (1, .int a1), (2, .int a2)]) [0, 1, 2] rfl ?_
  refine zr_aload_n (pc := 0) (zq_d eX11_taken 0 rfl) 0 rfl rfl ?_
  refine zr_iload_n (pc := 1) (zq_d eX11_taken 1 rfl) 2 rfl rfl ?_
  refine zr_iconst (pc := 2) (zq_d eX11_taken 2 rfl) zc_i0 ?_
  refine zr_bipush (pc := 3) (zq_d eX11_taken 3 rfl) zc_b6 ?_
  refine zr_Vi (pc := 5) [_, _, _] (zq_d eX11_taken 4 rfl) (s_X11_within G N z X _ _ _) zd_X11_within zl_RX11_217 om_69 rfl rfl rfl rfl (Nat.le_of_ble_eq_true rfl) (Nat.le_of_ble_eq_true rfl) (Nat.le_of_ble_eq_true rfl) ⟨Nat.le_refl _, Nat.le_refl _⟩ (fun v1 => ?_)
  refine zr_if_ne (pc := 8) 14 (zq_d eX11_taken 5 rfl) (by decide) (fun _ => ?_) (fun _ => ?_)
  · refine zr_aload_n (pc := 14) (zq_d eX11_taken 8 rfl) 0 rfl rfl ?_
    refine zr_iload_n (pc := 15) (zq_d eX11_taken 9 rfl) 1 rfl rfl ?_
    refine zr_Vi (pc := 16) [_] (zq_d eX11_taken 10 rfl) (s_X11_isRoom G N z X _) zd_X11_isRoom zl_RX11_259 om_69 rfl rfl rfl rfl (Nat.le_of_ble_eq_true rfl) (Nat.le_of_ble_eq_true rfl) (Nat.le_of_ble_eq_true rfl) ⟨Nat.le_refl _, Nat.le_refl _⟩ (fun v2 => ?_)
    refine zr_if_ne (pc := 19) 25 (zq_d eX11_taken 11 rfl) (by decide) (fun _ => ?_) (fun _ => ?_)
    · refine zr_aload_n (pc := 25) (zq_d eX11_taken 14 rfl) 0 rfl rfl ?_
      refine zr_getC (pc := 26) (zq_d eX11_taken 15 rfl) zf_RX11_32 km_69_7 ?_
      refine zr_iload_n (pc := 29) (zq_d eX11_taken 16 rfl) 1 rfl rfl ?_
      refine zr_iald (pc := 30) (zq_d eX11_taken 17 rfl) am_73 ?_
      refine zr_istore_n (pc := 31) (lo2 := [(3, .int (X.1 73 (zq_ix a1))), (0, .ref (zq_ad G 69)), (1, .int a1), (2, .int a2)]) (zq_d eX11_taken 18 rfl) rfl (Nat.le_of_ble_eq_true rfl) rfl ?_
      refine zr_iload_n (pc := 32) (zq_d eX11_taken 19 rfl) 3 rfl rfl ?_
      refine zr_if_eq (pc := 33) 72 (zq_d eX11_taken 20 rfl) (by decide) (fun _ => ?_) (fun _ => ?_)
      · refine zr_iload_n (pc := 72) (zq_d eX11_taken 42 rfl) 0 rfl rfl ?_
        refine zr_goto (pc := 73) 78 (zq_d eX11_taken 43 rfl) (by decide) ?_
        exact zr_ireturn (pc := 78) (zq_d eX11_taken 45 rfl) rfl rfl (Nat.zero_le _) (Nat.zero_le _)
      · refine zr_iload_n (pc := 36) (zq_d eX11_taken 21 rfl) 0 rfl rfl ?_
        refine zr_iload_n (pc := 37) (zq_d eX11_taken 22 rfl) 3 rfl rfl ?_
        refine zr_icmp_eq (pc := 38) 72 (zq_d eX11_taken 23 rfl) (by decide) (fun _ => ?_) (fun _ => ?_)
        · refine zr_iload_n (pc := 72) (zq_d eX11_taken 42 rfl) 0 rfl rfl ?_
          refine zr_goto (pc := 73) 78 (zq_d eX11_taken 43 rfl) (by decide) ?_
          exact zr_ireturn (pc := 78) (zq_d eX11_taken 45 rfl) rfl rfl (Nat.zero_le _) (Nat.zero_le _)
        · refine zr_iload_n (pc := 41) (zq_d eX11_taken 24 rfl) 3 rfl rfl ?_
          refine zr_iconst (pc := 42) (zq_d eX11_taken 25 rfl) zc_i1 ?_
          have hj51_2 : zq_V G YX11_taken (3, 0, 0) (zq_ei zq_shM z X) 0 0 51 [(2, .int a2), (3, .int (X.1 73 (zq_ix a1)))] [] zq_shM z X (j_X11_taken_51 X a1 a2) := by
            unfold j_X11_taken_51
            refine zr_iload_n (pc := 51) (zq_d eX11_taken 30 rfl) 0 rfl rfl ?_
            refine zr_iconst (pc := 52) (zq_d eX11_taken 31 rfl) zc_i2 ?_
            have hj61_1 : zq_V G YX11_taken (3, 0, 0) (zq_ei zq_shM z X) 0 0 61 [(2, .int a2), (3, .int (X.1 73 (zq_ix a1)))] [] zq_shM z X (j_X11_taken_61 X a1 a2) := by
              unfold j_X11_taken_61
              refine zr_iload_n (pc := 61) (zq_d eX11_taken 36 rfl) 0 rfl rfl ?_
              refine zr_iconst (pc := 62) (zq_d eX11_taken 37 rfl) zc_i3 ?_
              refine zr_icmp_ne (pc := 63) 76 (zq_d eX11_taken 38 rfl) (by decide) (fun _ => ?_) (fun _ => ?_)
              · refine zr_bipush (pc := 76) (zq_d eX11_taken 44 rfl) zc_bm12 ?_
                exact zr_ireturn (pc := 78) (zq_d eX11_taken 45 rfl) rfl rfl (Nat.zero_le _) (Nat.zero_le _)
              · refine zr_iload_n (pc := 66) (zq_d eX11_taken 39 rfl) 1 rfl rfl ?_
                refine zr_bipush (pc := 67) (zq_d eX11_taken 40 rfl) zc_b6 ?_
                refine zr_icmp_ne (pc := 69) 76 (zq_d eX11_taken 41 rfl) (by decide) (fun _ => ?_) (fun _ => ?_)
                · refine zr_bipush (pc := 76) (zq_d eX11_taken 44 rfl) zc_bm12 ?_
                  exact zr_ireturn (pc := 78) (zq_d eX11_taken 45 rfl) rfl rfl (Nat.zero_le _) (Nat.zero_le _)
                · refine zr_iload_n (pc := 72) (zq_d eX11_taken 42 rfl) 1 rfl rfl ?_
                  refine zr_goto (pc := 73) 78 (zq_d eX11_taken 43 rfl) (by decide) ?_
                  exact zr_ireturn (pc := 78) (zq_d eX11_taken 45 rfl) rfl rfl (Nat.zero_le _) (Nat.zero_le _)
            refine zr_icmp_ne (pc := 53) 61 (zq_d eX11_taken 32 rfl) (by decide) (fun _ => ?_) (fun _ => ?_)
            · exact zr_lo [0, 1] rfl (hj61_1)
            · refine zr_iload_n (pc := 56) (zq_d eX11_taken 33 rfl) 1 rfl rfl ?_
              refine zr_iconst (pc := 57) (zq_d eX11_taken 34 rfl) zc_i5 ?_
              refine zr_icmp_eq (pc := 58) 72 (zq_d eX11_taken 35 rfl) (by decide) (fun _ => ?_) (fun _ => ?_)
              · refine zr_iload_n (pc := 72) (zq_d eX11_taken 42 rfl) 1 rfl rfl ?_
                refine zr_goto (pc := 73) 78 (zq_d eX11_taken 43 rfl) (by decide) ?_
                exact zr_ireturn (pc := 78) (zq_d eX11_taken 45 rfl) rfl rfl (Nat.zero_le _) (Nat.zero_le _)
              · exact zr_lo [0, 1] rfl (hj61_1)
          refine zr_icmp_ne (pc := 43) 51 (zq_d eX11_taken 26 rfl) (by decide) (fun _ => ?_) (fun _ => ?_)
          · exact zr_lo [3, 0] rfl (hj51_2)
          · refine zr_iload_n (pc := 46) (zq_d eX11_taken 27 rfl) 0 rfl rfl ?_
            refine zr_iconst (pc := 47) (zq_d eX11_taken 28 rfl) zc_i4 ?_
            refine zr_icmp_eq (pc := 48) 72 (zq_d eX11_taken 29 rfl) (by decide) (fun _ => ?_) (fun _ => ?_)
            · refine zr_iload_n (pc := 72) (zq_d eX11_taken 42 rfl) 0 rfl rfl ?_
              refine zr_goto (pc := 73) 78 (zq_d eX11_taken 43 rfl) (by decide) ?_
              exact zr_ireturn (pc := 78) (zq_d eX11_taken 45 rfl) rfl rfl (Nat.zero_le _) (Nat.zero_le _)
            · exact zr_lo [3, 0] rfl (hj51_2)
    · refine zr_bipush (pc := 22) (zq_d eX11_taken 12 rfl) zc_bm11 ?_
      exact zr_ireturn (pc := 24) (zq_d eX11_taken 13 rfl) rfl rfl (Nat.zero_le _) (Nat.zero_le _)
  · refine zr_bipush (pc := 11) (zq_d eX11_taken 6 rfl) zc_bm2 ?_
    exact zr_ireturn (pc := 13) (zq_d eX11_taken 7 rfl) rfl rfl (Nat.zero_le _) (Nat.zero_le _)
def f_X11_count (N : Nat) (X : zq_M) (a1 : Int32) : Option Int32 :=
  if a1 = (0 : Int32) then (some (X.1 69 0)) else (if a1 = (1 : Int32) then (some (X.1 69 10)) else (if a1 = (2 : Int32) then (some (X.1 69 36)) else (if a1 = (3 : Int32) then (some (X.1 69 42)) else (if a1 = (4 : Int32) then (some (X.1 69 12)) else (if a1 = (5 : Int32) then (some (X.1 69 61)) else (some (-2 : Int32)))))))
set_option maxRecDepth 20000 in
set_option maxHeartbeats 8000000 in
theorem s_X11_count (G : zq_G) (N z : Nat) (X : zq_M) (a1 : Int32) : zq_V G YX11_count (1, 0, 0) (zq_ei zq_shM z X) 0 0 0 (lv_args 0 [.ref (zq_ad G 69), .int a1]) [] zq_shM z X (f_X11_count N X a1) := by
  unfold f_X11_count
  refine zr_lo (l2 := [(0, .ref (zq_ad G 69)), (1, .int a1)]) [0, 1] rfl ?_
  refine zr_iload_n (pc := 0) (zq_d eX11_count 0 rfl) 1 rfl rfl ?_
  refine zr_cs (fun q1 => ?_) (fun q1 => ?_)
  · refine zr_tab (pc := 1) (n := 0) 40 (zq_d eX11_count 1 rfl) q1 (by decide) (by decide) (by decide) rfl (by decide) ?_
    refine zr_aload_n (pc := 40) (zq_d eX11_count 2 rfl) 0 rfl rfl ?_
    refine zr_getI (pc := 41) (zq_d eX11_count 3 rfl) zf_RX11_7 km_69_0 ?_
    exact zr_ireturn (pc := 44) (zq_d eX11_count 4 rfl) rfl rfl (Nat.zero_le _) (Nat.zero_le _)
  · refine zr_cs (fun q2 => ?_) (fun q2 => ?_)
    · refine zr_tab (pc := 1) (n := 1) 45 (zq_d eX11_count 1 rfl) q2 (by decide) (by decide) (by decide) rfl (by decide) ?_
      refine zr_aload_n (pc := 45) (zq_d eX11_count 5 rfl) 0 rfl rfl ?_
      refine zr_getI (pc := 46) (zq_d eX11_count 6 rfl) zf_RX11_41 km_69_10 ?_
      exact zr_ireturn (pc := 49) (zq_d eX11_count 7 rfl) rfl rfl (Nat.zero_le _) (Nat.zero_le _)
    · refine zr_cs (fun q3 => ?_) (fun q3 => ?_)
      · refine zr_tab (pc := 1) (n := 2) 50 (zq_d eX11_count 1 rfl) q3 (by decide) (by decide) (by decide) rfl (by decide) ?_
        refine zr_aload_n (pc := 50) (zq_d eX11_count 8 rfl) 0 rfl rfl ?_
        refine zr_getI (pc := 51) (zq_d eX11_count 9 rfl) zf_RX11_121 km_69_36 ?_
        exact zr_ireturn (pc := 54) (zq_d eX11_count 10 rfl) rfl rfl (Nat.zero_le _) (Nat.zero_le _)
      · refine zr_cs (fun q4 => ?_) (fun q4 => ?_)
        · refine zr_tab (pc := 1) (n := 3) 55 (zq_d eX11_count 1 rfl) q4 (by decide) (by decide) (by decide) rfl (by decide) ?_
          refine zr_aload_n (pc := 55) (zq_d eX11_count 11 rfl) 0 rfl rfl ?_
          refine zr_getI (pc := 56) (zq_d eX11_count 12 rfl) zf_RX11_140 km_69_42 ?_
          exact zr_ireturn (pc := 59) (zq_d eX11_count 13 rfl) rfl rfl (Nat.zero_le _) (Nat.zero_le _)
        · refine zr_cs (fun q5 => ?_) (fun q5 => ?_)
          · refine zr_tab (pc := 1) (n := 4) 60 (zq_d eX11_count 1 rfl) q5 (by decide) (by decide) (by decide) rfl (by decide) ?_
            refine zr_aload_n (pc := 60) (zq_d eX11_count 14 rfl) 0 rfl rfl ?_
            refine zr_getI (pc := 61) (zq_d eX11_count 15 rfl) zf_RX11_47 km_69_12 ?_
            exact zr_ireturn (pc := 64) (zq_d eX11_count 16 rfl) rfl rfl (Nat.zero_le _) (Nat.zero_le _)
          · refine zr_cs (fun q6 => ?_) (fun q6 => ?_)
            · refine zr_tab (pc := 1) (n := 5) 65 (zq_d eX11_count 1 rfl) q6 (by decide) (by decide) (by decide) rfl (by decide) ?_
              refine zr_aload_n (pc := 65) (zq_d eX11_count 17 rfl) 0 rfl rfl ?_
              refine zr_getI (pc := 66) (zq_d eX11_count 18 rfl) zf_RX11_198 km_69_61 ?_
              exact zr_ireturn (pc := 69) (zq_d eX11_count 19 rfl) rfl rfl (Nat.zero_le _) (Nat.zero_le _)
            · refine zr_tabD (pc := 1) 70 (zq_d eX11_count 1 rfl) (by have t0 := zq_nt (n := 0) (by decide) q1; have t1 := zq_nt (n := 1) (by decide) q2; have t2 := zq_nt (n := 2) (by decide) q3; have t3 := zq_nt (n := 3) (by decide) q4; have t4 := zq_nt (n := 4) (by decide) q5; have t5 := zq_nt (n := 5) (by decide) q6; omega) (by decide) ?_
              refine zr_bipush (pc := 70) (zq_d eX11_count 20 rfl) zc_bm2 ?_
              exact zr_ireturn (pc := 72) (zq_d eX11_count 21 rfl) rfl rfl (Nat.zero_le _) (Nat.zero_le _)
def b_X11_tape_69 (a1 : Int32) (rc69_1 : Int32 → zq_M → Option (Int32 × zq_M)) (v6 : Int32) (X7 : zq_M) : Option (Int32 × zq_M) :=
  if (60 : Int32) ≤ v6 then (some ((1 : Int32), X7)) else (zq_ck (((60 : Int32) * a1) + v6) 360 (zq_b (zq_u2 X7 109 (zq_ix (((60 : Int32) * a1) + v6)) (0 : Int64)) (fun X8 => rc69_1 (v6 + (1 : Int32)) X8)))
def j_X11_tape_65 (N : Nat) (a1 : Int32) (X3 : zq_M) (v4 : Int32) : Option (Int32 × zq_M) :=
  zq_ck a1 6 (zq_b (zq_u1 X3 108 (zq_ix a1) v4) (fun X5 => zq_loop (fun _ _ => none) (b_X11_tape_69 a1) N (0 : Int32) X5))
def j_X11_tape_44 (N : Nat) (X : zq_M) (a1 : Int32) (a2 : Int32) (a3 : Int32)  : Option (Int32 × zq_M) :=
  zq_ck a1 6 (zq_b (zq_u1 X 107 (zq_ix a1) a2) (fun X3 => if 0 ≤ a2 then (j_X11_tape_65 N a1 X3 a3) else (j_X11_tape_65 N a1 X3 (0 : Int32))))
def j_X11_tape_33 (N : Nat) (X : zq_M) (a1 : Int32) (a2 : Int32) (a3 : Int32)  : Option (Int32 × zq_M) :=
  if a2 < 0 then (j_X11_tape_44 N X a1 a2 a3) else (if 0 ≤ a3 then (j_X11_tape_44 N X a1 a2 a3) else (some ((-14 : Int32), X)))
def f_X11_tape (N : Nat) (X : zq_M) (a1 : Int32) (a2 : Int32) (a3 : Int32) : Option (Int32 × zq_M) :=
  (f_X11_isTape N X a1).bind (fun v1 => if ¬ v1 = 0 then ((f_X11_within N X a2 (-1 : Int32) (4 : Int32)).bind (fun v2 => if v2 = 0 then (some ((-2 : Int32), X)) else (if a2 < 0 then (j_X11_tape_33 N X a1 a2 a3) else (if a3 ≤ (60 : Int32) then (j_X11_tape_33 N X a1 a2 a3) else (some ((-2 : Int32), X)))))) else (some ((-1 : Int32), X)))
set_option maxRecDepth 20000 in
set_option maxHeartbeats 8000000 in
theorem s_X11_tape (G : zq_G) (N z : Nat) (X : zq_M) (a1 : Int32) (a2 : Int32) (a3 : Int32) : zq_V G YX11_tape (3, 0, 0) (zq_si zq_shM z) 0 0 0 (lv_args 0 [.ref (zq_ad G 69), .int a1, .int a2, .int a3]) [] zq_shM z X (f_X11_tape N X a1 a2 a3) := by
  unfold f_X11_tape
  refine zr_lo (l2 := [(0, .ref (zq_ad G 69)), (1, .int a1), (2, .int a2), (3, .int a3)]) [0, 1, 2, 3] rfl ?_
  refine zr_aload_n (pc := 0) (zq_d eX11_tape 0 rfl) 0 rfl rfl ?_
  refine zr_iload_n (pc := 1) (zq_d eX11_tape 1 rfl) 1 rfl rfl ?_
  refine zr_Vi (pc := 2) [_] (zq_d eX11_tape 2 rfl) (s_X11_isTape G N z X _) zd_X11_isTape zl_RX11_428 om_69 rfl rfl rfl rfl (Nat.le_of_ble_eq_true rfl) (Nat.le_of_ble_eq_true rfl) (Nat.le_of_ble_eq_true rfl) ⟨Nat.le_refl _, Nat.le_refl _⟩ (fun v1 => ?_)
  refine zr_if_ne (pc := 5) 10 (zq_d eX11_tape 3 rfl) (by decide) (fun _ => ?_) (fun _ => ?_)
  · refine zr_aload_n (pc := 10) (zq_d eX11_tape 6 rfl) 0 rfl rfl ?_
    refine zr_iload_n (pc := 11) (zq_d eX11_tape 7 rfl) 2 rfl rfl ?_
    refine zr_iconst (pc := 12) (zq_d eX11_tape 8 rfl) zc_im1 ?_
    refine zr_iconst (pc := 13) (zq_d eX11_tape 9 rfl) zc_i4 ?_
    refine zr_Vi (pc := 14) [_, _, _] (zq_d eX11_tape 10 rfl) (s_X11_within G N z X _ _ _) zd_X11_within zl_RX11_217 om_69 rfl rfl rfl rfl (Nat.le_of_ble_eq_true rfl) (Nat.le_of_ble_eq_true rfl) (Nat.le_of_ble_eq_true rfl) ⟨Nat.le_refl _, Nat.le_refl _⟩ (fun v2 => ?_)
    refine zr_if_eq (pc := 17) 30 (zq_d eX11_tape 11 rfl) (by decide) (fun _ => ?_) (fun _ => ?_)
    · refine zr_bipush (pc := 30) (zq_d eX11_tape 17 rfl) zc_bm2 ?_
      exact zr_ireturn (pc := 32) (zq_d eX11_tape 18 rfl) rfl rfl (Nat.zero_le _) (Nat.zero_le _)
    · refine zr_iload_n (pc := 20) (zq_d eX11_tape 12 rfl) 2 rfl rfl ?_
      have hj33_4 : zq_V G YX11_tape (3, 0, 0) (zq_si zq_shM z) 0 0 33 [(0, .ref (zq_ad G 69)), (1, .int a1), (2, .int a2), (3, .int a3)] [] zq_shM z X (j_X11_tape_33 N X a1 a2 a3) := by
        unfold j_X11_tape_33
        refine zr_iload_n (pc := 33) (zq_d eX11_tape 19 rfl) 2 rfl rfl ?_
        have hj44_3 : zq_V G YX11_tape (3, 0, 0) (zq_si zq_shM z) 0 0 44 [(0, .ref (zq_ad G 69)), (1, .int a1), (2, .int a2), (3, .int a3)] [] zq_shM z X (j_X11_tape_44 N X a1 a2 a3) := by
          unfold j_X11_tape_44
          refine zr_aload_n (pc := 44) (zq_d eX11_tape 25 rfl) 0 rfl rfl ?_
          refine zr_getC (pc := 45) (zq_d eX11_tape 26 rfl) zf_RX11_204 km_69_63 ?_
          refine zr_iload_n (pc := 48) (zq_d eX11_tape 27 rfl) 1 rfl rfl ?_
          refine zr_iload_n (pc := 49) (zq_d eX11_tape 28 rfl) 2 rfl rfl ?_
          refine zr_iast (pc := 50) (zq_d eX11_tape 29 rfl) am_107 (fun X3 => ?_)
          refine zr_aload_n (pc := 51) (zq_d eX11_tape 30 rfl) 0 rfl rfl ?_
          refine zr_getC (pc := 52) (zq_d eX11_tape 31 rfl) zf_RX11_207 km_69_64 ?_
          refine zr_iload_n (pc := 55) (zq_d eX11_tape 32 rfl) 1 rfl rfl ?_
          refine zr_iload_n (pc := 56) (zq_d eX11_tape 33 rfl) 2 rfl rfl ?_
          have hj65_2 : ∀ (v4 : Int32), zq_V G YX11_tape (3, 0, 0) (zq_si zq_shM z) 0 0 65 [(0, .ref (zq_ad G 69)), (1, .int a1)] [.int v4, .int a1, .ref (zq_ad G 108)] zq_shM z X3 (j_X11_tape_65 N a1 X3 v4) := by
            intro v4
            unfold j_X11_tape_65
            refine zr_iast (pc := 65) (zq_d eX11_tape 38 rfl) am_108 (fun X5 => ?_)
            refine zr_iconst (pc := 66) (zq_d eX11_tape 39 rfl) zc_i0 ?_
            refine zr_istore (pc := 67) (lo2 := [(4, .int (0 : Int32)), (0, .ref (zq_ad G 69)), (1, .int a1)]) (zq_d eX11_tape 40 rfl) (Nat.le_of_ble_eq_true rfl) rfl ?_
            have hbrc69_1 : ∀ rc69_1 : Int32 → zq_M → Option (Int32 × zq_M), (∀ (v6 : Int32) (X7 : zq_M), zq_V G YX11_tape (3, 0, 0) (zq_si zq_shM z) 0 0 69 [(0, .ref (zq_ad G 69)), (1, .int a1), (4, .int v6)] [] zq_shM z X7 (rc69_1 v6 X7)) → ∀ (v6 : Int32) (X7 : zq_M), zq_V G YX11_tape (3, 0, 0) (zq_si zq_shM z) 0 0 69 [(0, .ref (zq_ad G 69)), (1, .int a1), (4, .int v6)] [] zq_shM z X7 (b_X11_tape_69 a1 rc69_1 v6 X7) := by
              intro rc69_1 hrc69_1 v6 X7
              unfold b_X11_tape_69
              refine zr_iload (pc := 69) (zq_d eX11_tape 41 rfl) 2 rfl ?_
              refine zr_bipush (pc := 71) (zq_d eX11_tape 42 rfl) zc_b60 ?_
              refine zr_icmp_ge (pc := 73) 95 (zq_d eX11_tape 43 rfl) (by decide) (fun _ => ?_) (fun _ => ?_)
              · refine zr_iconst (pc := 95) (zq_d eX11_tape 55 rfl) zc_i1 ?_
                exact zr_ireturn (pc := 96) (zq_d eX11_tape 56 rfl) rfl rfl (Nat.zero_le _) (Nat.zero_le _)
              · refine zr_aload_n (pc := 76) (zq_d eX11_tape 44 rfl) 0 rfl rfl ?_
                refine zr_getC (pc := 77) (zq_d eX11_tape 45 rfl) zf_RX11_210 km_69_65 ?_
                refine zr_bipush (pc := 80) (zq_d eX11_tape 46 rfl) zc_b60 ?_
                refine zr_iload_n (pc := 82) (zq_d eX11_tape 47 rfl) 1 rfl rfl ?_
                refine zr_imul (pc := 83) (zq_d eX11_tape 48 rfl) ?_
                refine zr_iload (pc := 84) (zq_d eX11_tape 49 rfl) 2 rfl ?_
                refine zr_iadd (pc := 86) (zq_d eX11_tape 50 rfl) ?_
                refine zr_lconst (pc := 87) (v := 0) (zq_d eX11_tape 51 rfl) rfl ?_
                refine zr_last (pc := 88) (zq_d eX11_tape 52 rfl) am_109 (fun X8 => ?_)
                refine zr_iinc (pc := 89) (j := 2) (v := (v6 + (1 : Int32))) (lo2 := [(4, .int (v6 + (1 : Int32))), (0, .ref (zq_ad G 69)), (1, .int a1)]) (zq_d eX11_tape 53 rfl) rfl (by rw [zc_i1]) (Nat.le_of_ble_eq_true rfl) rfl ?_
                refine zr_goto (pc := 92) 69 (zq_d eX11_tape 54 rfl) (by decide) ?_
                exact zr_lo [1, 2, 0] rfl (hrc69_1 (v6 + (1 : Int32)) X8)
            have hlrc69_1 := zr_loop (P := fun (rc69_1 : Int32 → zq_M → Option (Int32 × zq_M)) => ∀ (v6 : Int32) (X7 : zq_M), zq_V G YX11_tape (3, 0, 0) (zq_si zq_shM z) 0 0 69 [(0, .ref (zq_ad G 69)), (1, .int a1), (4, .int v6)] [] zq_shM z X7 (rc69_1 v6 X7)) (fun _ _ => none) (b_X11_tape_69 a1) (fun _ _ => zr_none) hbrc69_1 N
            exact zr_lo [1, 2, 0] rfl (hlrc69_1 (0 : Int32) X5)
          refine zr_if_ge (pc := 57) 64 (zq_d eX11_tape 34 rfl) (by decide) (fun _ => ?_) (fun _ => ?_)
          · refine zr_iload_n (pc := 64) (zq_d eX11_tape 37 rfl) 3 rfl rfl ?_
            exact zr_lo [0, 1] rfl (hj65_2 a3)
          · refine zr_iconst (pc := 60) (zq_d eX11_tape 35 rfl) zc_i0 ?_
            refine zr_goto (pc := 61) 65 (zq_d eX11_tape 36 rfl) (by decide) ?_
            exact zr_lo [0, 1] rfl (hj65_2 (0 : Int32))
        refine zr_if_lt (pc := 34) 44 (zq_d eX11_tape 20 rfl) (by decide) (fun _ => ?_) (fun _ => ?_)
        · exact zr_lo [0, 1, 2, 3] rfl (hj44_3)
        · refine zr_iload_n (pc := 37) (zq_d eX11_tape 21 rfl) 3 rfl rfl ?_
          refine zr_if_ge (pc := 38) 44 (zq_d eX11_tape 22 rfl) (by decide) (fun _ => ?_) (fun _ => ?_)
          · exact zr_lo [0, 1, 2, 3] rfl (hj44_3)
          · refine zr_bipush (pc := 41) (zq_d eX11_tape 23 rfl) zc_bm14 ?_
            exact zr_ireturn (pc := 43) (zq_d eX11_tape 24 rfl) rfl rfl (Nat.zero_le _) (Nat.zero_le _)
      refine zr_if_lt (pc := 21) 33 (zq_d eX11_tape 13 rfl) (by decide) (fun _ => ?_) (fun _ => ?_)
      · exact zr_lo [0, 1, 2, 3] rfl (hj33_4)
      · refine zr_iload_n (pc := 24) (zq_d eX11_tape 14 rfl) 3 rfl rfl ?_
        refine zr_bipush (pc := 25) (zq_d eX11_tape 15 rfl) zc_b60 ?_
        refine zr_icmp_le (pc := 27) 33 (zq_d eX11_tape 16 rfl) (by decide) (fun _ => ?_) (fun _ => ?_)
        · exact zr_lo [0, 1, 2, 3] rfl (hj33_4)
        · refine zr_bipush (pc := 30) (zq_d eX11_tape 17 rfl) zc_bm2 ?_
          exact zr_ireturn (pc := 32) (zq_d eX11_tape 18 rfl) rfl rfl (Nat.zero_le _) (Nat.zero_le _)
  · refine zr_iconst (pc := 8) (zq_d eX11_tape 4 rfl) zc_im1 ?_
    exact zr_ireturn (pc := 9) (zq_d eX11_tape 5 rfl) rfl rfl (Nat.zero_le _) (Nat.zero_le _)
def f_X11_narrow (N : Nat) (X : zq_M) (a1 : Int32) (a2 : Int64) : Option Int64 :=
  if ¬ a1 = 0 then (if ¬ a1 = (1 : Int32) then (if ¬ a1 = (2 : Int32) then (if ¬ a1 = (4 : Int32) then (some a2) else (if (lg_cmp a2 (0 : Int64)) = 0 then (some (0 : Int64)) else (some (1 : Int64)))) else (some ((a2.toInt32).toInt64))) else (some (((a2.toInt32).toInt16.toInt32).toInt64))) else (some (((a2.toInt32).toInt8.toInt32).toInt64))
set_option maxRecDepth 20000 in
set_option maxHeartbeats 8000000 in
theorem s_X11_narrow (G : zq_G) (N z : Nat) (X : zq_M) (a1 : Int32) (a2 : Int64) : zq_V G YX11_narrow (1, 0, 0) (zq_el zq_shM z X) 0 0 0 (lv_args 0 [.ref (zq_ad G 69), .int a1, .long a2]) [] zq_shM z X (f_X11_narrow N X a1 a2) := by
  unfold f_X11_narrow
  refine zr_lo (l2 := [(1, .int a1), (2, .long a2)]) [1, 2] rfl ?_
  refine zr_iload_n (pc := 0) (zq_d eX11_narrow 0 rfl) 0 rfl rfl ?_
  refine zr_if_ne (pc := 1) 11 (zq_d eX11_narrow 1 rfl) (by decide) (fun _ => ?_) (fun _ => ?_)
  · refine zr_iload_n (pc := 11) (zq_d eX11_narrow 7 rfl) 0 rfl rfl ?_
    refine zr_iconst (pc := 12) (zq_d eX11_narrow 8 rfl) zc_i1 ?_
    refine zr_icmp_ne (pc := 13) 23 (zq_d eX11_narrow 9 rfl) (by decide) (fun _ => ?_) (fun _ => ?_)
    · refine zr_iload_n (pc := 23) (zq_d eX11_narrow 15 rfl) 0 rfl rfl ?_
      refine zr_iconst (pc := 24) (zq_d eX11_narrow 16 rfl) zc_i2 ?_
      refine zr_icmp_ne (pc := 25) 34 (zq_d eX11_narrow 17 rfl) (by decide) (fun _ => ?_) (fun _ => ?_)
      · refine zr_iload_n (pc := 34) (zq_d eX11_narrow 22 rfl) 0 rfl rfl ?_
        refine zr_iconst (pc := 35) (zq_d eX11_narrow 23 rfl) zc_i4 ?_
        refine zr_icmp_ne (pc := 36) 53 (zq_d eX11_narrow 24 rfl) (by decide) (fun _ => ?_) (fun _ => ?_)
        · refine zr_lload_n (pc := 53) (zq_d eX11_narrow 33 rfl) 1 rfl rfl ?_
          exact zr_lreturn (pc := 54) (zq_d eX11_narrow 34 rfl) rfl rfl (Nat.zero_le _) (Nat.zero_le _)
        · refine zr_lload_n (pc := 39) (zq_d eX11_narrow 25 rfl) 1 rfl rfl ?_
          refine zr_lconst (pc := 40) (v := 0) (zq_d eX11_narrow 26 rfl) rfl ?_
          refine zr_lcmp (pc := 41) (zq_d eX11_narrow 27 rfl) ?_
          refine zr_if_eq (pc := 42) 49 (zq_d eX11_narrow 28 rfl) (by decide) (fun _ => ?_) (fun _ => ?_)
          · refine zr_lconst (pc := 49) (v := 0) (zq_d eX11_narrow 31 rfl) rfl ?_
            refine zr_goto (pc := 50) 54 (zq_d eX11_narrow 32 rfl) (by decide) ?_
            exact zr_lreturn (pc := 54) (zq_d eX11_narrow 34 rfl) rfl rfl (Nat.zero_le _) (Nat.zero_le _)
          · refine zr_lconst (pc := 45) (v := 1) (zq_d eX11_narrow 29 rfl) rfl ?_
            refine zr_goto (pc := 46) 54 (zq_d eX11_narrow 30 rfl) (by decide) ?_
            exact zr_lreturn (pc := 54) (zq_d eX11_narrow 34 rfl) rfl rfl (Nat.zero_le _) (Nat.zero_le _)
      · refine zr_lload_n (pc := 28) (zq_d eX11_narrow 18 rfl) 1 rfl rfl ?_
        refine zr_l2i (pc := 29) (zq_d eX11_narrow 19 rfl) ?_
        refine zr_i2l (pc := 30) (zq_d eX11_narrow 20 rfl) ?_
        refine zr_goto (pc := 31) 54 (zq_d eX11_narrow 21 rfl) (by decide) ?_
        exact zr_lreturn (pc := 54) (zq_d eX11_narrow 34 rfl) rfl rfl (Nat.zero_le _) (Nat.zero_le _)
    · refine zr_lload_n (pc := 16) (zq_d eX11_narrow 10 rfl) 1 rfl rfl ?_
      refine zr_l2i (pc := 17) (zq_d eX11_narrow 11 rfl) ?_
      refine zr_i2s (pc := 18) (zq_d eX11_narrow 12 rfl) ?_
      refine zr_i2l (pc := 19) (zq_d eX11_narrow 13 rfl) ?_
      refine zr_goto (pc := 20) 54 (zq_d eX11_narrow 14 rfl) (by decide) ?_
      exact zr_lreturn (pc := 54) (zq_d eX11_narrow 34 rfl) rfl rfl (Nat.zero_le _) (Nat.zero_le _)
  · refine zr_lload_n (pc := 4) (zq_d eX11_narrow 2 rfl) 1 rfl rfl ?_
    refine zr_l2i (pc := 5) (zq_d eX11_narrow 3 rfl) ?_
    refine zr_i2b (pc := 6) (zq_d eX11_narrow 4 rfl) ?_
    refine zr_i2l (pc := 7) (zq_d eX11_narrow 5 rfl) ?_
    refine zr_goto (pc := 8) 54 (zq_d eX11_narrow 6 rfl) (by decide) ?_
    exact zr_lreturn (pc := 54) (zq_d eX11_narrow 34 rfl) rfl rfl (Nat.zero_le _) (Nat.zero_le _)
def f_X11_item (N : Nat) (X : zq_M) (a1 : Int32) (a2 : Int32) (a3 : Int64) : Option (Int32 × zq_M) :=
  (f_X11_isTape N X a1).bind (fun v1 => if ¬ v1 = 0 then (zq_ck a1 6 (if 0 ≤ (X.1 107 (zq_ix a1)) then (zq_ck a1 6 ((f_X11_within N X a2 (0 : Int32) ((X.1 108 (zq_ix a1)) - (1 : Int32))).bind (fun v2 => if ¬ v2 = 0 then (zq_ck a1 6 ((f_X11_narrow N X (X.1 107 (zq_ix a1)) a3).bind (fun w3 => zq_ck (((60 : Int32) * a1) + a2) 360 (zq_b (zq_u2 X 109 (zq_ix (((60 : Int32) * a1) + a2)) w3) (fun X4 => some ((1 : Int32), X4)))))) else (some ((-13 : Int32), X))))) else (some ((-11 : Int32), X)))) else (some ((-1 : Int32), X)))
set_option maxRecDepth 20000 in
set_option maxHeartbeats 8000000 in
theorem s_X11_item (G : zq_G) (N z : Nat) (X : zq_M) (a1 : Int32) (a2 : Int32) (a3 : Int64) : zq_V G YX11_item (3, 0, 0) (zq_si zq_shM z) 0 0 0 (lv_args 0 [.ref (zq_ad G 69), .int a1, .int a2, .long a3]) [] zq_shM z X (f_X11_item N X a1 a2 a3) := by
  unfold f_X11_item
  refine zr_lo (l2 := [(0, .ref (zq_ad G 69)), (1, .int a1), (2, .int a2), (3, .long a3)]) [0, 1, 2, 3] rfl ?_
  refine zr_aload_n (pc := 0) (zq_d eX11_item 0 rfl) 0 rfl rfl ?_
  refine zr_iload_n (pc := 1) (zq_d eX11_item 1 rfl) 1 rfl rfl ?_
  refine zr_Vi (pc := 2) [_] (zq_d eX11_item 2 rfl) (s_X11_isTape G N z X _) zd_X11_isTape zl_RX11_428 om_69 rfl rfl rfl rfl (Nat.le_of_ble_eq_true rfl) (Nat.le_of_ble_eq_true rfl) (Nat.le_of_ble_eq_true rfl) ⟨Nat.le_refl _, Nat.le_refl _⟩ (fun v1 => ?_)
  refine zr_if_ne (pc := 5) 10 (zq_d eX11_item 3 rfl) (by decide) (fun _ => ?_) (fun _ => ?_)
  · refine zr_aload_n (pc := 10) (zq_d eX11_item 6 rfl) 0 rfl rfl ?_
    refine zr_getC (pc := 11) (zq_d eX11_item 7 rfl) zf_RX11_204 km_69_63 ?_
    refine zr_iload_n (pc := 14) (zq_d eX11_item 8 rfl) 1 rfl rfl ?_
    refine zr_iald (pc := 15) (zq_d eX11_item 9 rfl) am_107 ?_
    refine zr_if_ge (pc := 16) 22 (zq_d eX11_item 10 rfl) (by decide) (fun _ => ?_) (fun _ => ?_)
    · refine zr_aload_n (pc := 22) (zq_d eX11_item 13 rfl) 0 rfl rfl ?_
      refine zr_iload_n (pc := 23) (zq_d eX11_item 14 rfl) 2 rfl rfl ?_
      refine zr_iconst (pc := 24) (zq_d eX11_item 15 rfl) zc_i0 ?_
      refine zr_aload_n (pc := 25) (zq_d eX11_item 16 rfl) 0 rfl rfl ?_
      refine zr_getC (pc := 26) (zq_d eX11_item 17 rfl) zf_RX11_207 km_69_64 ?_
      refine zr_iload_n (pc := 29) (zq_d eX11_item 18 rfl) 1 rfl rfl ?_
      refine zr_iald (pc := 30) (zq_d eX11_item 19 rfl) am_108 ?_
      refine zr_iconst (pc := 31) (zq_d eX11_item 20 rfl) zc_i1 ?_
      refine zr_isub (pc := 32) (zq_d eX11_item 21 rfl) ?_
      refine zr_Vi (pc := 33) [_, _, _] (zq_d eX11_item 22 rfl) (s_X11_within G N z X _ _ _) zd_X11_within zl_RX11_217 om_69 rfl rfl rfl rfl (Nat.le_of_ble_eq_true rfl) (Nat.le_of_ble_eq_true rfl) (Nat.le_of_ble_eq_true rfl) ⟨Nat.le_refl _, Nat.le_refl _⟩ (fun v2 => ?_)
      refine zr_if_ne (pc := 36) 42 (zq_d eX11_item 23 rfl) (by decide) (fun _ => ?_) (fun _ => ?_)
      · refine zr_aload_n (pc := 42) (zq_d eX11_item 26 rfl) 0 rfl rfl ?_
        refine zr_getC (pc := 43) (zq_d eX11_item 27 rfl) zf_RX11_210 km_69_65 ?_
        refine zr_bipush (pc := 46) (zq_d eX11_item 28 rfl) zc_b60 ?_
        refine zr_iload_n (pc := 48) (zq_d eX11_item 29 rfl) 1 rfl rfl ?_
        refine zr_imul (pc := 49) (zq_d eX11_item 30 rfl) ?_
        refine zr_iload_n (pc := 50) (zq_d eX11_item 31 rfl) 2 rfl rfl ?_
        refine zr_iadd (pc := 51) (zq_d eX11_item 32 rfl) ?_
        refine zr_aload_n (pc := 52) (zq_d eX11_item 33 rfl) 0 rfl rfl ?_
        refine zr_aload_n (pc := 53) (zq_d eX11_item 34 rfl) 0 rfl rfl ?_
        refine zr_getC (pc := 54) (zq_d eX11_item 35 rfl) zf_RX11_204 km_69_63 ?_
        refine zr_iload_n (pc := 57) (zq_d eX11_item 36 rfl) 1 rfl rfl ?_
        refine zr_iald (pc := 58) (zq_d eX11_item 37 rfl) am_107 ?_
        refine zr_lload_n (pc := 59) (zq_d eX11_item 38 rfl) 3 rfl rfl ?_
        refine zr_Vl (pc := 60) [_, _] (zq_d eX11_item 39 rfl) (s_X11_narrow G N z X _ _) zd_X11_narrow zl_RX11_455 om_69 rfl rfl rfl rfl (Nat.le_of_ble_eq_true rfl) (Nat.le_of_ble_eq_true rfl) (Nat.le_of_ble_eq_true rfl) ⟨Nat.le_refl _, Nat.le_refl _⟩ (fun w3 => ?_)
        refine zr_last (pc := 63) (zq_d eX11_item 40 rfl) am_109 (fun X4 => ?_)
        refine zr_iconst (pc := 64) (zq_d eX11_item 41 rfl) zc_i1 ?_
        exact zr_ireturn (pc := 65) (zq_d eX11_item 42 rfl) rfl rfl (Nat.zero_le _) (Nat.zero_le _)
      · refine zr_bipush (pc := 39) (zq_d eX11_item 24 rfl) zc_bm13 ?_
        exact zr_ireturn (pc := 41) (zq_d eX11_item 25 rfl) rfl rfl (Nat.zero_le _) (Nat.zero_le _)
    · refine zr_bipush (pc := 19) (zq_d eX11_item 11 rfl) zc_bm11 ?_
      exact zr_ireturn (pc := 21) (zq_d eX11_item 12 rfl) rfl rfl (Nat.zero_le _) (Nat.zero_le _)
  · refine zr_iconst (pc := 8) (zq_d eX11_item 4 rfl) zc_im1 ?_
    exact zr_ireturn (pc := 9) (zq_d eX11_item 5 rfl) rfl rfl (Nat.zero_le _) (Nat.zero_le _)
def f_X11_read (N : Nat) (X : zq_M) (a1 : Int32) (a2 : Int32) : Option Int64 :=
  (f_X11_isTape N X a1).bind (fun v1 => if v1 = 0 then (some (-9223372036854775808 : Int64)) else (zq_ck a1 6 (if (X.1 107 (zq_ix a1)) < 0 then (some (-9223372036854775808 : Int64)) else (zq_ck a1 6 ((f_X11_within N X a2 (0 : Int32) ((X.1 108 (zq_ix a1)) - (1 : Int32))).bind (fun v2 => if ¬ v2 = 0 then (zq_ck (((60 : Int32) * a1) + a2) 360 (some (X.2.1 109 (zq_ix (((60 : Int32) * a1) + a2))))) else (some (-9223372036854775808 : Int64))))))))
set_option maxRecDepth 20000 in
set_option maxHeartbeats 8000000 in
theorem s_X11_read (G : zq_G) (N z : Nat) (X : zq_M) (a1 : Int32) (a2 : Int32) : zq_V G YX11_read (3, 0, 0) (zq_el zq_shM z X) 0 0 0 (lv_args 0 [.ref (zq_ad G 69), .int a1, .int a2]) [] zq_shM z X (f_X11_read N X a1 a2) := by
  unfold f_X11_read
  refine zr_lo (l2 := [(0, .ref (zq_ad G 69)), (1, .int a1), (2, .int a2)]) [0, 1, 2] rfl ?_
  refine zr_aload_n (pc := 0) (zq_d eX11_read 0 rfl) 0 rfl rfl ?_
  refine zr_iload_n (pc := 1) (zq_d eX11_read 1 rfl) 1 rfl rfl ?_
  refine zr_Vi (pc := 2) [_] (zq_d eX11_read 2 rfl) (s_X11_isTape G N z X _) zd_X11_isTape zl_RX11_428 om_69 rfl rfl rfl rfl (Nat.le_of_ble_eq_true rfl) (Nat.le_of_ble_eq_true rfl) (Nat.le_of_ble_eq_true rfl) ⟨Nat.le_refl _, Nat.le_refl _⟩ (fun v1 => ?_)
  refine zr_if_eq (pc := 5) 34 (zq_d eX11_read 3 rfl) (by decide) (fun _ => ?_) (fun _ => ?_)
  · refine zr_ldc2 (pc := 34) (zq_d eX11_read 20 rfl) zk_RX11_422 ?_
    refine zr_goto (pc := 37) 51 (zq_d eX11_read 21 rfl) (by decide) ?_
    exact zr_lreturn (pc := 51) (zq_d eX11_read 30 rfl) rfl rfl (Nat.zero_le _) (Nat.zero_le _)
  · refine zr_aload_n (pc := 8) (zq_d eX11_read 4 rfl) 0 rfl rfl ?_
    refine zr_getC (pc := 9) (zq_d eX11_read 5 rfl) zf_RX11_204 km_69_63 ?_
    refine zr_iload_n (pc := 12) (zq_d eX11_read 6 rfl) 1 rfl rfl ?_
    refine zr_iald (pc := 13) (zq_d eX11_read 7 rfl) am_107 ?_
    refine zr_if_lt (pc := 14) 34 (zq_d eX11_read 8 rfl) (by decide) (fun _ => ?_) (fun _ => ?_)
    · refine zr_ldc2 (pc := 34) (zq_d eX11_read 20 rfl) zk_RX11_422 ?_
      refine zr_goto (pc := 37) 51 (zq_d eX11_read 21 rfl) (by decide) ?_
      exact zr_lreturn (pc := 51) (zq_d eX11_read 30 rfl) rfl rfl (Nat.zero_le _) (Nat.zero_le _)
    · refine zr_aload_n (pc := 17) (zq_d eX11_read 9 rfl) 0 rfl rfl ?_
      refine zr_iload_n (pc := 18) (zq_d eX11_read 10 rfl) 2 rfl rfl ?_
      refine zr_iconst (pc := 19) (zq_d eX11_read 11 rfl) zc_i0 ?_
      refine zr_aload_n (pc := 20) (zq_d eX11_read 12 rfl) 0 rfl rfl ?_
      refine zr_getC (pc := 21) (zq_d eX11_read 13 rfl) zf_RX11_207 km_69_64 ?_
      refine zr_iload_n (pc := 24) (zq_d eX11_read 14 rfl) 1 rfl rfl ?_
      refine zr_iald (pc := 25) (zq_d eX11_read 15 rfl) am_108 ?_
      refine zr_iconst (pc := 26) (zq_d eX11_read 16 rfl) zc_i1 ?_
      refine zr_isub (pc := 27) (zq_d eX11_read 17 rfl) ?_
      refine zr_Vi (pc := 28) [_, _, _] (zq_d eX11_read 18 rfl) (s_X11_within G N z X _ _ _) zd_X11_within zl_RX11_217 om_69 rfl rfl rfl rfl (Nat.le_of_ble_eq_true rfl) (Nat.le_of_ble_eq_true rfl) (Nat.le_of_ble_eq_true rfl) ⟨Nat.le_refl _, Nat.le_refl _⟩ (fun v2 => ?_)
      refine zr_if_ne (pc := 31) 40 (zq_d eX11_read 19 rfl) (by decide) (fun _ => ?_) (fun _ => ?_)
      · refine zr_aload_n (pc := 40) (zq_d eX11_read 22 rfl) 0 rfl rfl ?_
        refine zr_getC (pc := 41) (zq_d eX11_read 23 rfl) zf_RX11_210 km_69_65 ?_
        refine zr_bipush (pc := 44) (zq_d eX11_read 24 rfl) zc_b60 ?_
        refine zr_iload_n (pc := 46) (zq_d eX11_read 25 rfl) 1 rfl rfl ?_
        refine zr_imul (pc := 47) (zq_d eX11_read 26 rfl) ?_
        refine zr_iload_n (pc := 48) (zq_d eX11_read 27 rfl) 2 rfl rfl ?_
        refine zr_iadd (pc := 49) (zq_d eX11_read 28 rfl) ?_
        refine zr_lald (pc := 50) (zq_d eX11_read 29 rfl) am_109 ?_
        exact zr_lreturn (pc := 51) (zq_d eX11_read 30 rfl) rfl rfl (Nat.zero_le _) (Nat.zero_le _)
      · refine zr_ldc2 (pc := 34) (zq_d eX11_read 20 rfl) zk_RX11_422 ?_
        refine zr_goto (pc := 37) 51 (zq_d eX11_read 21 rfl) (by decide) ?_
        exact zr_lreturn (pc := 51) (zq_d eX11_read 30 rfl) rfl rfl (Nat.zero_le _) (Nat.zero_le _)
def b_X11_shift_141 (a3 : Int32) (a4 : Int32) (a5 : Int32) (rc141_2 : Int32 → zq_M → Option (Int32 × zq_M)) (v5 : Int32) (X6 : zq_M) : Option (Int32 × zq_M) :=
  if a5 ≤ v5 then (some (a5, X6)) else (zq_ck v5 60 (zq_ck ((((60 : Int32) * a3) + a4) + v5) 360 (zq_b (zq_u2 X6 109 (zq_ix ((((60 : Int32) * a3) + a4) + v5)) (X6.2.1 110 (zq_ix v5))) (fun X7 => rc141_2 (v5 + (1 : Int32)) X7))))
def k_X11_shift_138_3 (N : Nat) (a3 : Int32) (a4 : Int32) (a5 : Int32) (X4 : zq_M)  : Option (Int32 × zq_M) :=
  zq_loop (fun _ _ => none) (b_X11_shift_141 a3 a4 a5) N (0 : Int32) X4
def b_X11_shift_104 (N : Nat) (a1 : Int32) (a2 : Int32) (a3 : Int32) (a4 : Int32) (a5 : Int32) (rc104_1 : Int32 → zq_M → Option (Int32 × zq_M)) (v3 : Int32) (X4 : zq_M) : Option (Int32 × zq_M) :=
  if a5 ≤ v3 then (k_X11_shift_138_3 N a3 a4 a5 X4) else (zq_ck ((((60 : Int32) * a1) + a2) + v3) 360 (zq_ck v3 60 (zq_b (zq_u2 X4 110 (zq_ix v3) (X4.2.1 109 (zq_ix ((((60 : Int32) * a1) + a2) + v3)))) (fun X8 => rc104_1 (v3 + (1 : Int32)) X8))))
def f_X11_shift (N : Nat) (X : zq_M) (a1 : Int32) (a2 : Int32) (a3 : Int32) (a4 : Int32) (a5 : Int32) : Option (Int32 × zq_M) :=
  (f_X11_isTape N X a1).bind (fun v1 => if v1 = 0 then (some ((-1 : Int32), X)) else ((f_X11_isTape N X a3).bind (fun v2 => if ¬ v2 = 0 then (zq_ck a1 6 (if (X.1 107 (zq_ix a1)) < 0 then (some ((-11 : Int32), X)) else (zq_ck a3 6 (if 0 ≤ (X.1 107 (zq_ix a3)) then (zq_ck a1 6 (zq_ck a3 6 (if (X.1 107 (zq_ix a1)) = (X.1 107 (zq_ix a3)) then (if a5 < 0 then (some ((-13 : Int32), X)) else (if a2 < 0 then (some ((-13 : Int32), X)) else (if a4 < 0 then (some ((-13 : Int32), X)) else (zq_ck a1 6 (if ((X.1 108 (zq_ix a1)) - a5) < a2 then (some ((-13 : Int32), X)) else (zq_ck a3 6 (if a4 ≤ ((X.1 108 (zq_ix a3)) - a5) then (zq_loop (fun _ _ => none) (b_X11_shift_104 N a1 a2 a3 a4 a5) N (0 : Int32) X) else (some ((-13 : Int32), X))))))))) else (some ((-12 : Int32), X))))) else (some ((-11 : Int32), X)))))) else (some ((-1 : Int32), X)))))
set_option maxRecDepth 20000 in
set_option maxHeartbeats 8000000 in
theorem s_X11_shift (G : zq_G) (N z : Nat) (X : zq_M) (a1 : Int32) (a2 : Int32) (a3 : Int32) (a4 : Int32) (a5 : Int32) : zq_V G YX11_shift (3, 0, 0) (zq_si zq_shM z) 0 0 0 (lv_args 0 [.ref (zq_ad G 69), .int a1, .int a2, .int a3, .int a4, .int a5]) [] zq_shM z X (f_X11_shift N X a1 a2 a3 a4 a5) := by
  unfold f_X11_shift
  refine zr_lo (l2 := [(0, .ref (zq_ad G 69)), (1, .int a1), (2, .int a2), (3, .int a3), (4, .int a4), (5, .int a5)]) [0, 1, 2, 3, 4, 5] rfl ?_
  refine zr_aload_n (pc := 0) (zq_d eX11_shift 0 rfl) 0 rfl rfl ?_
  refine zr_iload_n (pc := 1) (zq_d eX11_shift 1 rfl) 1 rfl rfl ?_
  refine zr_Vi (pc := 2) [_] (zq_d eX11_shift 2 rfl) (s_X11_isTape G N z X _) zd_X11_isTape zl_RX11_428 om_69 rfl rfl rfl rfl (Nat.le_of_ble_eq_true rfl) (Nat.le_of_ble_eq_true rfl) (Nat.le_of_ble_eq_true rfl) ⟨Nat.le_refl _, Nat.le_refl _⟩ (fun v1 => ?_)
  refine zr_if_eq (pc := 5) 16 (zq_d eX11_shift 3 rfl) (by decide) (fun _ => ?_) (fun _ => ?_)
  · refine zr_iconst (pc := 16) (zq_d eX11_shift 8 rfl) zc_im1 ?_
    exact zr_ireturn (pc := 17) (zq_d eX11_shift 9 rfl) rfl rfl (Nat.zero_le _) (Nat.zero_le _)
  · refine zr_aload_n (pc := 8) (zq_d eX11_shift 4 rfl) 0 rfl rfl ?_
    refine zr_iload_n (pc := 9) (zq_d eX11_shift 5 rfl) 3 rfl rfl ?_
    refine zr_Vi (pc := 10) [_] (zq_d eX11_shift 6 rfl) (s_X11_isTape G N z X _) zd_X11_isTape zl_RX11_428 om_69 rfl rfl rfl rfl (Nat.le_of_ble_eq_true rfl) (Nat.le_of_ble_eq_true rfl) (Nat.le_of_ble_eq_true rfl) ⟨Nat.le_refl _, Nat.le_refl _⟩ (fun v2 => ?_)
    refine zr_if_ne (pc := 13) 18 (zq_d eX11_shift 7 rfl) (by decide) (fun _ => ?_) (fun _ => ?_)
    · refine zr_aload_n (pc := 18) (zq_d eX11_shift 10 rfl) 0 rfl rfl ?_
      refine zr_getC (pc := 19) (zq_d eX11_shift 11 rfl) zf_RX11_204 km_69_63 ?_
      refine zr_iload_n (pc := 22) (zq_d eX11_shift 12 rfl) 1 rfl rfl ?_
      refine zr_iald (pc := 23) (zq_d eX11_shift 13 rfl) am_107 ?_
      refine zr_if_lt (pc := 24) 36 (zq_d eX11_shift 14 rfl) (by decide) (fun _ => ?_) (fun _ => ?_)
      · refine zr_bipush (pc := 36) (zq_d eX11_shift 20 rfl) zc_bm11 ?_
        exact zr_ireturn (pc := 38) (zq_d eX11_shift 21 rfl) rfl rfl (Nat.zero_le _) (Nat.zero_le _)
      · refine zr_aload_n (pc := 27) (zq_d eX11_shift 15 rfl) 0 rfl rfl ?_
        refine zr_getC (pc := 28) (zq_d eX11_shift 16 rfl) zf_RX11_204 km_69_63 ?_
        refine zr_iload_n (pc := 31) (zq_d eX11_shift 17 rfl) 3 rfl rfl ?_
        refine zr_iald (pc := 32) (zq_d eX11_shift 18 rfl) am_107 ?_
        refine zr_if_ge (pc := 33) 39 (zq_d eX11_shift 19 rfl) (by decide) (fun _ => ?_) (fun _ => ?_)
        · refine zr_aload_n (pc := 39) (zq_d eX11_shift 22 rfl) 0 rfl rfl ?_
          refine zr_getC (pc := 40) (zq_d eX11_shift 23 rfl) zf_RX11_204 km_69_63 ?_
          refine zr_iload_n (pc := 43) (zq_d eX11_shift 24 rfl) 1 rfl rfl ?_
          refine zr_iald (pc := 44) (zq_d eX11_shift 25 rfl) am_107 ?_
          refine zr_aload_n (pc := 45) (zq_d eX11_shift 26 rfl) 0 rfl rfl ?_
          refine zr_getC (pc := 46) (zq_d eX11_shift 27 rfl) zf_RX11_204 km_69_63 ?_
          refine zr_iload_n (pc := 49) (zq_d eX11_shift 28 rfl) 3 rfl rfl ?_
          refine zr_iald (pc := 50) (zq_d eX11_shift 29 rfl) am_107 ?_
          refine zr_icmp_eq (pc := 51) 57 (zq_d eX11_shift 30 rfl) (by decide) (fun _ => ?_) (fun _ => ?_)
          · refine zr_iload (pc := 57) (zq_d eX11_shift 33 rfl) 5 rfl ?_
            refine zr_if_lt (pc := 59) 98 (zq_d eX11_shift 34 rfl) (by decide) (fun _ => ?_) (fun _ => ?_)
            · refine zr_bipush (pc := 98) (zq_d eX11_shift 55 rfl) zc_bm13 ?_
              exact zr_ireturn (pc := 100) (zq_d eX11_shift 56 rfl) rfl rfl (Nat.zero_le _) (Nat.zero_le _)
            · refine zr_iload_n (pc := 62) (zq_d eX11_shift 35 rfl) 2 rfl rfl ?_
              refine zr_if_lt (pc := 63) 98 (zq_d eX11_shift 36 rfl) (by decide) (fun _ => ?_) (fun _ => ?_)
              · refine zr_bipush (pc := 98) (zq_d eX11_shift 55 rfl) zc_bm13 ?_
                exact zr_ireturn (pc := 100) (zq_d eX11_shift 56 rfl) rfl rfl (Nat.zero_le _) (Nat.zero_le _)
              · refine zr_iload (pc := 66) (zq_d eX11_shift 37 rfl) 4 rfl ?_
                refine zr_if_lt (pc := 68) 98 (zq_d eX11_shift 38 rfl) (by decide) (fun _ => ?_) (fun _ => ?_)
                · refine zr_bipush (pc := 98) (zq_d eX11_shift 55 rfl) zc_bm13 ?_
                  exact zr_ireturn (pc := 100) (zq_d eX11_shift 56 rfl) rfl rfl (Nat.zero_le _) (Nat.zero_le _)
                · refine zr_iload_n (pc := 71) (zq_d eX11_shift 39 rfl) 2 rfl rfl ?_
                  refine zr_aload_n (pc := 72) (zq_d eX11_shift 40 rfl) 0 rfl rfl ?_
                  refine zr_getC (pc := 73) (zq_d eX11_shift 41 rfl) zf_RX11_207 km_69_64 ?_
                  refine zr_iload_n (pc := 76) (zq_d eX11_shift 42 rfl) 1 rfl rfl ?_
                  refine zr_iald (pc := 77) (zq_d eX11_shift 43 rfl) am_108 ?_
                  refine zr_iload (pc := 78) (zq_d eX11_shift 44 rfl) 5 rfl ?_
                  refine zr_isub (pc := 80) (zq_d eX11_shift 45 rfl) ?_
                  refine zr_icmp_gt (pc := 81) 98 (zq_d eX11_shift 46 rfl) (by decide) (fun _ => ?_) (fun _ => ?_)
                  · refine zr_bipush (pc := 98) (zq_d eX11_shift 55 rfl) zc_bm13 ?_
                    exact zr_ireturn (pc := 100) (zq_d eX11_shift 56 rfl) rfl rfl (Nat.zero_le _) (Nat.zero_le _)
                  · refine zr_iload (pc := 84) (zq_d eX11_shift 47 rfl) 4 rfl ?_
                    refine zr_aload_n (pc := 86) (zq_d eX11_shift 48 rfl) 0 rfl rfl ?_
                    refine zr_getC (pc := 87) (zq_d eX11_shift 49 rfl) zf_RX11_207 km_69_64 ?_
                    refine zr_iload_n (pc := 90) (zq_d eX11_shift 50 rfl) 3 rfl rfl ?_
                    refine zr_iald (pc := 91) (zq_d eX11_shift 51 rfl) am_108 ?_
                    refine zr_iload (pc := 92) (zq_d eX11_shift 52 rfl) 5 rfl ?_
                    refine zr_isub (pc := 94) (zq_d eX11_shift 53 rfl) ?_
                    refine zr_icmp_le (pc := 95) 101 (zq_d eX11_shift 54 rfl) (by decide) (fun _ => ?_) (fun _ => ?_)
                    · refine zr_iconst (pc := 101) (zq_d eX11_shift 57 rfl) zc_i0 ?_
                      refine zr_istore (pc := 102) (lo2 := [(6, .int (0 : Int32)), (0, .ref (zq_ad G 69)), (1, .int a1), (2, .int a2), (3, .int a3), (4, .int a4), (5, .int a5)]) (zq_d eX11_shift 58 rfl) (Nat.le_of_ble_eq_true rfl) rfl ?_
                      have hbrc104_1 : ∀ rc104_1 : Int32 → zq_M → Option (Int32 × zq_M), (∀ (v3 : Int32) (X4 : zq_M), zq_V G YX11_shift (3, 0, 0) (zq_si zq_shM z) 0 0 104 [(0, .ref (zq_ad G 69)), (1, .int a1), (2, .int a2), (3, .int a3), (4, .int a4), (5, .int a5), (6, .int v3)] [] zq_shM z X4 (rc104_1 v3 X4)) → ∀ (v3 : Int32) (X4 : zq_M), zq_V G YX11_shift (3, 0, 0) (zq_si zq_shM z) 0 0 104 [(0, .ref (zq_ad G 69)), (1, .int a1), (2, .int a2), (3, .int a3), (4, .int a4), (5, .int a5), (6, .int v3)] [] zq_shM z X4 (b_X11_shift_104 N a1 a2 a3 a4 a5 rc104_1 v3 X4) := by
                        intro rc104_1 hrc104_1 v3 X4
                        unfold b_X11_shift_104
                        refine zr_iload (pc := 104) (zq_d eX11_shift 59 rfl) 6 rfl ?_
                        refine zr_iload (pc := 106) (zq_d eX11_shift 60 rfl) 5 rfl ?_
                        refine zr_icmp_ge (pc := 108) 138 (zq_d eX11_shift 61 rfl) (by decide) (fun _ => ?_) (fun _ => ?_)
                        · unfold k_X11_shift_138_3
                          refine zr_iconst (pc := 138) (zq_d eX11_shift 78 rfl) zc_i0 ?_
                          refine zr_istore (pc := 139) (lo2 := [(6, .int (0 : Int32)), (0, .ref (zq_ad G 69)), (1, .int a1), (2, .int a2), (3, .int a3), (4, .int a4), (5, .int a5)]) (zq_d eX11_shift 79 rfl) (Nat.le_of_ble_eq_true rfl) rfl ?_
                          have hbrc141_2 : ∀ rc141_2 : Int32 → zq_M → Option (Int32 × zq_M), (∀ (v5 : Int32) (X6 : zq_M), zq_V G YX11_shift (3, 0, 0) (zq_si zq_shM z) 0 0 141 [(0, .ref (zq_ad G 69)), (3, .int a3), (4, .int a4), (5, .int a5), (6, .int v5)] [] zq_shM z X6 (rc141_2 v5 X6)) → ∀ (v5 : Int32) (X6 : zq_M), zq_V G YX11_shift (3, 0, 0) (zq_si zq_shM z) 0 0 141 [(0, .ref (zq_ad G 69)), (3, .int a3), (4, .int a4), (5, .int a5), (6, .int v5)] [] zq_shM z X6 (b_X11_shift_141 a3 a4 a5 rc141_2 v5 X6) := by
                            intro rc141_2 hrc141_2 v5 X6
                            unfold b_X11_shift_141
                            refine zr_iload (pc := 141) (zq_d eX11_shift 80 rfl) 4 rfl ?_
                            refine zr_iload (pc := 143) (zq_d eX11_shift 81 rfl) 3 rfl ?_
                            refine zr_icmp_ge (pc := 145) 176 (zq_d eX11_shift 82 rfl) (by decide) (fun _ => ?_) (fun _ => ?_)
                            · refine zr_iload (pc := 176) (zq_d eX11_shift 99 rfl) 3 rfl ?_
                              exact zr_ireturn (pc := 178) (zq_d eX11_shift 100 rfl) rfl rfl (Nat.zero_le _) (Nat.zero_le _)
                            · refine zr_aload_n (pc := 148) (zq_d eX11_shift 83 rfl) 0 rfl rfl ?_
                              refine zr_getC (pc := 149) (zq_d eX11_shift 84 rfl) zf_RX11_210 km_69_65 ?_
                              refine zr_bipush (pc := 152) (zq_d eX11_shift 85 rfl) zc_b60 ?_
                              refine zr_iload_n (pc := 154) (zq_d eX11_shift 86 rfl) 1 rfl rfl ?_
                              refine zr_imul (pc := 155) (zq_d eX11_shift 87 rfl) ?_
                              refine zr_iload (pc := 156) (zq_d eX11_shift 88 rfl) 2 rfl ?_
                              refine zr_iadd (pc := 158) (zq_d eX11_shift 89 rfl) ?_
                              refine zr_iload (pc := 159) (zq_d eX11_shift 90 rfl) 4 rfl ?_
                              refine zr_iadd (pc := 161) (zq_d eX11_shift 91 rfl) ?_
                              refine zr_aload_n (pc := 162) (zq_d eX11_shift 92 rfl) 0 rfl rfl ?_
                              refine zr_getC (pc := 163) (zq_d eX11_shift 93 rfl) zf_RX11_214 km_69_66 ?_
                              refine zr_iload (pc := 166) (zq_d eX11_shift 94 rfl) 4 rfl ?_
                              refine zr_lald (pc := 168) (zq_d eX11_shift 95 rfl) am_110 ?_
                              refine zr_last (pc := 169) (zq_d eX11_shift 96 rfl) am_109 (fun X7 => ?_)
                              refine zr_iinc (pc := 170) (j := 4) (v := (v5 + (1 : Int32))) (lo2 := [(6, .int (v5 + (1 : Int32))), (0, .ref (zq_ad G 69)), (3, .int a3), (4, .int a4), (5, .int a5)]) (zq_d eX11_shift 97 rfl) rfl (by rw [zc_i1]) (Nat.le_of_ble_eq_true rfl) rfl ?_
                              refine zr_goto (pc := 173) 141 (zq_d eX11_shift 98 rfl) (by decide) ?_
                              exact zr_lo [1, 2, 3, 4, 0] rfl (hrc141_2 (v5 + (1 : Int32)) X7)
                          have hlrc141_2 := zr_loop (P := fun (rc141_2 : Int32 → zq_M → Option (Int32 × zq_M)) => ∀ (v5 : Int32) (X6 : zq_M), zq_V G YX11_shift (3, 0, 0) (zq_si zq_shM z) 0 0 141 [(0, .ref (zq_ad G 69)), (3, .int a3), (4, .int a4), (5, .int a5), (6, .int v5)] [] zq_shM z X6 (rc141_2 v5 X6)) (fun _ _ => none) (b_X11_shift_141 a3 a4 a5) (fun _ _ => zr_none) hbrc141_2 N
                          exact zr_lo [1, 4, 5, 6, 0] rfl (hlrc141_2 (0 : Int32) X4)
                        · refine zr_aload_n (pc := 111) (zq_d eX11_shift 62 rfl) 0 rfl rfl ?_
                          refine zr_getC (pc := 112) (zq_d eX11_shift 63 rfl) zf_RX11_214 km_69_66 ?_
                          refine zr_iload (pc := 115) (zq_d eX11_shift 64 rfl) 6 rfl ?_
                          refine zr_aload_n (pc := 117) (zq_d eX11_shift 65 rfl) 0 rfl rfl ?_
                          refine zr_getC (pc := 118) (zq_d eX11_shift 66 rfl) zf_RX11_210 km_69_65 ?_
                          refine zr_bipush (pc := 121) (zq_d eX11_shift 67 rfl) zc_b60 ?_
                          refine zr_iload_n (pc := 123) (zq_d eX11_shift 68 rfl) 1 rfl rfl ?_
                          refine zr_imul (pc := 124) (zq_d eX11_shift 69 rfl) ?_
                          refine zr_iload_n (pc := 125) (zq_d eX11_shift 70 rfl) 2 rfl rfl ?_
                          refine zr_iadd (pc := 126) (zq_d eX11_shift 71 rfl) ?_
                          refine zr_iload (pc := 127) (zq_d eX11_shift 72 rfl) 6 rfl ?_
                          refine zr_iadd (pc := 129) (zq_d eX11_shift 73 rfl) ?_
                          refine zr_lald (pc := 130) (zq_d eX11_shift 74 rfl) am_109 ?_
                          refine zr_last (pc := 131) (zq_d eX11_shift 75 rfl) am_110 (fun X8 => ?_)
                          refine zr_iinc (pc := 132) (j := 6) (v := (v3 + (1 : Int32))) (lo2 := [(6, .int (v3 + (1 : Int32))), (0, .ref (zq_ad G 69)), (1, .int a1), (2, .int a2), (3, .int a3), (4, .int a4), (5, .int a5)]) (zq_d eX11_shift 76 rfl) rfl (by rw [zc_i1]) (Nat.le_of_ble_eq_true rfl) rfl ?_
                          refine zr_goto (pc := 135) 104 (zq_d eX11_shift 77 rfl) (by decide) ?_
                          exact zr_lo [1, 2, 3, 4, 5, 6, 0] rfl (hrc104_1 (v3 + (1 : Int32)) X8)
                      have hlrc104_1 := zr_loop (P := fun (rc104_1 : Int32 → zq_M → Option (Int32 × zq_M)) => ∀ (v3 : Int32) (X4 : zq_M), zq_V G YX11_shift (3, 0, 0) (zq_si zq_shM z) 0 0 104 [(0, .ref (zq_ad G 69)), (1, .int a1), (2, .int a2), (3, .int a3), (4, .int a4), (5, .int a5), (6, .int v3)] [] zq_shM z X4 (rc104_1 v3 X4)) (fun _ _ => none) (b_X11_shift_104 N a1 a2 a3 a4 a5) (fun _ _ => zr_none) hbrc104_1 N
                      exact zr_lo [1, 2, 3, 4, 5, 6, 0] rfl (hlrc104_1 (0 : Int32) X)
                    · refine zr_bipush (pc := 98) (zq_d eX11_shift 55 rfl) zc_bm13 ?_
                      exact zr_ireturn (pc := 100) (zq_d eX11_shift 56 rfl) rfl rfl (Nat.zero_le _) (Nat.zero_le _)
          · refine zr_bipush (pc := 54) (zq_d eX11_shift 31 rfl) zc_bm12 ?_
            exact zr_ireturn (pc := 56) (zq_d eX11_shift 32 rfl) rfl rfl (Nat.zero_le _) (Nat.zero_le _)
        · refine zr_bipush (pc := 36) (zq_d eX11_shift 20 rfl) zc_bm11 ?_
          exact zr_ireturn (pc := 38) (zq_d eX11_shift 21 rfl) rfl rfl (Nat.zero_le _) (Nat.zero_le _)
    · refine zr_iconst (pc := 16) (zq_d eX11_shift 8 rfl) zc_im1 ?_
      exact zr_ireturn (pc := 17) (zq_d eX11_shift 9 rfl) rfl rfl (Nat.zero_le _) (Nat.zero_le _)
