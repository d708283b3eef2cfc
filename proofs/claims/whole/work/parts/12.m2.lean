def b_X11_canSpeak_3 (N : Nat) (X : zq_M) (a1 : Int32) (a2 : Int32) (a3 : Int32) (rc3_1 : Int32 → Option Int32) (v1 : Int32) : Option Int32 :=
  (f_X11_places N X).bind (fun v2 => if v2 ≤ v1 then (some (0 : Int32)) else (zq_ck v1 1024 (if (X.1 87 (zq_ix v1)) = 0 then (rc3_1 (v1 + (1 : Int32))) else ((f_X11_placeOf N X v1 a1).bind (fun v3 => if ¬ v3 = a2 then (rc3_1 (v1 + (1 : Int32))) else ((f_X11_maySpeak N X v1 a1 a3).bind (fun v4 => if v4 = 0 then (rc3_1 (v1 + (1 : Int32))) else (some (1 : Int32)))))))))
def f_X11_canSpeak (N : Nat) (X : zq_M) (a1 : Int32) (a2 : Int32) (a3 : Int32) : Option Int32 :=
  zq_loop (fun _ => none) (b_X11_canSpeak_3 N X a1 a2 a3) N (0 : Int32)
set_option maxRecDepth 20000 in
set_option maxHeartbeats 8000000 in
theorem s_X11_canSpeak (G : zq_G) (N z : Nat) (X : zq_M) (a1 : Int32) (a2 : Int32) (a3 : Int32) : zq_V G YX11_canSpeak (4, 0, 0) (zq_ei zq_shM z X) 0 0 0 (lv_args 0 [.ref (zq_ad G 69), .int a1, .int a2, .int a3]) [] zq_shM z X (f_X11_canSpeak N X a1 a2 a3) := by
  unfold f_X11_canSpeak
  refine zr_lo (l2 := [(0, .ref (zq_ad G 69)), (1, .int a1), (2, .int a2), (3, .int a3)]) [0, 1, 2, 3] rfl ?_
  refine zr_iconst (pc := 0) (zq_d eX11_canSpeak 0 rfl) zc_i0 ?_
  refine zr_istore (pc := 1) (lo2 := [(4, .int (0 : Int32)), (0, .ref (zq_ad G 69)), (1, .int a1), (2, .int a2), (3, .int a3)]) (zq_d eX11_canSpeak 1 rfl) (Nat.le_of_ble_eq_true rfl) rfl ?_
  have hbrc3_1 : ∀ rc3_1 : Int32 → Option Int32, (∀ (v1 : Int32), zq_V G YX11_canSpeak (4, 0, 0) (zq_ei zq_shM z X) 0 0 3 [(0, .ref (zq_ad G 69)), (1, .int a1), (2, .int a2), (3, .int a3), (4, .int v1)] [] zq_shM z X (rc3_1 v1)) → ∀ (v1 : Int32), zq_V G YX11_canSpeak (4, 0, 0) (zq_ei zq_shM z X) 0 0 3 [(0, .ref (zq_ad G 69)), (1, .int a1), (2, .int a2), (3, .int a3), (4, .int v1)] [] zq_shM z X (b_X11_canSpeak_3 N X a1 a2 a3 rc3_1 v1) := by
    intro rc3_1 hrc3_1 v1
    unfold b_X11_canSpeak_3
    refine zr_iload (pc := 3) (zq_d eX11_canSpeak 2 rfl) 4 rfl ?_
    refine zr_aload_n (pc := 5) (zq_d eX11_canSpeak 3 rfl) 0 rfl rfl ?_
    refine zr_Vi (pc := 6) [] (zq_d eX11_canSpeak 4 rfl) (s_X11_places G N z X ) zd_X11_places zl_RX11_340 om_69 rfl rfl rfl rfl (Nat.le_of_ble_eq_true rfl) (Nat.le_of_ble_eq_true rfl) (Nat.le_of_ble_eq_true rfl) ⟨Nat.le_refl _, Nat.le_refl _⟩ (fun v2 => ?_)
    refine zr_icmp_ge (pc := 9) 52 (zq_d eX11_canSpeak 5 rfl) (by decide) (fun _ => ?_) (fun _ => ?_)
    · refine zr_iconst (pc := 52) (zq_d eX11_canSpeak 27 rfl) zc_i0 ?_
      exact zr_zreturn (pc := 53) (zq_d eX11_canSpeak 28 rfl) rfl rfl rfl (Nat.zero_le _) (Nat.zero_le _)
    · refine zr_aload_n (pc := 12) (zq_d eX11_canSpeak 6 rfl) 0 rfl rfl ?_
      refine zr_getC (pc := 13) (zq_d eX11_canSpeak 7 rfl) zf_RX11_102 km_69_30 ?_
      refine zr_iload (pc := 16) (zq_d eX11_canSpeak 8 rfl) 4 rfl ?_
      refine zr_zald (pc := 18) (zq_d eX11_canSpeak 9 rfl) am_87 ?_
      refine zr_if_eq (pc := 19) 46 (zq_d eX11_canSpeak 10 rfl) (by decide) (fun _ => ?_) (fun _ => ?_)
      · refine zr_iinc (pc := 46) (j := 4) (v := (v1 + (1 : Int32))) (lo2 := [(4, .int (v1 + (1 : Int32))), (0, .ref (zq_ad G 69)), (1, .int a1), (2, .int a2), (3, .int a3)]) (zq_d eX11_canSpeak 25 rfl) rfl (by rw [zc_i1]) (Nat.le_of_ble_eq_true rfl) rfl ?_
        refine zr_goto (pc := 49) 3 (zq_d eX11_canSpeak 26 rfl) (by decide) ?_
        exact zr_lo [1, 2, 3, 4, 0] rfl (hrc3_1 (v1 + (1 : Int32)))
      · refine zr_aload_n (pc := 22) (zq_d eX11_canSpeak 11 rfl) 0 rfl rfl ?_
        refine zr_iload (pc := 23) (zq_d eX11_canSpeak 12 rfl) 4 rfl ?_
        refine zr_iload_n (pc := 25) (zq_d eX11_canSpeak 13 rfl) 1 rfl rfl ?_
        refine zr_Vi (pc := 26) [_, _] (zq_d eX11_canSpeak 14 rfl) (s_X11_placeOf G N z X _ _) zd_X11_placeOf zl_RX11_221 om_69 rfl rfl rfl rfl (Nat.le_of_ble_eq_true rfl) (Nat.le_of_ble_eq_true rfl) (Nat.le_of_ble_eq_true rfl) ⟨Nat.le_refl _, Nat.le_refl _⟩ (fun v3 => ?_)
        refine zr_iload_n (pc := 29) (zq_d eX11_canSpeak 15 rfl) 2 rfl rfl ?_
        refine zr_icmp_ne (pc := 30) 46 (zq_d eX11_canSpeak 16 rfl) (by decide) (fun _ => ?_) (fun _ => ?_)
        · refine zr_iinc (pc := 46) (j := 4) (v := (v1 + (1 : Int32))) (lo2 := [(4, .int (v1 + (1 : Int32))), (0, .ref (zq_ad G 69)), (1, .int a1), (2, .int a2), (3, .int a3)]) (zq_d eX11_canSpeak 25 rfl) rfl (by rw [zc_i1]) (Nat.le_of_ble_eq_true rfl) rfl ?_
          refine zr_goto (pc := 49) 3 (zq_d eX11_canSpeak 26 rfl) (by decide) ?_
          exact zr_lo [1, 2, 3, 4, 0] rfl (hrc3_1 (v1 + (1 : Int32)))
        · refine zr_aload_n (pc := 33) (zq_d eX11_canSpeak 17 rfl) 0 rfl rfl ?_
          refine zr_iload (pc := 34) (zq_d eX11_canSpeak 18 rfl) 4 rfl ?_
          refine zr_iload_n (pc := 36) (zq_d eX11_canSpeak 19 rfl) 1 rfl rfl ?_
          refine zr_iload_n (pc := 37) (zq_d eX11_canSpeak 20 rfl) 3 rfl rfl ?_
          refine zr_Vi (pc := 38) [_, _, _] (zq_d eX11_canSpeak 21 rfl) (s_X11_maySpeak G N z X _ _ _) zd_X11_maySpeak zl_RX11_256 om_69 rfl rfl rfl rfl (Nat.le_of_ble_eq_true rfl) (Nat.le_of_ble_eq_true rfl) (Nat.le_of_ble_eq_true rfl) ⟨Nat.le_refl _, Nat.le_refl _⟩ (fun v4 => ?_)
          refine zr_if_eq (pc := 41) 46 (zq_d eX11_canSpeak 22 rfl) (by decide) (fun _ => ?_) (fun _ => ?_)
          · refine zr_iinc (pc := 46) (j := 4) (v := (v1 + (1 : Int32))) (lo2 := [(4, .int (v1 + (1 : Int32))), (0, .ref (zq_ad G 69)), (1, .int a1), (2, .int a2), (3, .int a3)]) (zq_d eX11_canSpeak 25 rfl) rfl (by rw [zc_i1]) (Nat.le_of_ble_eq_true rfl) rfl ?_
            refine zr_goto (pc := 49) 3 (zq_d eX11_canSpeak 26 rfl) (by decide) ?_
            exact zr_lo [1, 2, 3, 4, 0] rfl (hrc3_1 (v1 + (1 : Int32)))
          · refine zr_iconst (pc := 44) (zq_d eX11_canSpeak 23 rfl) zc_i1 ?_
            exact zr_zreturn (pc := 45) (zq_d eX11_canSpeak 24 rfl) rfl rfl rfl (Nat.zero_le _) (Nat.zero_le _)
  have hlrc3_1 := zr_loop (P := fun (rc3_1 : Int32 → Option Int32) => ∀ (v1 : Int32), zq_V G YX11_canSpeak (4, 0, 0) (zq_ei zq_shM z X) 0 0 3 [(0, .ref (zq_ad G 69)), (1, .int a1), (2, .int a2), (3, .int a3), (4, .int v1)] [] zq_shM z X (rc3_1 v1)) (fun _ => none) (b_X11_canSpeak_3 N X a1 a2 a3) (fun _ => zr_none) hbrc3_1 N
  exact zr_lo [1, 2, 3, 4, 0] rfl (hlrc3_1 (0 : Int32))
def b_X11_soonestOf_10 (N : Nat) (a1 : Int32) (a2 : Int32) (rc10_1 : Int32 → zq_M → Option (Int32 × zq_M)) (v2 : Int32) (X3 : zq_M) : Option (Int32 × zq_M) :=
  if (13 : Int32) ≤ v2 then (some ((-5 : Int32), X3)) else ((f_X11_canSpeak N X3 a1 a2 ((X3.1 69 2) + v2)).bind (fun v4 => if v4 = 0 then ((f_X11_goOn N X3).bind (fun X5 => rc10_1 (v2 + (1 : Int32)) X5)) else (some (v2, X3))))
def f_X11_soonestOf (N : Nat) (X : zq_M) (a1 : Int32) (a2 : Int32) : Option (Int32 × zq_M) :=
  (f_X11_beginAt N X (X.1 69 1)).bind (fun X1 => zq_loop (fun _ _ => none) (b_X11_soonestOf_10 N a1 a2) N (0 : Int32) X1)
set_option maxRecDepth 20000 in
set_option maxHeartbeats 8000000 in
theorem s_X11_soonestOf (G : zq_G) (N z : Nat) (X : zq_M) (a1 : Int32) (a2 : Int32) : zq_V G YX11_soonestOf (6, 0, 0) (zq_si zq_shM z) 0 0 0 (lv_args 0 [.ref (zq_ad G 69), .int a1, .int a2]) [] zq_shM z X (f_X11_soonestOf N X a1 a2) := by
  unfold f_X11_soonestOf
  refine zr_lo (l2 := [(0, .ref (zq_ad G 69)), (1, .int a1), (2, .int a2)]) [0, 1, 2] rfl ?_
  refine zr_aload_n (pc := 0) (zq_d eX11_soonestOf 0 rfl) 0 rfl rfl ?_
  refine zr_aload_n (pc := 1) (zq_d eX11_soonestOf 1 rfl) 0 rfl rfl ?_
  refine zr_getI (pc := 2) (zq_d eX11_soonestOf 2 rfl) zf_RX11_13 km_69_1 ?_
  refine zr_Vv (pc := 5) [_] (zq_d eX11_soonestOf 3 rfl) (s_X11_beginAt G N z X _) zd_X11_beginAt zl_RX11_346 om_69 rfl rfl rfl rfl (Nat.le_of_ble_eq_true rfl) (Nat.le_of_ble_eq_true rfl) (Nat.le_of_ble_eq_true rfl) ⟨Nat.le_refl _, Nat.le_refl _⟩ (fun X1 => ?_)
  refine zr_iconst (pc := 8) (zq_d eX11_soonestOf 4 rfl) zc_i0 ?_
  refine zr_istore_n (pc := 9) (lo2 := [(3, .int (0 : Int32)), (0, .ref (zq_ad G 69)), (1, .int a1), (2, .int a2)]) (zq_d eX11_soonestOf 5 rfl) rfl (Nat.le_of_ble_eq_true rfl) rfl ?_
  have hbrc10_1 : ∀ rc10_1 : Int32 → zq_M → Option (Int32 × zq_M), (∀ (v2 : Int32) (X3 : zq_M), zq_V G YX11_soonestOf (6, 0, 0) (zq_si zq_shM z) 0 0 10 [(0, .ref (zq_ad G 69)), (1, .int a1), (2, .int a2), (3, .int v2)] [] zq_shM z X3 (rc10_1 v2 X3)) → ∀ (v2 : Int32) (X3 : zq_M), zq_V G YX11_soonestOf (6, 0, 0) (zq_si zq_shM z) 0 0 10 [(0, .ref (zq_ad G 69)), (1, .int a1), (2, .int a2), (3, .int v2)] [] zq_shM z X3 (b_X11_soonestOf_10 N a1 a2 rc10_1 v2 X3) := by
    intro rc10_1 hrc10_1 v2 X3
    unfold b_X11_soonestOf_10
    refine zr_iload_n (pc := 10) (zq_d eX11_soonestOf 6 rfl) 3 rfl rfl ?_
    refine zr_bipush (pc := 11) (zq_d eX11_soonestOf 7 rfl) zc_b13 ?_
    refine zr_icmp_ge (pc := 13) 43 (zq_d eX11_soonestOf 8 rfl) (by decide) (fun _ => ?_) (fun _ => ?_)
    · refine zr_bipush (pc := 43) (zq_d eX11_soonestOf 24 rfl) zc_bm5 ?_
      exact zr_ireturn (pc := 45) (zq_d eX11_soonestOf 25 rfl) rfl rfl (Nat.zero_le _) (Nat.zero_le _)
    · refine zr_aload_n (pc := 16) (zq_d eX11_soonestOf 9 rfl) 0 rfl rfl ?_
      refine zr_iload_n (pc := 17) (zq_d eX11_soonestOf 10 rfl) 1 rfl rfl ?_
      refine zr_iload_n (pc := 18) (zq_d eX11_soonestOf 11 rfl) 2 rfl rfl ?_
      refine zr_aload_n (pc := 19) (zq_d eX11_soonestOf 12 rfl) 0 rfl rfl ?_
      refine zr_getI (pc := 20) (zq_d eX11_soonestOf 13 rfl) zf_RX11_16 km_69_2 ?_
      refine zr_iload_n (pc := 23) (zq_d eX11_soonestOf 14 rfl) 3 rfl rfl ?_
      refine zr_iadd (pc := 24) (zq_d eX11_soonestOf 15 rfl) ?_
      refine zr_Vi (pc := 25) [_, _, _] (zq_d eX11_soonestOf 16 rfl) (s_X11_canSpeak G N z X3 _ _ _) zd_X11_canSpeak zl_RX11_349 om_69 rfl rfl rfl rfl (Nat.le_of_ble_eq_true rfl) (Nat.le_of_ble_eq_true rfl) (Nat.le_of_ble_eq_true rfl) ⟨Nat.le_refl _, Nat.le_refl _⟩ (fun v4 => ?_)
      refine zr_if_eq (pc := 28) 33 (zq_d eX11_soonestOf 17 rfl) (by decide) (fun _ => ?_) (fun _ => ?_)
      · refine zr_aload_n (pc := 33) (zq_d eX11_soonestOf 20 rfl) 0 rfl rfl ?_
        refine zr_Vv (pc := 34) [] (zq_d eX11_soonestOf 21 rfl) (s_X11_goOn G N z X3 ) zd_X11_goOn zl_RX11_352 om_69 rfl rfl rfl rfl (Nat.le_of_ble_eq_true rfl) (Nat.le_of_ble_eq_true rfl) (Nat.le_of_ble_eq_true rfl) ⟨Nat.le_refl _, Nat.le_refl _⟩ (fun X5 => ?_)
        refine zr_iinc (pc := 37) (j := 3) (v := (v2 + (1 : Int32))) (lo2 := [(3, .int (v2 + (1 : Int32))), (0, .ref (zq_ad G 69)), (1, .int a1), (2, .int a2)]) (zq_d eX11_soonestOf 22 rfl) rfl (by rw [zc_i1]) (Nat.le_of_ble_eq_true rfl) rfl ?_
        refine zr_goto (pc := 40) 10 (zq_d eX11_soonestOf 23 rfl) (by decide) ?_
        exact zr_lo [1, 2, 3, 0] rfl (hrc10_1 (v2 + (1 : Int32)) X5)
      · refine zr_iload_n (pc := 31) (zq_d eX11_soonestOf 18 rfl) 3 rfl rfl ?_
        exact zr_ireturn (pc := 32) (zq_d eX11_soonestOf 19 rfl) rfl rfl (Nat.zero_le _) (Nat.zero_le _)
  have hlrc10_1 := zr_loop (P := fun (rc10_1 : Int32 → zq_M → Option (Int32 × zq_M)) => ∀ (v2 : Int32) (X3 : zq_M), zq_V G YX11_soonestOf (6, 0, 0) (zq_si zq_shM z) 0 0 10 [(0, .ref (zq_ad G 69)), (1, .int a1), (2, .int a2), (3, .int v2)] [] zq_shM z X3 (rc10_1 v2 X3)) (fun _ _ => none) (b_X11_soonestOf_10 N a1 a2) (fun _ _ => zr_none) hbrc10_1 N
  exact zr_lo [1, 2, 3, 0] rfl (hlrc10_1 (0 : Int32) X1)
def k_X11_leadsBy_57_2 (N : Nat) (a2 : Int32) (a3 : Int32) (a4 : Int32) (X5 : zq_M)  : Option (Int32 × zq_M) :=
  (f_X11_canSpeak N X5 a2 a3 ((X5.1 69 2) + a4)).bind (fun v6 => zq_gz v6 (some (v6, X5)))
def b_X11_leadsBy_40 (N : Nat) (a2 : Int32) (a3 : Int32) (a4 : Int32) (rc40_1 : Int32 → zq_M → Option (Int32 × zq_M)) (v4 : Int32) (X5 : zq_M) : Option (Int32 × zq_M) :=
  if a4 ≤ v4 then (k_X11_leadsBy_57_2 N a2 a3 a4 X5) else ((f_X11_goOn N X5).bind (fun X7 => rc40_1 (v4 + (1 : Int32)) X7))
def f_X11_leadsBy (N : Nat) (X : zq_M) (a1 : Int32) (a2 : Int32) (a3 : Int32) (a4 : Int32) : Option (Int32 × zq_M) :=
  (f_X11_mayCome N X (X.1 69 1) (a1 / (4 : Int32)) (zq_irem a1 (4 : Int32))).bind (fun v1 => if ¬ v1 = 0 then ((f_X11_moved N X (X.1 69 1) (a1 / (4 : Int32)) (zq_irem a1 (4 : Int32))).bind (fun v2 => (f_X11_beginAt N X v2).bind (fun X3 => zq_loop (fun _ _ => none) (b_X11_leadsBy_40 N a2 a3 a4) N (1 : Int32) X3))) else (some ((0 : Int32), X)))
set_option maxRecDepth 20000 in
set_option maxHeartbeats 8000000 in
theorem s_X11_leadsBy (G : zq_G) (N z : Nat) (X : zq_M) (a1 : Int32) (a2 : Int32) (a3 : Int32) (a4 : Int32) : zq_V G YX11_leadsBy (6, 0, 0) (zq_si zq_shM z) 0 0 0 (lv_args 0 [.ref (zq_ad G 69), .int a1, .int a2, .int a3, .int a4]) [] zq_shM z X (f_X11_leadsBy N X a1 a2 a3 a4) := by
  unfold f_X11_leadsBy
  refine zr_lo (l2 := [(0, .ref (zq_ad G 69)), (1, .int a1), (2, .int a2), (3, .int a3), (4, .int a4)]) [0, 1, 2, 3, 4] rfl ?_
  refine zr_aload_n (pc := 0) (zq_d eX11_leadsBy 0 rfl) 0 rfl rfl ?_
  refine zr_aload_n (pc := 1) (zq_d eX11_leadsBy 1 rfl) 0 rfl rfl ?_
  refine zr_getI (pc := 2) (zq_d eX11_leadsBy 2 rfl) zf_RX11_13 km_69_1 ?_
  refine zr_iload_n (pc := 5) (zq_d eX11_leadsBy 3 rfl) 1 rfl rfl ?_
  refine zr_iconst (pc := 6) (zq_d eX11_leadsBy 4 rfl) zc_i4 ?_
  refine zr_idivk (pc := 7) (zq_d eX11_leadsBy 5 rfl) (by decide) ?_
  refine zr_iload_n (pc := 8) (zq_d eX11_leadsBy 6 rfl) 1 rfl rfl ?_
  refine zr_iconst (pc := 9) (zq_d eX11_leadsBy 7 rfl) zc_i4 ?_
  refine zr_iremk (pc := 10) (zq_d eX11_leadsBy 8 rfl) (by decide) ?_
  refine zr_Vi (pc := 11) [_, _, _] (zq_d eX11_leadsBy 9 rfl) (s_X11_mayCome G N z X _ _ _) zd_X11_mayCome zl_RX11_343 om_69 rfl rfl rfl rfl (Nat.le_of_ble_eq_true rfl) (Nat.le_of_ble_eq_true rfl) (Nat.le_of_ble_eq_true rfl) ⟨Nat.le_refl _, Nat.le_refl _⟩ (fun v1 => ?_)
  refine zr_if_ne (pc := 14) 19 (zq_d eX11_leadsBy 10 rfl) (by decide) (fun _ => ?_) (fun _ => ?_)
  · refine zr_aload_n (pc := 19) (zq_d eX11_leadsBy 13 rfl) 0 rfl rfl ?_
    refine zr_aload_n (pc := 20) (zq_d eX11_leadsBy 14 rfl) 0 rfl rfl ?_
    refine zr_aload_n (pc := 21) (zq_d eX11_leadsBy 15 rfl) 0 rfl rfl ?_
    refine zr_getI (pc := 22) (zq_d eX11_leadsBy 16 rfl) zf_RX11_13 km_69_1 ?_
    refine zr_iload_n (pc := 25) (zq_d eX11_leadsBy 17 rfl) 1 rfl rfl ?_
    refine zr_iconst (pc := 26) (zq_d eX11_leadsBy 18 rfl) zc_i4 ?_
    refine zr_idivk (pc := 27) (zq_d eX11_leadsBy 19 rfl) (by decide) ?_
    refine zr_iload_n (pc := 28) (zq_d eX11_leadsBy 20 rfl) 1 rfl rfl ?_
    refine zr_iconst (pc := 29) (zq_d eX11_leadsBy 21 rfl) zc_i4 ?_
    refine zr_iremk (pc := 30) (zq_d eX11_leadsBy 22 rfl) (by decide) ?_
    refine zr_Vi (pc := 31) [_, _, _] (zq_d eX11_leadsBy 23 rfl) (s_X11_moved G N z X _ _ _) zd_X11_moved zl_RX11_229 om_69 rfl rfl rfl rfl (Nat.le_of_ble_eq_true rfl) (Nat.le_of_ble_eq_true rfl) (Nat.le_of_ble_eq_true rfl) ⟨Nat.le_refl _, Nat.le_refl _⟩ (fun v2 => ?_)
    refine zr_Vv (pc := 34) [_] (zq_d eX11_leadsBy 24 rfl) (s_X11_beginAt G N z X _) zd_X11_beginAt zl_RX11_346 om_69 rfl rfl rfl rfl (Nat.le_of_ble_eq_true rfl) (Nat.le_of_ble_eq_true rfl) (Nat.le_of_ble_eq_true rfl) ⟨Nat.le_refl _, Nat.le_refl _⟩ (fun X3 => ?_)
    refine zr_iconst (pc := 37) (zq_d eX11_leadsBy 25 rfl) zc_i1 ?_
    refine zr_istore (pc := 38) (lo2 := [(5, .int (1 : Int32)), (0, .ref (zq_ad G 69)), (1, .int a1), (2, .int a2), (3, .int a3), (4, .int a4)]) (zq_d eX11_leadsBy 26 rfl) (Nat.le_of_ble_eq_true rfl) rfl ?_
    have hbrc40_1 : ∀ rc40_1 : Int32 → zq_M → Option (Int32 × zq_M), (∀ (v4 : Int32) (X5 : zq_M), zq_V G YX11_leadsBy (6, 0, 0) (zq_si zq_shM z) 0 0 40 [(0, .ref (zq_ad G 69)), (2, .int a2), (3, .int a3), (4, .int a4), (5, .int v4)] [] zq_shM z X5 (rc40_1 v4 X5)) → ∀ (v4 : Int32) (X5 : zq_M), zq_V G YX11_leadsBy (6, 0, 0) (zq_si zq_shM z) 0 0 40 [(0, .ref (zq_ad G 69)), (2, .int a2), (3, .int a3), (4, .int a4), (5, .int v4)] [] zq_shM z X5 (b_X11_leadsBy_40 N a2 a3 a4 rc40_1 v4 X5) := by
      intro rc40_1 hrc40_1 v4 X5
      unfold b_X11_leadsBy_40
      refine zr_iload (pc := 40) (zq_d eX11_leadsBy 27 rfl) 4 rfl ?_
      refine zr_iload (pc := 42) (zq_d eX11_leadsBy 28 rfl) 3 rfl ?_
      refine zr_icmp_ge (pc := 44) 57 (zq_d eX11_leadsBy 29 rfl) (by decide) (fun _ => ?_) (fun _ => ?_)
      · unfold k_X11_leadsBy_57_2
        refine zr_aload_n (pc := 57) (zq_d eX11_leadsBy 34 rfl) 0 rfl rfl ?_
        refine zr_iload_n (pc := 58) (zq_d eX11_leadsBy 35 rfl) 1 rfl rfl ?_
        refine zr_iload_n (pc := 59) (zq_d eX11_leadsBy 36 rfl) 2 rfl rfl ?_
        refine zr_aload_n (pc := 60) (zq_d eX11_leadsBy 37 rfl) 0 rfl rfl ?_
        refine zr_getI (pc := 61) (zq_d eX11_leadsBy 38 rfl) zf_RX11_16 km_69_2 ?_
        refine zr_iload (pc := 64) (zq_d eX11_leadsBy 39 rfl) 3 rfl ?_
        refine zr_iadd (pc := 66) (zq_d eX11_leadsBy 40 rfl) ?_
        refine zr_Vi (pc := 67) [_, _, _] (zq_d eX11_leadsBy 41 rfl) (s_X11_canSpeak G N z X5 _ _ _) zd_X11_canSpeak zl_RX11_349 om_69 rfl rfl rfl rfl (Nat.le_of_ble_eq_true rfl) (Nat.le_of_ble_eq_true rfl) (Nat.le_of_ble_eq_true rfl) ⟨Nat.le_refl _, Nat.le_refl _⟩ (fun v6 => ?_)
        exact zr_zreturnG (pc := 70) (zq_d eX11_leadsBy 42 rfl) rfl rfl (Nat.zero_le _) (Nat.zero_le _)
      · refine zr_aload_n (pc := 47) (zq_d eX11_leadsBy 30 rfl) 0 rfl rfl ?_
        refine zr_Vv (pc := 48) [] (zq_d eX11_leadsBy 31 rfl) (s_X11_goOn G N z X5 ) zd_X11_goOn zl_RX11_352 om_69 rfl rfl rfl rfl (Nat.le_of_ble_eq_true rfl) (Nat.le_of_ble_eq_true rfl) (Nat.le_of_ble_eq_true rfl) ⟨Nat.le_refl _, Nat.le_refl _⟩ (fun X7 => ?_)
        refine zr_iinc (pc := 51) (j := 4) (v := (v4 + (1 : Int32))) (lo2 := [(5, .int (v4 + (1 : Int32))), (0, .ref (zq_ad G 69)), (2, .int a2), (3, .int a3), (4, .int a4)]) (zq_d eX11_leadsBy 32 rfl) rfl (by rw [zc_i1]) (Nat.le_of_ble_eq_true rfl) rfl ?_
        refine zr_goto (pc := 54) 40 (zq_d eX11_leadsBy 33 rfl) (by decide) ?_
        exact zr_lo [1, 2, 3, 4, 0] rfl (hrc40_1 (v4 + (1 : Int32)) X7)
    have hlrc40_1 := zr_loop (P := fun (rc40_1 : Int32 → zq_M → Option (Int32 × zq_M)) => ∀ (v4 : Int32) (X5 : zq_M), zq_V G YX11_leadsBy (6, 0, 0) (zq_si zq_shM z) 0 0 40 [(0, .ref (zq_ad G 69)), (2, .int a2), (3, .int a3), (4, .int a4), (5, .int v4)] [] zq_shM z X5 (rc40_1 v4 X5)) (fun _ _ => none) (b_X11_leadsBy_40 N a2 a3 a4) (fun _ _ => zr_none) hbrc40_1 N
    exact zr_lo [1, 3, 4, 5, 0] rfl (hlrc40_1 (1 : Int32) X3)
  · refine zr_iconst (pc := 17) (zq_d eX11_leadsBy 11 rfl) zc_i0 ?_
    exact zr_zreturn (pc := 18) (zq_d eX11_leadsBy 12 rfl) rfl rfl rfl (Nat.zero_le _) (Nat.zero_le _)
def b_X11_soonest_50 (N : Nat) (a1 : Int32) (a2 : Int32) (v5 : Int32) (rc50_1 : Int32 → zq_M → Option (Int32 × zq_M)) (v7 : Int32) (X8 : zq_M) : Option (Int32 × zq_M) :=
  if ((4 : Int32) * (X8.1 69 0)) ≤ v7 then (some ((-5 : Int32), X8)) else (if v5 ≤ 0 then (some ((-5 : Int32), X8)) else ((f_X11_leadsBy N X8 v7 a1 a2 v5).bind (zq_p (fun v9 X10 => if v9 = 0 then (rc50_1 (v7 + (1 : Int32)) X10) else (some (v7, X10))))))
def f_X11_soonest (N : Nat) (X : zq_M) (a1 : Int32) (a2 : Int32) (a3 : Int32) : Option (Int32 × zq_M) :=
  (f_X11_isPerson N X a1).bind (fun v1 => if v1 = 0 then (some ((-1 : Int32), X)) else ((f_X11_isRoom N X a2).bind (fun v2 => if v2 = 0 then (some ((-1 : Int32), X)) else ((f_X11_within N X a3 (0 : Int32) (1 : Int32)).bind (fun v3 => if ¬ v3 = 0 then ((f_X11_layComings N X).bind (fun X4 => (f_X11_soonestOf N X4 a1 a2).bind (zq_p (fun v5 X6 => if ¬ a3 = 0 then (zq_loop (fun _ _ => none) (b_X11_soonest_50 N a1 a2 v5) N (0 : Int32) X6) else (some (v5, X6)))))) else (some ((-1 : Int32), X)))))))
set_option maxRecDepth 20000 in
set_option maxHeartbeats 8000000 in
theorem s_X11_soonest (G : zq_G) (N z : Nat) (X : zq_M) (a1 : Int32) (a2 : Int32) (a3 : Int32) : zq_V G YX11_soonest (7, 0, 0) (zq_si zq_shM z) 0 0 0 (lv_args 0 [.ref (zq_ad G 69), .int a1, .int a2, .int a3]) [] zq_shM z X (f_X11_soonest N X a1 a2 a3) := by
  unfold f_X11_soonest
  refine zr_lo (l2 := [(0, .ref (zq_ad G 69)), (1, .int a1), (2, .int a2), (3, .int a3)]) [0, 1, 2, 3] rfl ?_
  refine zr_aload_n (pc := 0) (zq_d eX11_soonest 0 rfl) 0 rfl rfl ?_
  refine zr_iload_n (pc := 1) (zq_d eX11_soonest 1 rfl) 1 rfl rfl ?_
  refine zr_Vi (pc := 2) [_] (zq_d eX11_soonest 2 rfl) (s_X11_isPerson G N z X _) zd_X11_isPerson zl_RX11_249 om_69 rfl rfl rfl rfl (Nat.le_of_ble_eq_true rfl) (Nat.le_of_ble_eq_true rfl) (Nat.le_of_ble_eq_true rfl) ⟨Nat.le_refl _, Nat.le_refl _⟩ (fun v1 => ?_)
  refine zr_if_eq (pc := 5) 26 (zq_d eX11_soonest 3 rfl) (by decide) (fun _ => ?_) (fun _ => ?_)
  · refine zr_iconst (pc := 26) (zq_d eX11_soonest 14 rfl) zc_im1 ?_
    exact zr_ireturn (pc := 27) (zq_d eX11_soonest 15 rfl) rfl rfl (Nat.zero_le _) (Nat.zero_le _)
  · refine zr_aload_n (pc := 8) (zq_d eX11_soonest 4 rfl) 0 rfl rfl ?_
    refine zr_iload_n (pc := 9) (zq_d eX11_soonest 5 rfl) 2 rfl rfl ?_
    refine zr_Vi (pc := 10) [_] (zq_d eX11_soonest 6 rfl) (s_X11_isRoom G N z X _) zd_X11_isRoom zl_RX11_259 om_69 rfl rfl rfl rfl (Nat.le_of_ble_eq_true rfl) (Nat.le_of_ble_eq_true rfl) (Nat.le_of_ble_eq_true rfl) ⟨Nat.le_refl _, Nat.le_refl _⟩ (fun v2 => ?_)
    refine zr_if_eq (pc := 13) 26 (zq_d eX11_soonest 7 rfl) (by decide) (fun _ => ?_) (fun _ => ?_)
    · refine zr_iconst (pc := 26) (zq_d eX11_soonest 14 rfl) zc_im1 ?_
      exact zr_ireturn (pc := 27) (zq_d eX11_soonest 15 rfl) rfl rfl (Nat.zero_le _) (Nat.zero_le _)
    · refine zr_aload_n (pc := 16) (zq_d eX11_soonest 8 rfl) 0 rfl rfl ?_
      refine zr_iload_n (pc := 17) (zq_d eX11_soonest 9 rfl) 3 rfl rfl ?_
      refine zr_iconst (pc := 18) (zq_d eX11_soonest 10 rfl) zc_i0 ?_
      refine zr_iconst (pc := 19) (zq_d eX11_soonest 11 rfl) zc_i1 ?_
      refine zr_Vi (pc := 20) [_, _, _] (zq_d eX11_soonest 12 rfl) (s_X11_within G N z X _ _ _) zd_X11_within zl_RX11_217 om_69 rfl rfl rfl rfl (Nat.le_of_ble_eq_true rfl) (Nat.le_of_ble_eq_true rfl) (Nat.le_of_ble_eq_true rfl) ⟨Nat.le_refl _, Nat.le_refl _⟩ (fun v3 => ?_)
      refine zr_if_ne (pc := 23) 28 (zq_d eX11_soonest 13 rfl) (by decide) (fun _ => ?_) (fun _ => ?_)
      · refine zr_aload_n (pc := 28) (zq_d eX11_soonest 16 rfl) 0 rfl rfl ?_
        refine zr_Vv (pc := 29) [] (zq_d eX11_soonest 17 rfl) (s_X11_layComings G N z X ) zd_X11_layComings zl_RX11_355 om_69 rfl rfl rfl rfl (Nat.le_of_ble_eq_true rfl) (Nat.le_of_ble_eq_true rfl) (Nat.le_of_ble_eq_true rfl) ⟨Nat.le_refl _, Nat.le_refl _⟩ (fun X4 => ?_)
        refine zr_aload_n (pc := 32) (zq_d eX11_soonest 18 rfl) 0 rfl rfl ?_
        refine zr_iload_n (pc := 33) (zq_d eX11_soonest 19 rfl) 1 rfl rfl ?_
        refine zr_iload_n (pc := 34) (zq_d eX11_soonest 20 rfl) 2 rfl rfl ?_
        refine zr_Wsi (pc := 35) [_, _] (zq_d eX11_soonest 21 rfl) (s_X11_soonestOf G N z X4 _ _) zd_X11_soonestOf zl_RX11_358 om_69 rfl rfl rfl rfl (Nat.le_of_ble_eq_true rfl) (Nat.le_of_ble_eq_true rfl) (Nat.le_of_ble_eq_true rfl) ⟨Nat.le_refl _, Nat.le_refl _⟩ (fun v5 X6 => ?_)
        refine zr_istore (pc := 38) (lo2 := [(4, .int v5), (0, .ref (zq_ad G 69)), (1, .int a1), (2, .int a2), (3, .int a3)]) (zq_d eX11_soonest 22 rfl) (Nat.le_of_ble_eq_true rfl) rfl ?_
        refine zr_iload_n (pc := 40) (zq_d eX11_soonest 23 rfl) 4 rfl rfl ?_
        refine zr_if_ne (pc := 41) 47 (zq_d eX11_soonest 24 rfl) (by decide) (fun _ => ?_) (fun _ => ?_)
        · refine zr_iconst (pc := 47) (zq_d eX11_soonest 27 rfl) zc_i0 ?_
          refine zr_istore (pc := 48) (lo2 := [(5, .int (0 : Int32)), (4, .int v5), (0, .ref (zq_ad G 69)), (1, .int a1), (2, .int a2), (3, .int a3)]) (zq_d eX11_soonest 28 rfl) (Nat.le_of_ble_eq_true rfl) rfl ?_
          have hbrc50_1 : ∀ rc50_1 : Int32 → zq_M → Option (Int32 × zq_M), (∀ (v7 : Int32) (X8 : zq_M), zq_V G YX11_soonest (7, 0, 0) (zq_si zq_shM z) 0 0 50 [(0, .ref (zq_ad G 69)), (1, .int a1), (2, .int a2), (4, .int v5), (5, .int v7)] [] zq_shM z X8 (rc50_1 v7 X8)) → ∀ (v7 : Int32) (X8 : zq_M), zq_V G YX11_soonest (7, 0, 0) (zq_si zq_shM z) 0 0 50 [(0, .ref (zq_ad G 69)), (1, .int a1), (2, .int a2), (4, .int v5), (5, .int v7)] [] zq_shM z X8 (b_X11_soonest_50 N a1 a2 v5 rc50_1 v7 X8) := by
            intro rc50_1 hrc50_1 v7 X8
            unfold b_X11_soonest_50
            refine zr_iload (pc := 50) (zq_d eX11_soonest 29 rfl) 4 rfl ?_
            refine zr_iconst (pc := 52) (zq_d eX11_soonest 30 rfl) zc_i4 ?_
            refine zr_aload_n (pc := 53) (zq_d eX11_soonest 31 rfl) 0 rfl rfl ?_
            refine zr_getI (pc := 54) (zq_d eX11_soonest 32 rfl) zf_RX11_7 km_69_0 ?_
            refine zr_imul (pc := 57) (zq_d eX11_soonest 33 rfl) ?_
            refine zr_icmp_ge (pc := 58) 88 (zq_d eX11_soonest 34 rfl) (by decide) (fun _ => ?_) (fun _ => ?_)
            · refine zr_bipush (pc := 88) (zq_d eX11_soonest 48 rfl) zc_bm5 ?_
              exact zr_ireturn (pc := 90) (zq_d eX11_soonest 49 rfl) rfl rfl (Nat.zero_le _) (Nat.zero_le _)
            · refine zr_iload (pc := 61) (zq_d eX11_soonest 35 rfl) 3 rfl ?_
              refine zr_if_le (pc := 63) 88 (zq_d eX11_soonest 36 rfl) (by decide) (fun _ => ?_) (fun _ => ?_)
              · refine zr_bipush (pc := 88) (zq_d eX11_soonest 48 rfl) zc_bm5 ?_
                exact zr_ireturn (pc := 90) (zq_d eX11_soonest 49 rfl) rfl rfl (Nat.zero_le _) (Nat.zero_le _)
              · refine zr_aload_n (pc := 66) (zq_d eX11_soonest 37 rfl) 0 rfl rfl ?_
                refine zr_iload (pc := 67) (zq_d eX11_soonest 38 rfl) 4 rfl ?_
                refine zr_iload_n (pc := 69) (zq_d eX11_soonest 39 rfl) 1 rfl rfl ?_
                refine zr_iload_n (pc := 70) (zq_d eX11_soonest 40 rfl) 2 rfl rfl ?_
                refine zr_iload (pc := 71) (zq_d eX11_soonest 41 rfl) 3 rfl ?_
                refine zr_Wsi (pc := 73) [_, _, _, _] (zq_d eX11_soonest 42 rfl) (s_X11_leadsBy G N z X8 _ _ _ _) zd_X11_leadsBy zl_RX11_361 om_69 rfl rfl rfl rfl (Nat.le_of_ble_eq_true rfl) (Nat.le_of_ble_eq_true rfl) (Nat.le_of_ble_eq_true rfl) ⟨Nat.le_refl _, Nat.le_refl _⟩ (fun v9 X10 => ?_)
                refine zr_if_eq (pc := 76) 82 (zq_d eX11_soonest 43 rfl) (by decide) (fun _ => ?_) (fun _ => ?_)
                · refine zr_iinc (pc := 82) (j := 4) (v := (v7 + (1 : Int32))) (lo2 := [(5, .int (v7 + (1 : Int32))), (0, .ref (zq_ad G 69)), (1, .int a1), (2, .int a2), (4, .int v5)]) (zq_d eX11_soonest 46 rfl) rfl (by rw [zc_i1]) (Nat.le_of_ble_eq_true rfl) rfl ?_
                  refine zr_goto (pc := 85) 50 (zq_d eX11_soonest 47 rfl) (by decide) ?_
                  exact zr_lo [1, 2, 3, 4, 0] rfl (hrc50_1 (v7 + (1 : Int32)) X10)
                · refine zr_iload (pc := 79) (zq_d eX11_soonest 44 rfl) 4 rfl ?_
                  exact zr_ireturn (pc := 81) (zq_d eX11_soonest 45 rfl) rfl rfl (Nat.zero_le _) (Nat.zero_le _)
          have hlrc50_1 := zr_loop (P := fun (rc50_1 : Int32 → zq_M → Option (Int32 × zq_M)) => ∀ (v7 : Int32) (X8 : zq_M), zq_V G YX11_soonest (7, 0, 0) (zq_si zq_shM z) 0 0 50 [(0, .ref (zq_ad G 69)), (1, .int a1), (2, .int a2), (4, .int v5), (5, .int v7)] [] zq_shM z X8 (rc50_1 v7 X8)) (fun _ _ => none) (b_X11_soonest_50 N a1 a2 v5) (fun _ _ => zr_none) hbrc50_1 N
          exact zr_lo [2, 3, 4, 1, 0] rfl (hlrc50_1 (0 : Int32) X6)
        · refine zr_iload (pc := 44) (zq_d eX11_soonest 25 rfl) 0 rfl ?_
          exact zr_ireturn (pc := 46) (zq_d eX11_soonest 26 rfl) rfl rfl (Nat.zero_le _) (Nat.zero_le _)
      · refine zr_iconst (pc := 26) (zq_d eX11_soonest 14 rfl) zc_im1 ?_
        exact zr_ireturn (pc := 27) (zq_d eX11_soonest 15 rfl) rfl rfl (Nat.zero_le _) (Nat.zero_le _)
def b_X11_goOnCheap_163 (N : Nat) (rc163_3 : Int32 → zq_M → Option zq_M) (v7 : Int32) (X8 : zq_M) : Option zq_M :=
  (f_X11_places N X8).bind (fun v9 => if v9 ≤ v7 then (some X8) else (zq_ck v7 1024 (zq_ck v7 1024 (zq_b (zq_u1 X8 89 (zq_ix v7) (X8.1 90 (zq_ix v7))) (fun X10 => rc163_3 (v7 + (1 : Int32)) X10)))))
def k_X11_goOnCheap_161_4 (N : Nat) (X5 : zq_M)  : Option zq_M :=
  zq_loop (fun _ _ => none) (b_X11_goOnCheap_163 N) N (0 : Int32) X5
def j_X11_goOnCheap_142 (v13 : Int32) (X14 : zq_M) (rc54_6 : Int32 → zq_M → Option zq_M) (v16 : Int32) (v19 : Int32) : Option zq_M :=
  zq_ck v16 1024 (zq_b (zq_u1 X14 90 (zq_ix v16) v19) (fun X20 => rc54_6 (v13 + (1 : Int32)) X20))
def b_X11_goOnCheap_54 (N : Nat) (v4 : Int32) (v11 : Int32) (rc35_5 : Int32 → zq_M → Option zq_M) (rc54_6 : Int32 → zq_M → Option zq_M) (v13 : Int32) (X14 : zq_M) : Option zq_M :=
  if (4 : Int32) ≤ v13 then (rc35_5 (v11 + (1 : Int32)) X14) else ((f_X11_mayCome N X14 v4 v11 v13).bind (fun v15 => if ¬ v15 = 0 then ((f_X11_moved N X14 v4 v11 v13).bind (fun v16 => zq_ck v4 1024 ((f_X11_comingOf N X14 v4 v11 v13).bind (fun v17 => zq_ck v17 120 (zq_b ((X14.1 89 (zq_ix v4)) + (X14.1 85 (zq_ix v17))) (fun v18 => zq_ck v16 1024 (if (X14.1 90 (zq_ix v16)) < 0 then (j_X11_goOnCheap_142 v13 X14 rc54_6 v16 v18) else (zq_ck v16 1024 (if (X14.1 90 (zq_ix v16)) ≤ v18 then (zq_ck v16 1024 (j_X11_goOnCheap_142 v13 X14 rc54_6 v16 (X14.1 90 (zq_ix v16)))) else (j_X11_goOnCheap_142 v13 X14 rc54_6 v16 v18)))))))))) else (rc54_6 (v13 + (1 : Int32)) X14)))
def b_X11_goOnCheap_35 (N : Nat) (v4 : Int32) (rc25_2 : Int32 → zq_M → Option zq_M) (rc35_5 : Int32 → zq_M → Option zq_M) (v11 : Int32) (X12 : zq_M) : Option zq_M :=
  if (X12.1 69 0) ≤ v11 then (rc25_2 (v4 + (1 : Int32)) X12) else (zq_ck v4 1024 (if (X12.1 89 (zq_ix v4)) < 0 then (rc25_2 (v4 + (1 : Int32)) X12) else (zq_loop (fun _ _ => none) (b_X11_goOnCheap_54 N v4 v11 rc35_5) N (0 : Int32) X12)))
def b_X11_goOnCheap_25 (N : Nat) (rc25_2 : Int32 → zq_M → Option zq_M) (v4 : Int32) (X5 : zq_M) : Option zq_M :=
  (f_X11_places N X5).bind (fun v6 => if v6 ≤ v4 then (k_X11_goOnCheap_161_4 N X5) else (zq_loop (fun _ _ => none) (b_X11_goOnCheap_35 N v4 rc25_2) N (0 : Int32) X5))
def k_X11_goOnCheap_23_8 (N : Nat) (X2 : zq_M)  : Option zq_M :=
  zq_loop (fun _ _ => none) (b_X11_goOnCheap_25 N) N (0 : Int32) X2
def b_X11_goOnCheap_2 (N : Nat) (rc2_1 : Int32 → zq_M → Option zq_M) (v1 : Int32) (X2 : zq_M) : Option zq_M :=
  (f_X11_places N X2).bind (fun v3 => if v3 ≤ v1 then (k_X11_goOnCheap_23_8 N X2) else (zq_ck v1 1024 (zq_b (zq_u1 X2 90 (zq_ix v1) (-1 : Int32)) (fun X21 => rc2_1 (v1 + (1 : Int32)) X21))))
def f_X11_goOnCheap (N : Nat) (X : zq_M)  : Option zq_M :=
  zq_loop (fun _ _ => none) (b_X11_goOnCheap_2 N) N (0 : Int32) X
set_option maxRecDepth 20000 in
set_option maxHeartbeats 8000000 in
theorem s_X11_goOnCheap (G : zq_G) (N z : Nat) (X : zq_M)  : zq_V G YX11_goOnCheap (5, 0, 0) (zq_sv zq_shM z) 0 0 0 (lv_args 0 [.ref (zq_ad G 69)]) [] zq_shM z X (f_X11_goOnCheap N X ) := by
  unfold f_X11_goOnCheap
  refine zr_lo (l2 := [(0, .ref (zq_ad G 69))]) [0] rfl ?_
  refine zr_iconst (pc := 0) (zq_d eX11_goOnCheap 0 rfl) zc_i0 ?_
  refine zr_istore_n (pc := 1) (lo2 := [(1, .int (0 : Int32)), (0, .ref (zq_ad G 69))]) (zq_d eX11_goOnCheap 1 rfl) rfl (Nat.le_of_ble_eq_true rfl) rfl ?_
  have hbrc2_1 : ∀ rc2_1 : Int32 → zq_M → Option zq_M, (∀ (v1 : Int32) (X2 : zq_M), zq_V G YX11_goOnCheap (5, 0, 0) (zq_sv zq_shM z) 0 0 2 [(0, .ref (zq_ad G 69)), (1, .int v1)] [] zq_shM z X2 (rc2_1 v1 X2)) → ∀ (v1 : Int32) (X2 : zq_M), zq_V G YX11_goOnCheap (5, 0, 0) (zq_sv zq_shM z) 0 0 2 [(0, .ref (zq_ad G 69)), (1, .int v1)] [] zq_shM z X2 (b_X11_goOnCheap_2 N rc2_1 v1 X2) := by
    intro rc2_1 hrc2_1 v1 X2
    unfold b_X11_goOnCheap_2
    refine zr_iload_n (pc := 2) (zq_d eX11_goOnCheap 2 rfl) 1 rfl rfl ?_
    refine zr_aload_n (pc := 3) (zq_d eX11_goOnCheap 3 rfl) 0 rfl rfl ?_
    refine zr_Vi (pc := 4) [] (zq_d eX11_goOnCheap 4 rfl) (s_X11_places G N z X2 ) zd_X11_places zl_RX11_340 om_69 rfl rfl rfl rfl (Nat.le_of_ble_eq_true rfl) (Nat.le_of_ble_eq_true rfl) (Nat.le_of_ble_eq_true rfl) ⟨Nat.le_refl _, Nat.le_refl _⟩ (fun v3 => ?_)
    refine zr_icmp_ge (pc := 7) 23 (zq_d eX11_goOnCheap 5 rfl) (by decide) (fun _ => ?_) (fun _ => ?_)
    · unfold k_X11_goOnCheap_23_8
      refine zr_iconst (pc := 23) (zq_d eX11_goOnCheap 13 rfl) zc_i0 ?_
      refine zr_istore_n (pc := 24) (lo2 := [(1, .int (0 : Int32)), (0, .ref (zq_ad G 69))]) (zq_d eX11_goOnCheap 14 rfl) rfl (Nat.le_of_ble_eq_true rfl) rfl ?_
      have hbrc25_2 : ∀ rc25_2 : Int32 → zq_M → Option zq_M, (∀ (v4 : Int32) (X5 : zq_M), zq_V G YX11_goOnCheap (5, 0, 0) (zq_sv zq_shM z) 0 0 25 [(0, .ref (zq_ad G 69)), (1, .int v4)] [] zq_shM z X5 (rc25_2 v4 X5)) → ∀ (v4 : Int32) (X5 : zq_M), zq_V G YX11_goOnCheap (5, 0, 0) (zq_sv zq_shM z) 0 0 25 [(0, .ref (zq_ad G 69)), (1, .int v4)] [] zq_shM z X5 (b_X11_goOnCheap_25 N rc25_2 v4 X5) := by
        intro rc25_2 hrc25_2 v4 X5
        unfold b_X11_goOnCheap_25
        refine zr_iload_n (pc := 25) (zq_d eX11_goOnCheap 15 rfl) 1 rfl rfl ?_
        refine zr_aload_n (pc := 26) (zq_d eX11_goOnCheap 16 rfl) 0 rfl rfl ?_
        refine zr_Vi (pc := 27) [] (zq_d eX11_goOnCheap 17 rfl) (s_X11_places G N z X5 ) zd_X11_places zl_RX11_340 om_69 rfl rfl rfl rfl (Nat.le_of_ble_eq_true rfl) (Nat.le_of_ble_eq_true rfl) (Nat.le_of_ble_eq_true rfl) ⟨Nat.le_refl _, Nat.le_refl _⟩ (fun v6 => ?_)
        refine zr_icmp_ge (pc := 30) 161 (zq_d eX11_goOnCheap 18 rfl) (by decide) (fun _ => ?_) (fun _ => ?_)
        · unfold k_X11_goOnCheap_161_4
          refine zr_iconst (pc := 161) (zq_d eX11_goOnCheap 89 rfl) zc_i0 ?_
          refine zr_istore_n (pc := 162) (lo2 := [(1, .int (0 : Int32)), (0, .ref (zq_ad G 69))]) (zq_d eX11_goOnCheap 90 rfl) rfl (Nat.le_of_ble_eq_true rfl) rfl ?_
          have hbrc163_3 : ∀ rc163_3 : Int32 → zq_M → Option zq_M, (∀ (v7 : Int32) (X8 : zq_M), zq_V G YX11_goOnCheap (5, 0, 0) (zq_sv zq_shM z) 0 0 163 [(0, .ref (zq_ad G 69)), (1, .int v7)] [] zq_shM z X8 (rc163_3 v7 X8)) → ∀ (v7 : Int32) (X8 : zq_M), zq_V G YX11_goOnCheap (5, 0, 0) (zq_sv zq_shM z) 0 0 163 [(0, .ref (zq_ad G 69)), (1, .int v7)] [] zq_shM z X8 (b_X11_goOnCheap_163 N rc163_3 v7 X8) := by
            intro rc163_3 hrc163_3 v7 X8
            unfold b_X11_goOnCheap_163
            refine zr_iload_n (pc := 163) (zq_d eX11_goOnCheap 91 rfl) 1 rfl rfl ?_
            refine zr_aload_n (pc := 164) (zq_d eX11_goOnCheap 92 rfl) 0 rfl rfl ?_
            refine zr_Vi (pc := 165) [] (zq_d eX11_goOnCheap 93 rfl) (s_X11_places G N z X8 ) zd_X11_places zl_RX11_340 om_69 rfl rfl rfl rfl (Nat.le_of_ble_eq_true rfl) (Nat.le_of_ble_eq_true rfl) (Nat.le_of_ble_eq_true rfl) ⟨Nat.le_refl _, Nat.le_refl _⟩ (fun v9 => ?_)
            refine zr_icmp_ge (pc := 168) 189 (zq_d eX11_goOnCheap 94 rfl) (by decide) (fun _ => ?_) (fun _ => ?_)
            · exact zr_vreturn (pc := 189) (zq_d eX11_goOnCheap 105 rfl) rfl rfl (Nat.zero_le _) (Nat.zero_le _)
            · refine zr_aload_n (pc := 171) (zq_d eX11_goOnCheap 95 rfl) 0 rfl rfl ?_
              refine zr_getC (pc := 172) (zq_d eX11_goOnCheap 96 rfl) zf_RX11_108 km_69_32 ?_
              refine zr_iload_n (pc := 175) (zq_d eX11_goOnCheap 97 rfl) 1 rfl rfl ?_
              refine zr_aload_n (pc := 176) (zq_d eX11_goOnCheap 98 rfl) 0 rfl rfl ?_
              refine zr_getC (pc := 177) (zq_d eX11_goOnCheap 99 rfl) zf_RX11_111 km_69_33 ?_
              refine zr_iload_n (pc := 180) (zq_d eX11_goOnCheap 100 rfl) 1 rfl rfl ?_
              refine zr_iald (pc := 181) (zq_d eX11_goOnCheap 101 rfl) am_90 ?_
              refine zr_iast (pc := 182) (zq_d eX11_goOnCheap 102 rfl) am_89 (fun X10 => ?_)
              refine zr_iinc (pc := 183) (j := 1) (v := (v7 + (1 : Int32))) (lo2 := [(1, .int (v7 + (1 : Int32))), (0, .ref (zq_ad G 69))]) (zq_d eX11_goOnCheap 103 rfl) rfl (by rw [zc_i1]) (Nat.le_of_ble_eq_true rfl) rfl ?_
              refine zr_goto (pc := 186) 163 (zq_d eX11_goOnCheap 104 rfl) (by decide) ?_
              exact zr_lo [1, 0] rfl (hrc163_3 (v7 + (1 : Int32)) X10)
          have hlrc163_3 := zr_loop (P := fun (rc163_3 : Int32 → zq_M → Option zq_M) => ∀ (v7 : Int32) (X8 : zq_M), zq_V G YX11_goOnCheap (5, 0, 0) (zq_sv zq_shM z) 0 0 163 [(0, .ref (zq_ad G 69)), (1, .int v7)] [] zq_shM z X8 (rc163_3 v7 X8)) (fun _ _ => none) (b_X11_goOnCheap_163 N) (fun _ _ => zr_none) hbrc163_3 N
          exact zr_lo [1, 0] rfl (hlrc163_3 (0 : Int32) X5)
        · refine zr_iconst (pc := 33) (zq_d eX11_goOnCheap 19 rfl) zc_i0 ?_
          refine zr_istore_n (pc := 34) (lo2 := [(2, .int (0 : Int32)), (0, .ref (zq_ad G 69)), (1, .int v4)]) (zq_d eX11_goOnCheap 20 rfl) rfl (Nat.le_of_ble_eq_true rfl) rfl ?_
          have hbrc35_5 : ∀ rc35_5 : Int32 → zq_M → Option zq_M, (∀ (v11 : Int32) (X12 : zq_M), zq_V G YX11_goOnCheap (5, 0, 0) (zq_sv zq_shM z) 0 0 35 [(0, .ref (zq_ad G 69)), (1, .int v4), (2, .int v11)] [] zq_shM z X12 (rc35_5 v11 X12)) → ∀ (v11 : Int32) (X12 : zq_M), zq_V G YX11_goOnCheap (5, 0, 0) (zq_sv zq_shM z) 0 0 35 [(0, .ref (zq_ad G 69)), (1, .int v4), (2, .int v11)] [] zq_shM z X12 (b_X11_goOnCheap_35 N v4 rc25_2 rc35_5 v11 X12) := by
            intro rc35_5 hrc35_5 v11 X12
            unfold b_X11_goOnCheap_35
            refine zr_iload_n (pc := 35) (zq_d eX11_goOnCheap 21 rfl) 2 rfl rfl ?_
            refine zr_aload_n (pc := 36) (zq_d eX11_goOnCheap 22 rfl) 0 rfl rfl ?_
            refine zr_getI (pc := 37) (zq_d eX11_goOnCheap 23 rfl) zf_RX11_7 km_69_0 ?_
            refine zr_icmp_ge (pc := 40) 155 (zq_d eX11_goOnCheap 24 rfl) (by decide) (fun _ => ?_) (fun _ => ?_)
            · refine zr_iinc (pc := 155) (j := 1) (v := (v4 + (1 : Int32))) (lo2 := [(1, .int (v4 + (1 : Int32))), (0, .ref (zq_ad G 69)), (2, .int v11)]) (zq_d eX11_goOnCheap 87 rfl) rfl (by rw [zc_i1]) (Nat.le_of_ble_eq_true rfl) rfl ?_
              refine zr_goto (pc := 158) 25 (zq_d eX11_goOnCheap 88 rfl) (by decide) ?_
              exact zr_lo [1, 0] rfl (hrc25_2 (v4 + (1 : Int32)) X12)
            · refine zr_aload_n (pc := 43) (zq_d eX11_goOnCheap 25 rfl) 0 rfl rfl ?_
              refine zr_getC (pc := 44) (zq_d eX11_goOnCheap 26 rfl) zf_RX11_108 km_69_32 ?_
              refine zr_iload_n (pc := 47) (zq_d eX11_goOnCheap 27 rfl) 1 rfl rfl ?_
              refine zr_iald (pc := 48) (zq_d eX11_goOnCheap 28 rfl) am_89 ?_
              refine zr_if_lt (pc := 49) 155 (zq_d eX11_goOnCheap 29 rfl) (by decide) (fun _ => ?_) (fun _ => ?_)
              · refine zr_iinc (pc := 155) (j := 1) (v := (v4 + (1 : Int32))) (lo2 := [(1, .int (v4 + (1 : Int32))), (0, .ref (zq_ad G 69)), (2, .int v11)]) (zq_d eX11_goOnCheap 87 rfl) rfl (by rw [zc_i1]) (Nat.le_of_ble_eq_true rfl) rfl ?_
                refine zr_goto (pc := 158) 25 (zq_d eX11_goOnCheap 88 rfl) (by decide) ?_
                exact zr_lo [1, 0] rfl (hrc25_2 (v4 + (1 : Int32)) X12)
              · refine zr_iconst (pc := 52) (zq_d eX11_goOnCheap 30 rfl) zc_i0 ?_
                refine zr_istore_n (pc := 53) (lo2 := [(3, .int (0 : Int32)), (0, .ref (zq_ad G 69)), (1, .int v4), (2, .int v11)]) (zq_d eX11_goOnCheap 31 rfl) rfl (Nat.le_of_ble_eq_true rfl) rfl ?_
                have hbrc54_6 : ∀ rc54_6 : Int32 → zq_M → Option zq_M, (∀ (v13 : Int32) (X14 : zq_M), zq_V G YX11_goOnCheap (5, 0, 0) (zq_sv zq_shM z) 0 0 54 [(0, .ref (zq_ad G 69)), (1, .int v4), (2, .int v11), (3, .int v13)] [] zq_shM z X14 (rc54_6 v13 X14)) → ∀ (v13 : Int32) (X14 : zq_M), zq_V G YX11_goOnCheap (5, 0, 0) (zq_sv zq_shM z) 0 0 54 [(0, .ref (zq_ad G 69)), (1, .int v4), (2, .int v11), (3, .int v13)] [] zq_shM z X14 (b_X11_goOnCheap_54 N v4 v11 rc35_5 rc54_6 v13 X14) := by
                  intro rc54_6 hrc54_6 v13 X14
                  unfold b_X11_goOnCheap_54
                  refine zr_iload_n (pc := 54) (zq_d eX11_goOnCheap 32 rfl) 3 rfl rfl ?_
                  refine zr_iconst (pc := 55) (zq_d eX11_goOnCheap 33 rfl) zc_i4 ?_
                  refine zr_icmp_ge (pc := 56) 149 (zq_d eX11_goOnCheap 34 rfl) (by decide) (fun _ => ?_) (fun _ => ?_)
                  · refine zr_iinc (pc := 149) (j := 2) (v := (v11 + (1 : Int32))) (lo2 := [(2, .int (v11 + (1 : Int32))), (0, .ref (zq_ad G 69)), (1, .int v4), (3, .int v13)]) (zq_d eX11_goOnCheap 85 rfl) rfl (by rw [zc_i1]) (Nat.le_of_ble_eq_true rfl) rfl ?_
                    refine zr_goto (pc := 152) 35 (zq_d eX11_goOnCheap 86 rfl) (by decide) ?_
                    exact zr_lo [1, 2, 0] rfl (hrc35_5 (v11 + (1 : Int32)) X14)
                  · refine zr_aload_n (pc := 59) (zq_d eX11_goOnCheap 35 rfl) 0 rfl rfl ?_
                    refine zr_iload_n (pc := 60) (zq_d eX11_goOnCheap 36 rfl) 1 rfl rfl ?_
                    refine zr_iload_n (pc := 61) (zq_d eX11_goOnCheap 37 rfl) 2 rfl rfl ?_
                    refine zr_iload_n (pc := 62) (zq_d eX11_goOnCheap 38 rfl) 3 rfl rfl ?_
                    refine zr_Vi (pc := 63) [_, _, _] (zq_d eX11_goOnCheap 39 rfl) (s_X11_mayCome G N z X14 _ _ _) zd_X11_mayCome zl_RX11_343 om_69 rfl rfl rfl rfl (Nat.le_of_ble_eq_true rfl) (Nat.le_of_ble_eq_true rfl) (Nat.le_of_ble_eq_true rfl) ⟨Nat.le_refl _, Nat.le_refl _⟩ (fun v15 => ?_)
                    refine zr_if_ne (pc := 66) 72 (zq_d eX11_goOnCheap 40 rfl) (by decide) (fun _ => ?_) (fun _ => ?_)
                    · refine zr_aload_n (pc := 72) (zq_d eX11_goOnCheap 42 rfl) 0 rfl rfl ?_
                      refine zr_iload_n (pc := 73) (zq_d eX11_goOnCheap 43 rfl) 1 rfl rfl ?_
                      refine zr_iload_n (pc := 74) (zq_d eX11_goOnCheap 44 rfl) 2 rfl rfl ?_
                      refine zr_iload_n (pc := 75) (zq_d eX11_goOnCheap 45 rfl) 3 rfl rfl ?_
                      refine zr_Vi (pc := 76) [_, _, _] (zq_d eX11_goOnCheap 46 rfl) (s_X11_moved G N z X14 _ _ _) zd_X11_moved zl_RX11_229 om_69 rfl rfl rfl rfl (Nat.le_of_ble_eq_true rfl) (Nat.le_of_ble_eq_true rfl) (Nat.le_of_ble_eq_true rfl) ⟨Nat.le_refl _, Nat.le_refl _⟩ (fun v16 => ?_)
                      refine zr_istore (pc := 79) (lo2 := [(4, .int v16), (0, .ref (zq_ad G 69)), (1, .int v4), (2, .int v11), (3, .int v13)]) (zq_d eX11_goOnCheap 47 rfl) (Nat.le_of_ble_eq_true rfl) rfl ?_
                      refine zr_aload_n (pc := 81) (zq_d eX11_goOnCheap 48 rfl) 1 rfl rfl ?_
                      refine zr_getC (pc := 82) (zq_d eX11_goOnCheap 49 rfl) zf_RX11_108 km_69_32 ?_
                      refine zr_iload_n (pc := 85) (zq_d eX11_goOnCheap 50 rfl) 2 rfl rfl ?_
                      refine zr_iald (pc := 86) (zq_d eX11_goOnCheap 51 rfl) am_89 ?_
                      refine zr_aload_n (pc := 87) (zq_d eX11_goOnCheap 52 rfl) 1 rfl rfl ?_
                      refine zr_getC (pc := 88) (zq_d eX11_goOnCheap 53 rfl) zf_RX11_96 km_69_28 ?_
                      refine zr_aload_n (pc := 91) (zq_d eX11_goOnCheap 54 rfl) 1 rfl rfl ?_
                      refine zr_iload_n (pc := 92) (zq_d eX11_goOnCheap 55 rfl) 2 rfl rfl ?_
                      refine zr_iload_n (pc := 93) (zq_d eX11_goOnCheap 56 rfl) 3 rfl rfl ?_
                      refine zr_iload_n (pc := 94) (zq_d eX11_goOnCheap 57 rfl) 4 rfl rfl ?_
                      refine zr_Vi (pc := 95) [_, _, _] (zq_d eX11_goOnCheap 58 rfl) (s_X11_comingOf G N z X14 _ _ _) zd_X11_comingOf zl_RX11_328 om_69 rfl rfl rfl rfl (Nat.le_of_ble_eq_true rfl) (Nat.le_of_ble_eq_true rfl) (Nat.le_of_ble_eq_true rfl) ⟨Nat.le_refl _, Nat.le_refl _⟩ (fun v17 => ?_)
                      refine zr_iald (pc := 98) (zq_d eX11_goOnCheap 59 rfl) am_85 ?_
                      refine zr_iadd (pc := 99) (zq_d eX11_goOnCheap 60 rfl) ?_
                      refine zr_nm (fun v18 => ?_)
                      refine zr_istore (pc := 100) (lo2 := [(5, .int v18), (4, .int v16), (0, .ref (zq_ad G 69)), (1, .int v4), (2, .int v11), (3, .int v13)]) (zq_d eX11_goOnCheap 61 rfl) (Nat.le_of_ble_eq_true rfl) rfl ?_
                      refine zr_aload_n (pc := 102) (zq_d eX11_goOnCheap 62 rfl) 2 rfl rfl ?_
                      refine zr_getC (pc := 103) (zq_d eX11_goOnCheap 63 rfl) zf_RX11_111 km_69_33 ?_
                      refine zr_iload (pc := 106) (zq_d eX11_goOnCheap 64 rfl) 1 rfl ?_
                      refine zr_aload_n (pc := 108) (zq_d eX11_goOnCheap 65 rfl) 2 rfl rfl ?_
                      refine zr_getC (pc := 109) (zq_d eX11_goOnCheap 66 rfl) zf_RX11_111 km_69_33 ?_
                      refine zr_iload (pc := 112) (zq_d eX11_goOnCheap 67 rfl) 1 rfl ?_
                      refine zr_iald (pc := 114) (zq_d eX11_goOnCheap 68 rfl) am_90 ?_
                      have hj142_7 : ∀ (v19 : Int32), zq_V G YX11_goOnCheap (5, 0, 0) (zq_sv zq_shM z) 0 0 142 [(0, .ref (zq_ad G 69)), (1, .int v4), (2, .int v11), (3, .int v13)] [.int v19, .int v16, .ref (zq_ad G 90)] zq_shM z X14 (j_X11_goOnCheap_142 v13 X14 rc54_6 v16 v19) := by
                        intro v19
                        unfold j_X11_goOnCheap_142
                        refine zr_iast (pc := 142) (zq_d eX11_goOnCheap 82 rfl) am_90 (fun X20 => ?_)
                        refine zr_iinc (pc := 143) (j := 3) (v := (v13 + (1 : Int32))) (lo2 := [(3, .int (v13 + (1 : Int32))), (0, .ref (zq_ad G 69)), (1, .int v4), (2, .int v11)]) (zq_d eX11_goOnCheap 83 rfl) rfl (by rw [zc_i1]) (Nat.le_of_ble_eq_true rfl) rfl ?_
                        refine zr_goto (pc := 146) 54 (zq_d eX11_goOnCheap 84 rfl) (by decide) ?_
                        exact zr_lo [1, 2, 3, 0] rfl (hrc54_6 (v13 + (1 : Int32)) X20)
                      refine zr_if_lt (pc := 115) 130 (zq_d eX11_goOnCheap 69 rfl) (by decide) (fun _ => ?_) (fun _ => ?_)
                      · refine zr_iload (pc := 130) (zq_d eX11_goOnCheap 76 rfl) 0 rfl ?_
                        refine zr_goto (pc := 132) 142 (zq_d eX11_goOnCheap 77 rfl) (by decide) ?_
                        exact zr_lo [2, 3, 4, 5] rfl (hj142_7 v18)
                      · refine zr_iload (pc := 118) (zq_d eX11_goOnCheap 70 rfl) 0 rfl ?_
                        refine zr_aload_n (pc := 120) (zq_d eX11_goOnCheap 71 rfl) 2 rfl rfl ?_
                        refine zr_getC (pc := 121) (zq_d eX11_goOnCheap 72 rfl) zf_RX11_111 km_69_33 ?_
                        refine zr_iload (pc := 124) (zq_d eX11_goOnCheap 73 rfl) 1 rfl ?_
                        refine zr_iald (pc := 126) (zq_d eX11_goOnCheap 74 rfl) am_90 ?_
                        refine zr_icmp_ge (pc := 127) 135 (zq_d eX11_goOnCheap 75 rfl) (by decide) (fun _ => ?_) (fun _ => ?_)
                        · refine zr_aload_n (pc := 135) (zq_d eX11_goOnCheap 78 rfl) 2 rfl rfl ?_
                          refine zr_getC (pc := 136) (zq_d eX11_goOnCheap 79 rfl) zf_RX11_111 km_69_33 ?_
                          refine zr_iload (pc := 139) (zq_d eX11_goOnCheap 80 rfl) 1 rfl ?_
                          refine zr_iald (pc := 141) (zq_d eX11_goOnCheap 81 rfl) am_90 ?_
                          exact zr_lo [2, 3, 4, 5] rfl (hj142_7 (X14.1 90 (zq_ix v16)))
                        · refine zr_iload (pc := 130) (zq_d eX11_goOnCheap 76 rfl) 0 rfl ?_
                          refine zr_goto (pc := 132) 142 (zq_d eX11_goOnCheap 77 rfl) (by decide) ?_
                          exact zr_lo [2, 3, 4, 5] rfl (hj142_7 v18)
                    · refine zr_goto (pc := 69) 143 (zq_d eX11_goOnCheap 41 rfl) (by decide) ?_
                      refine zr_iinc (pc := 143) (j := 3) (v := (v13 + (1 : Int32))) (lo2 := [(3, .int (v13 + (1 : Int32))), (0, .ref (zq_ad G 69)), (1, .int v4), (2, .int v11)]) (zq_d eX11_goOnCheap 83 rfl) rfl (by rw [zc_i1]) (Nat.le_of_ble_eq_true rfl) rfl ?_
                      refine zr_goto (pc := 146) 54 (zq_d eX11_goOnCheap 84 rfl) (by decide) ?_
                      exact zr_lo [1, 2, 3, 0] rfl (hrc54_6 (v13 + (1 : Int32)) X14)
                have hlrc54_6 := zr_loop (P := fun (rc54_6 : Int32 → zq_M → Option zq_M) => ∀ (v13 : Int32) (X14 : zq_M), zq_V G YX11_goOnCheap (5, 0, 0) (zq_sv zq_shM z) 0 0 54 [(0, .ref (zq_ad G 69)), (1, .int v4), (2, .int v11), (3, .int v13)] [] zq_shM z X14 (rc54_6 v13 X14)) (fun _ _ => none) (b_X11_goOnCheap_54 N v4 v11 rc35_5) (fun _ _ => zr_none) hbrc54_6 N
                exact zr_lo [1, 2, 3, 0] rfl (hlrc54_6 (0 : Int32) X12)
          have hlrc35_5 := zr_loop (P := fun (rc35_5 : Int32 → zq_M → Option zq_M) => ∀ (v11 : Int32) (X12 : zq_M), zq_V G YX11_goOnCheap (5, 0, 0) (zq_sv zq_shM z) 0 0 35 [(0, .ref (zq_ad G 69)), (1, .int v4), (2, .int v11)] [] zq_shM z X12 (rc35_5 v11 X12)) (fun _ _ => none) (b_X11_goOnCheap_35 N v4 rc25_2) (fun _ _ => zr_none) hbrc35_5 N
          exact zr_lo [1, 2, 0] rfl (hlrc35_5 (0 : Int32) X5)
      have hlrc25_2 := zr_loop (P := fun (rc25_2 : Int32 → zq_M → Option zq_M) => ∀ (v4 : Int32) (X5 : zq_M), zq_V G YX11_goOnCheap (5, 0, 0) (zq_sv zq_shM z) 0 0 25 [(0, .ref (zq_ad G 69)), (1, .int v4)] [] zq_shM z X5 (rc25_2 v4 X5)) (fun _ _ => none) (b_X11_goOnCheap_25 N) (fun _ _ => zr_none) hbrc25_2 N
      exact zr_lo [1, 0] rfl (hlrc25_2 (0 : Int32) X2)
    · refine zr_aload_n (pc := 10) (zq_d eX11_goOnCheap 6 rfl) 0 rfl rfl ?_
      refine zr_getC (pc := 11) (zq_d eX11_goOnCheap 7 rfl) zf_RX11_111 km_69_33 ?_
      refine zr_iload_n (pc := 14) (zq_d eX11_goOnCheap 8 rfl) 1 rfl rfl ?_
      refine zr_iconst (pc := 15) (zq_d eX11_goOnCheap 9 rfl) zc_im1 ?_
      refine zr_iast (pc := 16) (zq_d eX11_goOnCheap 10 rfl) am_90 (fun X21 => ?_)
      refine zr_iinc (pc := 17) (j := 1) (v := (v1 + (1 : Int32))) (lo2 := [(1, .int (v1 + (1 : Int32))), (0, .ref (zq_ad G 69))]) (zq_d eX11_goOnCheap 11 rfl) rfl (by rw [zc_i1]) (Nat.le_of_ble_eq_true rfl) rfl ?_
      refine zr_goto (pc := 20) 2 (zq_d eX11_goOnCheap 12 rfl) (by decide) ?_
      exact zr_lo [1, 0] rfl (hrc2_1 (v1 + (1 : Int32)) X21)
  have hlrc2_1 := zr_loop (P := fun (rc2_1 : Int32 → zq_M → Option zq_M) => ∀ (v1 : Int32) (X2 : zq_M), zq_V G YX11_goOnCheap (5, 0, 0) (zq_sv zq_shM z) 0 0 2 [(0, .ref (zq_ad G 69)), (1, .int v1)] [] zq_shM z X2 (rc2_1 v1 X2)) (fun _ _ => none) (b_X11_goOnCheap_2 N) (fun _ _ => zr_none) hbrc2_1 N
  exact zr_lo [1, 0] rfl (hlrc2_1 (0 : Int32) X)
def j_X11_cheapest_146 (N : Nat) (a1 : Int32) (v9 : Int32) (X11 : zq_M) (v12 : Int32) (v13 : Int32) (rc99_3 : Int32 → Int32 → Option (Int32 × zq_M))  : Option (Int32 × zq_M) :=
  (f_X11_maySpeak N X11 v13 a1 ((X11.1 69 2) + v9)).bind (fun v16 => if ¬ v16 = 0 then (zq_ck v13 1024 (rc99_3 (X11.1 89 (zq_ix v13)) (v13 + (1 : Int32)))) else (rc99_3 v12 (v13 + (1 : Int32))))
def b_X11_cheapest_99 (N : Nat) (a1 : Int32) (a2 : Int32) (v9 : Int32) (rc81_2 : Int32 → Int32 → zq_M → Option (Int32 × zq_M)) (X11 : zq_M) (rc99_3 : Int32 → Int32 → Option (Int32 × zq_M)) (v12 : Int32) (v13 : Int32) : Option (Int32 × zq_M) :=
  (f_X11_places N X11).bind (fun v14 => if v14 ≤ v13 then (rc81_2 v12 (v9 + (1 : Int32)) X11) else (zq_ck v13 1024 (if (X11.1 89 (zq_ix v13)) < 0 then (rc99_3 v12 (v13 + (1 : Int32))) else ((f_X11_placeOf N X11 v13 a1).bind (fun v15 => if ¬ v15 = a2 then (rc99_3 v12 (v13 + (1 : Int32))) else (if v12 < 0 then (j_X11_cheapest_146 N a1 v9 X11 v12 v13 rc99_3) else (zq_ck v13 1024 (if v12 ≤ (X11.1 89 (zq_ix v13)) then (rc99_3 v12 (v13 + (1 : Int32))) else (j_X11_cheapest_146 N a1 v9 X11 v12 v13 rc99_3)))))))))
def j_X11_cheapest_96 (N : Nat) (a1 : Int32) (a2 : Int32) (v8 : Int32) (v9 : Int32) (rc81_2 : Int32 → Int32 → zq_M → Option (Int32 × zq_M)) (X11 : zq_M) : Option (Int32 × zq_M) :=
  zq_loop (fun _ _ => none) (b_X11_cheapest_99 N a1 a2 v9 rc81_2 X11) N v8 (0 : Int32)
def b_X11_cheapest_81 (N : Nat) (a1 : Int32) (a2 : Int32) (a3 : Int32) (rc81_2 : Int32 → Int32 → zq_M → Option (Int32 × zq_M)) (v8 : Int32) (v9 : Int32) (X10 : zq_M) : Option (Int32 × zq_M) :=
  if a3 < v9 then (some (v8, X10)) else (if v9 ≤ 0 then (j_X11_cheapest_96 N a1 a2 v8 v9 rc81_2 X10) else ((f_X11_goOnCheap N X10).bind (fun X17 => j_X11_cheapest_96 N a1 a2 v8 v9 rc81_2 X17)))
def k_X11_cheapest_74_6 (N : Nat) (a1 : Int32) (a2 : Int32) (a3 : Int32) (X6 : zq_M)  : Option (Int32 × zq_M) :=
  zq_loop (fun _ _ _ => none) (b_X11_cheapest_81 N a1 a2 a3) N (-5 : Int32) (0 : Int32) X6
def j_X11_cheapest_67 (v5 : Int32) (X6 : zq_M) (rc38_1 : Int32 → zq_M → Option (Int32 × zq_M)) (v18 : Int32) : Option (Int32 × zq_M) :=
  zq_ck v5 1024 (zq_b (zq_u1 X6 89 (zq_ix v5) v18) (fun X19 => rc38_1 (v5 + (1 : Int32)) X19))
def b_X11_cheapest_38 (N : Nat) (a1 : Int32) (a2 : Int32) (a3 : Int32) (rc38_1 : Int32 → zq_M → Option (Int32 × zq_M)) (v5 : Int32) (X6 : zq_M) : Option (Int32 × zq_M) :=
  (f_X11_places N X6).bind (fun v7 => if v7 ≤ v5 then (k_X11_cheapest_74_6 N a1 a2 a3 X6) else (if ¬ v5 = (X6.1 69 1) then (j_X11_cheapest_67 v5 X6 rc38_1 (-1 : Int32)) else (j_X11_cheapest_67 v5 X6 rc38_1 (0 : Int32))))
def f_X11_cheapest (N : Nat) (X : zq_M) (a1 : Int32) (a2 : Int32) (a3 : Int32) : Option (Int32 × zq_M) :=
  (f_X11_isPerson N X a1).bind (fun v1 => if v1 = 0 then (some ((-1 : Int32), X)) else ((f_X11_isRoom N X a2).bind (fun v2 => if ¬ v2 = 0 then ((f_X11_within N X a3 (0 : Int32) (4 : Int32)).bind (fun v3 => if ¬ v3 = 0 then ((f_X11_layComings N X).bind (fun X4 => zq_loop (fun _ _ => none) (b_X11_cheapest_38 N a1 a2 a3) N (0 : Int32) X4)) else (some ((-2 : Int32), X)))) else (some ((-1 : Int32), X)))))
set_option maxRecDepth 20000 in
set_option maxHeartbeats 8000000 in
theorem s_X11_cheapest (G : zq_G) (N z : Nat) (X : zq_M) (a1 : Int32) (a2 : Int32) (a3 : Int32) : zq_V G YX11_cheapest (6, 0, 0) (zq_si zq_shM z) 0 0 0 (lv_args 0 [.ref (zq_ad G 69), .int a1, .int a2, .int a3]) [] zq_shM z X (f_X11_cheapest N X a1 a2 a3) := by
  unfold f_X11_cheapest
  refine zr_lo (l2 := [(0, .ref (zq_ad G 69)), (1, .int a1), (2, .int a2), (3, .int a3)]) [0, 1, 2, 3] rfl ?_
  refine zr_aload_n (pc := 0) (zq_d eX11_cheapest 0 rfl) 0 rfl rfl ?_
  refine zr_iload_n (pc := 1) (zq_d eX11_cheapest 1 rfl) 1 rfl rfl ?_
  refine zr_Vi (pc := 2) [_] (zq_d eX11_cheapest 2 rfl) (s_X11_isPerson G N z X _) zd_X11_isPerson zl_RX11_249 om_69 rfl rfl rfl rfl (Nat.le_of_ble_eq_true rfl) (Nat.le_of_ble_eq_true rfl) (Nat.le_of_ble_eq_true rfl) ⟨Nat.le_refl _, Nat.le_refl _⟩ (fun v1 => ?_)
  refine zr_if_eq (pc := 5) 16 (zq_d eX11_cheapest 3 rfl) (by decide) (fun _ => ?_) (fun _ => ?_)
  · refine zr_iconst (pc := 16) (zq_d eX11_cheapest 8 rfl) zc_im1 ?_
    exact zr_ireturn (pc := 17) (zq_d eX11_cheapest 9 rfl) rfl rfl (Nat.zero_le _) (Nat.zero_le _)
  · refine zr_aload_n (pc := 8) (zq_d eX11_cheapest 4 rfl) 0 rfl rfl ?_
    refine zr_iload_n (pc := 9) (zq_d eX11_cheapest 5 rfl) 2 rfl rfl ?_
    refine zr_Vi (pc := 10) [_] (zq_d eX11_cheapest 6 rfl) (s_X11_isRoom G N z X _) zd_X11_isRoom zl_RX11_259 om_69 rfl rfl rfl rfl (Nat.le_of_ble_eq_true rfl) (Nat.le_of_ble_eq_true rfl) (Nat.le_of_ble_eq_true rfl) ⟨Nat.le_refl _, Nat.le_refl _⟩ (fun v2 => ?_)
    refine zr_if_ne (pc := 13) 18 (zq_d eX11_cheapest 7 rfl) (by decide) (fun _ => ?_) (fun _ => ?_)
    · refine zr_aload_n (pc := 18) (zq_d eX11_cheapest 10 rfl) 0 rfl rfl ?_
      refine zr_iload_n (pc := 19) (zq_d eX11_cheapest 11 rfl) 3 rfl rfl ?_
      refine zr_iconst (pc := 20) (zq_d eX11_cheapest 12 rfl) zc_i0 ?_
      refine zr_iconst (pc := 21) (zq_d eX11_cheapest 13 rfl) zc_i4 ?_
      refine zr_Vi (pc := 22) [_, _, _] (zq_d eX11_cheapest 14 rfl) (s_X11_within G N z X _ _ _) zd_X11_within zl_RX11_217 om_69 rfl rfl rfl rfl (Nat.le_of_ble_eq_true rfl) (Nat.le_of_ble_eq_true rfl) (Nat.le_of_ble_eq_true rfl) ⟨Nat.le_refl _, Nat.le_refl _⟩ (fun v3 => ?_)
      refine zr_if_ne (pc := 25) 31 (zq_d eX11_cheapest 15 rfl) (by decide) (fun _ => ?_) (fun _ => ?_)
      · refine zr_aload_n (pc := 31) (zq_d eX11_cheapest 18 rfl) 0 rfl rfl ?_
        refine zr_Vv (pc := 32) [] (zq_d eX11_cheapest 19 rfl) (s_X11_layComings G N z X ) zd_X11_layComings zl_RX11_355 om_69 rfl rfl rfl rfl (Nat.le_of_ble_eq_true rfl) (Nat.le_of_ble_eq_true rfl) (Nat.le_of_ble_eq_true rfl) ⟨Nat.le_refl _, Nat.le_refl _⟩ (fun X4 => ?_)
        refine zr_iconst (pc := 35) (zq_d eX11_cheapest 20 rfl) zc_i0 ?_
        refine zr_istore (pc := 36) (lo2 := [(4, .int (0 : Int32)), (0, .ref (zq_ad G 69)), (1, .int a1), (2, .int a2), (3, .int a3)]) (zq_d eX11_cheapest 21 rfl) (Nat.le_of_ble_eq_true rfl) rfl ?_
        have hbrc38_1 : ∀ rc38_1 : Int32 → zq_M → Option (Int32 × zq_M), (∀ (v5 : Int32) (X6 : zq_M), zq_V G YX11_cheapest (6, 0, 0) (zq_si zq_shM z) 0 0 38 [(0, .ref (zq_ad G 69)), (1, .int a1), (2, .int a2), (3, .int a3), (4, .int v5)] [] zq_shM z X6 (rc38_1 v5 X6)) → ∀ (v5 : Int32) (X6 : zq_M), zq_V G YX11_cheapest (6, 0, 0) (zq_si zq_shM z) 0 0 38 [(0, .ref (zq_ad G 69)), (1, .int a1), (2, .int a2), (3, .int a3), (4, .int v5)] [] zq_shM z X6 (b_X11_cheapest_38 N a1 a2 a3 rc38_1 v5 X6) := by
          intro rc38_1 hrc38_1 v5 X6
          unfold b_X11_cheapest_38
          refine zr_iload (pc := 38) (zq_d eX11_cheapest 22 rfl) 4 rfl ?_
          refine zr_aload_n (pc := 40) (zq_d eX11_cheapest 23 rfl) 0 rfl rfl ?_
          refine zr_Vi (pc := 41) [] (zq_d eX11_cheapest 24 rfl) (s_X11_places G N z X6 ) zd_X11_places zl_RX11_340 om_69 rfl rfl rfl rfl (Nat.le_of_ble_eq_true rfl) (Nat.le_of_ble_eq_true rfl) (Nat.le_of_ble_eq_true rfl) ⟨Nat.le_refl _, Nat.le_refl _⟩ (fun v7 => ?_)
          refine zr_icmp_ge (pc := 44) 74 (zq_d eX11_cheapest 25 rfl) (by decide) (fun _ => ?_) (fun _ => ?_)
          · unfold k_X11_cheapest_74_6
            refine zr_bipush (pc := 74) (zq_d eX11_cheapest 39 rfl) zc_bm5 ?_
            refine zr_istore (pc := 76) (lo2 := [(4, .int (-5 : Int32)), (0, .ref (zq_ad G 69)), (1, .int a1), (2, .int a2), (3, .int a3)]) (zq_d eX11_cheapest 40 rfl) (Nat.le_of_ble_eq_true rfl) rfl ?_
            refine zr_iconst (pc := 78) (zq_d eX11_cheapest 41 rfl) zc_i0 ?_
            refine zr_istore (pc := 79) (lo2 := [(5, .int (0 : Int32)), (4, .int (-5 : Int32)), (0, .ref (zq_ad G 69)), (1, .int a1), (2, .int a2), (3, .int a3)]) (zq_d eX11_cheapest 42 rfl) (Nat.le_of_ble_eq_true rfl) rfl ?_
            have hbrc81_2 : ∀ rc81_2 : Int32 → Int32 → zq_M → Option (Int32 × zq_M), (∀ (v8 : Int32) (v9 : Int32) (X10 : zq_M), zq_V G YX11_cheapest (6, 0, 0) (zq_si zq_shM z) 0 0 81 [(0, .ref (zq_ad G 69)), (1, .int a1), (2, .int a2), (3, .int a3), (4, .int v8), (5, .int v9)] [] zq_shM z X10 (rc81_2 v8 v9 X10)) → ∀ (v8 : Int32) (v9 : Int32) (X10 : zq_M), zq_V G YX11_cheapest (6, 0, 0) (zq_si zq_shM z) 0 0 81 [(0, .ref (zq_ad G 69)), (1, .int a1), (2, .int a2), (3, .int a3), (4, .int v8), (5, .int v9)] [] zq_shM z X10 (b_X11_cheapest_81 N a1 a2 a3 rc81_2 v8 v9 X10) := by
              intro rc81_2 hrc81_2 v8 v9 X10
              unfold b_X11_cheapest_81
              refine zr_iload (pc := 81) (zq_d eX11_cheapest 43 rfl) 5 rfl ?_
              refine zr_iload_n (pc := 83) (zq_d eX11_cheapest 44 rfl) 3 rfl rfl ?_
              refine zr_icmp_gt (pc := 84) 187 (zq_d eX11_cheapest 45 rfl) (by decide) (fun _ => ?_) (fun _ => ?_)
              · refine zr_iload (pc := 187) (zq_d eX11_cheapest 94 rfl) 4 rfl ?_
                exact zr_ireturn (pc := 189) (zq_d eX11_cheapest 95 rfl) rfl rfl (Nat.zero_le _) (Nat.zero_le _)
              · refine zr_iload (pc := 87) (zq_d eX11_cheapest 46 rfl) 5 rfl ?_
                have hj96_5 : ∀ (X11 : zq_M), zq_V G YX11_cheapest (6, 0, 0) (zq_si zq_shM z) 0 0 96 [(0, .ref (zq_ad G 69)), (1, .int a1), (2, .int a2), (3, .int a3), (4, .int v8), (5, .int v9)] [] zq_shM z X11 (j_X11_cheapest_96 N a1 a2 v8 v9 rc81_2 X11) := by
                  intro X11
                  unfold j_X11_cheapest_96
                  refine zr_iconst (pc := 96) (zq_d eX11_cheapest 50 rfl) zc_i0 ?_
                  refine zr_istore (pc := 97) (lo2 := [(6, .int (0 : Int32)), (0, .ref (zq_ad G 69)), (1, .int a1), (2, .int a2), (3, .int a3), (4, .int v8), (5, .int v9)]) (zq_d eX11_cheapest 51 rfl) (Nat.le_of_ble_eq_true rfl) rfl ?_
                  have hbrc99_3 : ∀ rc99_3 : Int32 → Int32 → Option (Int32 × zq_M), (∀ (v12 : Int32) (v13 : Int32), zq_V G YX11_cheapest (6, 0, 0) (zq_si zq_shM z) 0 0 99 [(0, .ref (zq_ad G 69)), (1, .int a1), (2, .int a2), (3, .int a3), (4, .int v12), (5, .int v9), (6, .int v13)] [] zq_shM z X11 (rc99_3 v12 v13)) → ∀ (v12 : Int32) (v13 : Int32), zq_V G YX11_cheapest (6, 0, 0) (zq_si zq_shM z) 0 0 99 [(0, .ref (zq_ad G 69)), (1, .int a1), (2, .int a2), (3, .int a3), (4, .int v12), (5, .int v9), (6, .int v13)] [] zq_shM z X11 (b_X11_cheapest_99 N a1 a2 v9 rc81_2 X11 rc99_3 v12 v13) := by
                    intro rc99_3 hrc99_3 v12 v13
                    unfold b_X11_cheapest_99
                    refine zr_iload (pc := 99) (zq_d eX11_cheapest 52 rfl) 6 rfl ?_
                    refine zr_aload_n (pc := 101) (zq_d eX11_cheapest 53 rfl) 0 rfl rfl ?_
                    refine zr_Vi (pc := 102) [] (zq_d eX11_cheapest 54 rfl) (s_X11_places G N z X11 ) zd_X11_places zl_RX11_340 om_69 rfl rfl rfl rfl (Nat.le_of_ble_eq_true rfl) (Nat.le_of_ble_eq_true rfl) (Nat.le_of_ble_eq_true rfl) ⟨Nat.le_refl _, Nat.le_refl _⟩ (fun v14 => ?_)
                    refine zr_icmp_ge (pc := 105) 181 (zq_d eX11_cheapest 55 rfl) (by decide) (fun _ => ?_) (fun _ => ?_)
                    · refine zr_iinc (pc := 181) (j := 5) (v := (v9 + (1 : Int32))) (lo2 := [(5, .int (v9 + (1 : Int32))), (0, .ref (zq_ad G 69)), (1, .int a1), (2, .int a2), (3, .int a3), (4, .int v12), (6, .int v13)]) (zq_d eX11_cheapest 92 rfl) rfl (by rw [zc_i1]) (Nat.le_of_ble_eq_true rfl) rfl ?_
                      refine zr_goto (pc := 184) 81 (zq_d eX11_cheapest 93 rfl) (by decide) ?_
                      exact zr_lo [1, 2, 3, 4, 5, 0] rfl (hrc81_2 v12 (v9 + (1 : Int32)) X11)
                    · refine zr_aload_n (pc := 108) (zq_d eX11_cheapest 56 rfl) 0 rfl rfl ?_
                      refine zr_getC (pc := 109) (zq_d eX11_cheapest 57 rfl) zf_RX11_108 km_69_32 ?_
                      refine zr_iload (pc := 112) (zq_d eX11_cheapest 58 rfl) 6 rfl ?_
                      refine zr_iald (pc := 114) (zq_d eX11_cheapest 59 rfl) am_89 ?_
                      refine zr_if_lt (pc := 115) 175 (zq_d eX11_cheapest 60 rfl) (by decide) (fun _ => ?_) (fun _ => ?_)
                      · refine zr_iinc (pc := 175) (j := 6) (v := (v13 + (1 : Int32))) (lo2 := [(6, .int (v13 + (1 : Int32))), (0, .ref (zq_ad G 69)), (1, .int a1), (2, .int a2), (3, .int a3), (4, .int v12), (5, .int v9)]) (zq_d eX11_cheapest 90 rfl) rfl (by rw [zc_i1]) (Nat.le_of_ble_eq_true rfl) rfl ?_
                        refine zr_goto (pc := 178) 99 (zq_d eX11_cheapest 91 rfl) (by decide) ?_
                        exact zr_lo [1, 2, 3, 4, 5, 6, 0] rfl (hrc99_3 v12 (v13 + (1 : Int32)))
                      · refine zr_aload_n (pc := 118) (zq_d eX11_cheapest 61 rfl) 0 rfl rfl ?_
                        refine zr_iload (pc := 119) (zq_d eX11_cheapest 62 rfl) 6 rfl ?_
                        refine zr_iload_n (pc := 121) (zq_d eX11_cheapest 63 rfl) 1 rfl rfl ?_
                        refine zr_Vi (pc := 122) [_, _] (zq_d eX11_cheapest 64 rfl) (s_X11_placeOf G N z X11 _ _) zd_X11_placeOf zl_RX11_221 om_69 rfl rfl rfl rfl (Nat.le_of_ble_eq_true rfl) (Nat.le_of_ble_eq_true rfl) (Nat.le_of_ble_eq_true rfl) ⟨Nat.le_refl _, Nat.le_refl _⟩ (fun v15 => ?_)
                        refine zr_iload_n (pc := 125) (zq_d eX11_cheapest 65 rfl) 2 rfl rfl ?_
                        refine zr_icmp_ne (pc := 126) 175 (zq_d eX11_cheapest 66 rfl) (by decide) (fun _ => ?_) (fun _ => ?_)
                        · refine zr_iinc (pc := 175) (j := 6) (v := (v13 + (1 : Int32))) (lo2 := [(6, .int (v13 + (1 : Int32))), (0, .ref (zq_ad G 69)), (1, .int a1), (2, .int a2), (3, .int a3), (4, .int v12), (5, .int v9)]) (zq_d eX11_cheapest 90 rfl) rfl (by rw [zc_i1]) (Nat.le_of_ble_eq_true rfl) rfl ?_
                          refine zr_goto (pc := 178) 99 (zq_d eX11_cheapest 91 rfl) (by decide) ?_
                          exact zr_lo [1, 2, 3, 4, 5, 6, 0] rfl (hrc99_3 v12 (v13 + (1 : Int32)))
                        · refine zr_iload (pc := 129) (zq_d eX11_cheapest 67 rfl) 4 rfl ?_
                          have hj146_4 : zq_V G YX11_cheapest (6, 0, 0) (zq_si zq_shM z) 0 0 146 [(0, .ref (zq_ad G 69)), (1, .int a1), (2, .int a2), (3, .int a3), (4, .int v12), (5, .int v9), (6, .int v13)] [] zq_shM z X11 (j_X11_cheapest_146 N a1 v9 X11 v12 v13 rc99_3) := by
                            unfold j_X11_cheapest_146
                            refine zr_aload_n (pc := 146) (zq_d eX11_cheapest 75 rfl) 0 rfl rfl ?_
                            refine zr_iload (pc := 147) (zq_d eX11_cheapest 76 rfl) 6 rfl ?_
                            refine zr_iload_n (pc := 149) (zq_d eX11_cheapest 77 rfl) 1 rfl rfl ?_
                            refine zr_aload_n (pc := 150) (zq_d eX11_cheapest 78 rfl) 0 rfl rfl ?_
                            refine zr_getI (pc := 151) (zq_d eX11_cheapest 79 rfl) zf_RX11_16 km_69_2 ?_
                            refine zr_iload (pc := 154) (zq_d eX11_cheapest 80 rfl) 5 rfl ?_
                            refine zr_iadd (pc := 156) (zq_d eX11_cheapest 81 rfl) ?_
                            refine zr_Vi (pc := 157) [_, _, _] (zq_d eX11_cheapest 82 rfl) (s_X11_maySpeak G N z X11 _ _ _) zd_X11_maySpeak zl_RX11_256 om_69 rfl rfl rfl rfl (Nat.le_of_ble_eq_true rfl) (Nat.le_of_ble_eq_true rfl) (Nat.le_of_ble_eq_true rfl) ⟨Nat.le_refl _, Nat.le_refl _⟩ (fun v16 => ?_)
                            refine zr_if_ne (pc := 160) 166 (zq_d eX11_cheapest 83 rfl) (by decide) (fun _ => ?_) (fun _ => ?_)
                            · refine zr_aload_n (pc := 166) (zq_d eX11_cheapest 85 rfl) 0 rfl rfl ?_
                              refine zr_getC (pc := 167) (zq_d eX11_cheapest 86 rfl) zf_RX11_108 km_69_32 ?_
                              refine zr_iload (pc := 170) (zq_d eX11_cheapest 87 rfl) 6 rfl ?_
                              refine zr_iald (pc := 172) (zq_d eX11_cheapest 88 rfl) am_89 ?_
                              refine zr_istore (pc := 173) (lo2 := [(4, .int (X11.1 89 (zq_ix v13))), (0, .ref (zq_ad G 69)), (1, .int a1), (2, .int a2), (3, .int a3), (5, .int v9), (6, .int v13)]) (zq_d eX11_cheapest 89 rfl) (Nat.le_of_ble_eq_true rfl) rfl ?_
                              refine zr_iinc (pc := 175) (j := 6) (v := (v13 + (1 : Int32))) (lo2 := [(6, .int (v13 + (1 : Int32))), (4, .int (X11.1 89 (zq_ix v13))), (0, .ref (zq_ad G 69)), (1, .int a1), (2, .int a2), (3, .int a3), (5, .int v9)]) (zq_d eX11_cheapest 90 rfl) rfl (by rw [zc_i1]) (Nat.le_of_ble_eq_true rfl) rfl ?_
                              refine zr_goto (pc := 178) 99 (zq_d eX11_cheapest 91 rfl) (by decide) ?_
                              exact zr_lo [2, 3, 4, 5, 1, 6, 0] rfl (hrc99_3 (X11.1 89 (zq_ix v13)) (v13 + (1 : Int32)))
                            · refine zr_goto (pc := 163) 175 (zq_d eX11_cheapest 84 rfl) (by decide) ?_
                              refine zr_iinc (pc := 175) (j := 6) (v := (v13 + (1 : Int32))) (lo2 := [(6, .int (v13 + (1 : Int32))), (0, .ref (zq_ad G 69)), (1, .int a1), (2, .int a2), (3, .int a3), (4, .int v12), (5, .int v9)]) (zq_d eX11_cheapest 90 rfl) rfl (by rw [zc_i1]) (Nat.le_of_ble_eq_true rfl) rfl ?_
                              refine zr_goto (pc := 178) 99 (zq_d eX11_cheapest 91 rfl) (by decide) ?_
                              exact zr_lo [1, 2, 3, 4, 5, 6, 0] rfl (hrc99_3 v12 (v13 + (1 : Int32)))
                          refine zr_if_lt (pc := 131) 146 (zq_d eX11_cheapest 68 rfl) (by decide) (fun _ => ?_) (fun _ => ?_)
                          · exact zr_lo [0, 1, 2, 3, 4, 5, 6] rfl (hj146_4)
                          · refine zr_aload_n (pc := 134) (zq_d eX11_cheapest 69 rfl) 0 rfl rfl ?_
                            refine zr_getC (pc := 135) (zq_d eX11_cheapest 70 rfl) zf_RX11_108 km_69_32 ?_
                            refine zr_iload (pc := 138) (zq_d eX11_cheapest 71 rfl) 6 rfl ?_
                            refine zr_iald (pc := 140) (zq_d eX11_cheapest 72 rfl) am_89 ?_
                            refine zr_iload (pc := 141) (zq_d eX11_cheapest 73 rfl) 4 rfl ?_
                            refine zr_icmp_ge (pc := 143) 175 (zq_d eX11_cheapest 74 rfl) (by decide) (fun _ => ?_) (fun _ => ?_)
                            · refine zr_iinc (pc := 175) (j := 6) (v := (v13 + (1 : Int32))) (lo2 := [(6, .int (v13 + (1 : Int32))), (0, .ref (zq_ad G 69)), (1, .int a1), (2, .int a2), (3, .int a3), (4, .int v12), (5, .int v9)]) (zq_d eX11_cheapest 90 rfl) rfl (by rw [zc_i1]) (Nat.le_of_ble_eq_true rfl) rfl ?_
                              refine zr_goto (pc := 178) 99 (zq_d eX11_cheapest 91 rfl) (by decide) ?_
                              exact zr_lo [1, 2, 3, 4, 5, 6, 0] rfl (hrc99_3 v12 (v13 + (1 : Int32)))
                            · exact zr_lo [0, 1, 2, 3, 4, 5, 6] rfl (hj146_4)
                  have hlrc99_3 := zr_loop (P := fun (rc99_3 : Int32 → Int32 → Option (Int32 × zq_M)) => ∀ (v12 : Int32) (v13 : Int32), zq_V G YX11_cheapest (6, 0, 0) (zq_si zq_shM z) 0 0 99 [(0, .ref (zq_ad G 69)), (1, .int a1), (2, .int a2), (3, .int a3), (4, .int v12), (5, .int v9), (6, .int v13)] [] zq_shM z X11 (rc99_3 v12 v13)) (fun _ _ => none) (b_X11_cheapest_99 N a1 a2 v9 rc81_2 X11) (fun _ _ => zr_none) hbrc99_3 N
                  exact zr_lo [1, 2, 3, 4, 5, 6, 0] rfl (hlrc99_3 v8 (0 : Int32))
                refine zr_if_le (pc := 89) 96 (zq_d eX11_cheapest 47 rfl) (by decide) (fun _ => ?_) (fun _ => ?_)
                · exact zr_lo [0, 1, 2, 3, 4, 5] rfl (hj96_5 X10)
                · refine zr_aload_n (pc := 92) (zq_d eX11_cheapest 48 rfl) 0 rfl rfl ?_
                  refine zr_Vv (pc := 93) [] (zq_d eX11_cheapest 49 rfl) (s_X11_goOnCheap G N z X10 ) zd_X11_goOnCheap zl_RX11_364 om_69 rfl rfl rfl rfl (Nat.le_of_ble_eq_true rfl) (Nat.le_of_ble_eq_true rfl) (Nat.le_of_ble_eq_true rfl) ⟨Nat.le_refl _, Nat.le_refl _⟩ (fun X17 => ?_)
                  exact zr_lo [0, 1, 2, 3, 4, 5] rfl (hj96_5 X17)
            have hlrc81_2 := zr_loop (P := fun (rc81_2 : Int32 → Int32 → zq_M → Option (Int32 × zq_M)) => ∀ (v8 : Int32) (v9 : Int32) (X10 : zq_M), zq_V G YX11_cheapest (6, 0, 0) (zq_si zq_shM z) 0 0 81 [(0, .ref (zq_ad G 69)), (1, .int a1), (2, .int a2), (3, .int a3), (4, .int v8), (5, .int v9)] [] zq_shM z X10 (rc81_2 v8 v9 X10)) (fun _ _ _ => none) (b_X11_cheapest_81 N a1 a2 a3) (fun _ _ _ => zr_none) hbrc81_2 N
            exact zr_lo [2, 3, 4, 5, 1, 0] rfl (hlrc81_2 (-5 : Int32) (0 : Int32) X6)
          · refine zr_aload_n (pc := 47) (zq_d eX11_cheapest 26 rfl) 0 rfl rfl ?_
            refine zr_getC (pc := 48) (zq_d eX11_cheapest 27 rfl) zf_RX11_108 km_69_32 ?_
            refine zr_iload (pc := 51) (zq_d eX11_cheapest 28 rfl) 4 rfl ?_
            refine zr_iload (pc := 53) (zq_d eX11_cheapest 29 rfl) 4 rfl ?_
            refine zr_aload_n (pc := 55) (zq_d eX11_cheapest 30 rfl) 0 rfl rfl ?_
            refine zr_getI (pc := 56) (zq_d eX11_cheapest 31 rfl) zf_RX11_13 km_69_1 ?_
            have hj67_7 : ∀ (v18 : Int32), zq_V G YX11_cheapest (6, 0, 0) (zq_si zq_shM z) 0 0 67 [(0, .ref (zq_ad G 69)), (1, .int a1), (2, .int a2), (3, .int a3), (4, .int v5)] [.int v18, .int v5, .ref (zq_ad G 89)] zq_shM z X6 (j_X11_cheapest_67 v5 X6 rc38_1 v18) := by
              intro v18
              unfold j_X11_cheapest_67
              refine zr_iast (pc := 67) (zq_d eX11_cheapest 36 rfl) am_89 (fun X19 => ?_)
              refine zr_iinc (pc := 68) (j := 4) (v := (v5 + (1 : Int32))) (lo2 := [(4, .int (v5 + (1 : Int32))), (0, .ref (zq_ad G 69)), (1, .int a1), (2, .int a2), (3, .int a3)]) (zq_d eX11_cheapest 37 rfl) rfl (by rw [zc_i1]) (Nat.le_of_ble_eq_true rfl) rfl ?_
              refine zr_goto (pc := 71) 38 (zq_d eX11_cheapest 38 rfl) (by decide) ?_
              exact zr_lo [1, 2, 3, 4, 0] rfl (hrc38_1 (v5 + (1 : Int32)) X19)
            refine zr_icmp_ne (pc := 59) 66 (zq_d eX11_cheapest 32 rfl) (by decide) (fun _ => ?_) (fun _ => ?_)
            · refine zr_iconst (pc := 66) (zq_d eX11_cheapest 35 rfl) zc_im1 ?_
              exact zr_lo [0, 1, 2, 3, 4] rfl (hj67_7 (-1 : Int32))
            · refine zr_iconst (pc := 62) (zq_d eX11_cheapest 33 rfl) zc_i0 ?_
              refine zr_goto (pc := 63) 67 (zq_d eX11_cheapest 34 rfl) (by decide) ?_
              exact zr_lo [0, 1, 2, 3, 4] rfl (hj67_7 (0 : Int32))
        have hlrc38_1 := zr_loop (P := fun (rc38_1 : Int32 → zq_M → Option (Int32 × zq_M)) => ∀ (v5 : Int32) (X6 : zq_M), zq_V G YX11_cheapest (6, 0, 0) (zq_si zq_shM z) 0 0 38 [(0, .ref (zq_ad G 69)), (1, .int a1), (2, .int a2), (3, .int a3), (4, .int v5)] [] zq_shM z X6 (rc38_1 v5 X6)) (fun _ _ => none) (b_X11_cheapest_38 N a1 a2 a3) (fun _ _ => zr_none) hbrc38_1 N
        exact zr_lo [1, 2, 3, 4, 0] rfl (hlrc38_1 (0 : Int32) X4)
      · refine zr_bipush (pc := 28) (zq_d eX11_cheapest 16 rfl) zc_bm2 ?_
        exact zr_ireturn (pc := 30) (zq_d eX11_cheapest 17 rfl) rfl rfl (Nat.zero_le _) (Nat.zero_le _)
    · refine zr_iconst (pc := 16) (zq_d eX11_cheapest 8 rfl) zc_im1 ?_
      exact zr_ireturn (pc := 17) (zq_d eX11_cheapest 9 rfl) rfl rfl (Nat.zero_le _) (Nat.zero_le _)
def k_X11_never_101_2 (v4 : Int32) (X6 : zq_M)  : Option (Int32 × zq_M) :=
  some ((((zq_shl (1 : Int32) (X6.1 69 0)) - (1 : Int32)) &&& (v4 ^^^ (-1 : Int32))), X6)
def b_X11_never_43 (N : Nat) (a1 : Int32) (v5 : Int32) (rc26_1 : Int32 → Int32 → zq_M → Option (Int32 × zq_M)) (X7 : zq_M) (rc43_3 : Int32 → Int32 → Option (Int32 × zq_M)) (v8 : Int32) (v9 : Int32) : Option (Int32 × zq_M) :=
  if (X7.1 69 0) ≤ v9 then (rc26_1 v8 (v5 + (1 : Int32)) X7) else ((f_X11_has N X7 v8 v9).bind (fun v10 => if ¬ v10 = 0 then (rc43_3 (v8 ||| (0 : Int32)) (v9 + (1 : Int32))) else ((f_X11_canSpeak N X7 v9 a1 ((X7.1 69 2) + v5)).bind (fun v11 => if v11 = 0 then (rc43_3 (v8 ||| (0 : Int32)) (v9 + (1 : Int32))) else (rc43_3 (v8 ||| (zq_shl (1 : Int32) v9)) (v9 + (1 : Int32)))))))
def j_X11_never_40 (N : Nat) (a1 : Int32) (v4 : Int32) (v5 : Int32) (rc26_1 : Int32 → Int32 → zq_M → Option (Int32 × zq_M)) (X7 : zq_M) : Option (Int32 × zq_M) :=
  zq_loop (fun _ _ => none) (b_X11_never_43 N a1 v5 rc26_1 X7) N v4 (0 : Int32)
def b_X11_never_26 (N : Nat) (a1 : Int32) (rc26_1 : Int32 → Int32 → zq_M → Option (Int32 × zq_M)) (v4 : Int32) (v5 : Int32) (X6 : zq_M) : Option (Int32 × zq_M) :=
  if (13 : Int32) ≤ v5 then (k_X11_never_101_2 v4 X6) else (if v5 ≤ 0 then (j_X11_never_40 N a1 v4 v5 rc26_1 X6) else ((f_X11_goOn N X6).bind (fun X12 => j_X11_never_40 N a1 v4 v5 rc26_1 X12)))
def f_X11_never (N : Nat) (X : zq_M) (a1 : Int32) : Option (Int32 × zq_M) :=
  (f_X11_isRoom N X a1).bind (fun v1 => if ¬ v1 = 0 then ((f_X11_layComings N X).bind (fun X2 => (f_X11_beginAt N X2 (X2.1 69 1)).bind (fun X3 => zq_loop (fun _ _ _ => none) (b_X11_never_26 N a1) N (0 : Int32) (0 : Int32) X3))) else (some ((-1 : Int32), X)))
set_option maxRecDepth 20000 in
set_option maxHeartbeats 8000000 in
theorem s_X11_never (G : zq_G) (N z : Nat) (X : zq_M) (a1 : Int32) : zq_V G YX11_never (6, 0, 0) (zq_si zq_shM z) 0 0 0 (lv_args 0 [.ref (zq_ad G 69), .int a1]) [] zq_shM z X (f_X11_never N X a1) := by
  unfold f_X11_never
  refine zr_lo (l2 := [(0, .ref (zq_ad G 69)), (1, .int a1)]) [0, 1] rfl ?_
  refine zr_aload_n (pc := 0) (zq_d eX11_never 0 rfl) 0 rfl rfl ?_
  refine zr_iload_n (pc := 1) (zq_d eX11_never 1 rfl) 1 rfl rfl ?_
  refine zr_Vi (pc := 2) [_] (zq_d eX11_never 2 rfl) (s_X11_isRoom G N z X _) zd_X11_isRoom zl_RX11_259 om_69 rfl rfl rfl rfl (Nat.le_of_ble_eq_true rfl) (Nat.le_of_ble_eq_true rfl) (Nat.le_of_ble_eq_true rfl) ⟨Nat.le_refl _, Nat.le_refl _⟩ (fun v1 => ?_)
  refine zr_if_ne (pc := 5) 10 (zq_d eX11_never 3 rfl) (by decide) (fun _ => ?_) (fun _ => ?_)
  · refine zr_aload_n (pc := 10) (zq_d eX11_never 6 rfl) 0 rfl rfl ?_
    refine zr_Vv (pc := 11) [] (zq_d eX11_never 7 rfl) (s_X11_layComings G N z X ) zd_X11_layComings zl_RX11_355 om_69 rfl rfl rfl rfl (Nat.le_of_ble_eq_true rfl) (Nat.le_of_ble_eq_true rfl) (Nat.le_of_ble_eq_true rfl) ⟨Nat.le_refl _, Nat.le_refl _⟩ (fun X2 => ?_)
    refine zr_iconst (pc := 14) (zq_d eX11_never 8 rfl) zc_i0 ?_
    refine zr_istore_n (pc := 15) (lo2 := [(2, .int (0 : Int32)), (0, .ref (zq_ad G 69)), (1, .int a1)]) (zq_d eX11_never 9 rfl) rfl (Nat.le_of_ble_eq_true rfl) rfl ?_
    refine zr_aload_n (pc := 16) (zq_d eX11_never 10 rfl) 1 rfl rfl ?_
    refine zr_aload_n (pc := 17) (zq_d eX11_never 11 rfl) 1 rfl rfl ?_
    refine zr_getI (pc := 18) (zq_d eX11_never 12 rfl) zf_RX11_13 km_69_1 ?_
    refine zr_Vv (pc := 21) [_] (zq_d eX11_never 13 rfl) (s_X11_beginAt G N z X2 _) zd_X11_beginAt zl_RX11_346 om_69 rfl rfl rfl rfl (Nat.le_of_ble_eq_true rfl) (Nat.le_of_ble_eq_true rfl) (Nat.le_of_ble_eq_true rfl) ⟨Nat.le_refl _, Nat.le_refl _⟩ (fun X3 => ?_)
    refine zr_iconst (pc := 24) (zq_d eX11_never 14 rfl) zc_i0 ?_
    refine zr_istore_n (pc := 25) (lo2 := [(3, .int (0 : Int32)), (2, .int (0 : Int32)), (0, .ref (zq_ad G 69)), (1, .int a1)]) (zq_d eX11_never 15 rfl) rfl (Nat.le_of_ble_eq_true rfl) rfl ?_
    have hbrc26_1 : ∀ rc26_1 : Int32 → Int32 → zq_M → Option (Int32 × zq_M), (∀ (v4 : Int32) (v5 : Int32) (X6 : zq_M), zq_V G YX11_never (6, 0, 0) (zq_si zq_shM z) 0 0 26 [(0, .ref (zq_ad G 69)), (1, .int a1), (2, .int v4), (3, .int v5)] [] zq_shM z X6 (rc26_1 v4 v5 X6)) → ∀ (v4 : Int32) (v5 : Int32) (X6 : zq_M), zq_V G YX11_never (6, 0, 0) (zq_si zq_shM z) 0 0 26 [(0, .ref (zq_ad G 69)), (1, .int a1), (2, .int v4), (3, .int v5)] [] zq_shM z X6 (b_X11_never_26 N a1 rc26_1 v4 v5 X6) := by
      intro rc26_1 hrc26_1 v4 v5 X6
      unfold b_X11_never_26
      refine zr_iload_n (pc := 26) (zq_d eX11_never 16 rfl) 3 rfl rfl ?_
      refine zr_bipush (pc := 27) (zq_d eX11_never 17 rfl) zc_b13 ?_
      refine zr_icmp_ge (pc := 29) 101 (zq_d eX11_never 18 rfl) (by decide) (fun _ => ?_) (fun _ => ?_)
      · unfold k_X11_never_101_2
        refine zr_iconst (pc := 101) (zq_d eX11_never 55 rfl) zc_i1 ?_
        refine zr_aload_n (pc := 102) (zq_d eX11_never 56 rfl) 0 rfl rfl ?_
        refine zr_getI (pc := 103) (zq_d eX11_never 57 rfl) zf_RX11_7 km_69_0 ?_
        refine zr_ishl (pc := 106) (zq_d eX11_never 58 rfl) ?_
        refine zr_iconst (pc := 107) (zq_d eX11_never 59 rfl) zc_i1 ?_
        refine zr_isub (pc := 108) (zq_d eX11_never 60 rfl) ?_
        refine zr_iload_n (pc := 109) (zq_d eX11_never 61 rfl) 2 rfl rfl ?_
        refine zr_iconst (pc := 110) (zq_d eX11_never 62 rfl) zc_im1 ?_
        refine zr_ixor (pc := 111) (zq_d eX11_never 63 rfl) ?_
        refine zr_iand (pc := 112) (zq_d eX11_never 64 rfl) ?_
        exact zr_ireturn (pc := 113) (zq_d eX11_never 65 rfl) rfl rfl (Nat.zero_le _) (Nat.zero_le _)
      · refine zr_iload_n (pc := 32) (zq_d eX11_never 19 rfl) 3 rfl rfl ?_
        have hj40_4 : ∀ (X7 : zq_M), zq_V G YX11_never (6, 0, 0) (zq_si zq_shM z) 0 0 40 [(0, .ref (zq_ad G 69)), (1, .int a1), (2, .int v4), (3, .int v5)] [] zq_shM z X7 (j_X11_never_40 N a1 v4 v5 rc26_1 X7) := by
          intro X7
          unfold j_X11_never_40
          refine zr_iconst (pc := 40) (zq_d eX11_never 23 rfl) zc_i0 ?_
          refine zr_istore (pc := 41) (lo2 := [(4, .int (0 : Int32)), (0, .ref (zq_ad G 69)), (1, .int a1), (2, .int v4), (3, .int v5)]) (zq_d eX11_never 24 rfl) (Nat.le_of_ble_eq_true rfl) rfl ?_
          have hbrc43_3 : ∀ rc43_3 : Int32 → Int32 → Option (Int32 × zq_M), (∀ (v8 : Int32) (v9 : Int32), zq_V G YX11_never (6, 0, 0) (zq_si zq_shM z) 0 0 43 [(0, .ref (zq_ad G 69)), (1, .int a1), (2, .int v8), (3, .int v5), (4, .int v9)] [] zq_shM z X7 (rc43_3 v8 v9)) → ∀ (v8 : Int32) (v9 : Int32), zq_V G YX11_never (6, 0, 0) (zq_si zq_shM z) 0 0 43 [(0, .ref (zq_ad G 69)), (1, .int a1), (2, .int v8), (3, .int v5), (4, .int v9)] [] zq_shM z X7 (b_X11_never_43 N a1 v5 rc26_1 X7 rc43_3 v8 v9) := by
            intro rc43_3 hrc43_3 v8 v9
            unfold b_X11_never_43
            refine zr_iload (pc := 43) (zq_d eX11_never 25 rfl) 4 rfl ?_
            refine zr_aload_n (pc := 45) (zq_d eX11_never 26 rfl) 0 rfl rfl ?_
            refine zr_getI (pc := 46) (zq_d eX11_never 27 rfl) zf_RX11_7 km_69_0 ?_
            refine zr_icmp_ge (pc := 49) 95 (zq_d eX11_never 28 rfl) (by decide) (fun _ => ?_) (fun _ => ?_)
            · refine zr_iinc (pc := 95) (j := 3) (v := (v5 + (1 : Int32))) (lo2 := [(3, .int (v5 + (1 : Int32))), (0, .ref (zq_ad G 69)), (1, .int a1), (2, .int v8), (4, .int v9)]) (zq_d eX11_never 53 rfl) rfl (by rw [zc_i1]) (Nat.le_of_ble_eq_true rfl) rfl ?_
              refine zr_goto (pc := 98) 26 (zq_d eX11_never 54 rfl) (by decide) ?_
              exact zr_lo [1, 2, 3, 0] rfl (hrc26_1 v8 (v5 + (1 : Int32)) X7)
            · refine zr_iload_n (pc := 52) (zq_d eX11_never 29 rfl) 2 rfl rfl ?_
              refine zr_aload_n (pc := 53) (zq_d eX11_never 30 rfl) 0 rfl rfl ?_
              refine zr_iload_n (pc := 54) (zq_d eX11_never 31 rfl) 2 rfl rfl ?_
              refine zr_iload (pc := 55) (zq_d eX11_never 32 rfl) 4 rfl ?_
              refine zr_Vi (pc := 57) [_, _] (zq_d eX11_never 33 rfl) (s_X11_has G N z X7 _ _) zd_X11_has zl_RX11_331 om_69 rfl rfl rfl rfl (Nat.le_of_ble_eq_true rfl) (Nat.le_of_ble_eq_true rfl) (Nat.le_of_ble_eq_true rfl) ⟨Nat.le_refl _, Nat.le_refl _⟩ (fun v10 => ?_)
              refine zr_if_ne (pc := 60) 86 (zq_d eX11_never 34 rfl) (by decide) (fun _ => ?_) (fun _ => ?_)
              · refine zr_iconst (pc := 86) (zq_d eX11_never 48 rfl) zc_i0 ?_
                refine zr_ior (pc := 87) (zq_d eX11_never 49 rfl) ?_
                refine zr_istore_n (pc := 88) (lo2 := [(2, .int (v8 ||| (0 : Int32))), (0, .ref (zq_ad G 69)), (1, .int a1), (3, .int v5), (4, .int v9)]) (zq_d eX11_never 50 rfl) rfl (Nat.le_of_ble_eq_true rfl) rfl ?_
                refine zr_iinc (pc := 89) (j := 4) (v := (v9 + (1 : Int32))) (lo2 := [(4, .int (v9 + (1 : Int32))), (2, .int (v8 ||| (0 : Int32))), (0, .ref (zq_ad G 69)), (1, .int a1), (3, .int v5)]) (zq_d eX11_never 51 rfl) rfl (by rw [zc_i1]) (Nat.le_of_ble_eq_true rfl) rfl ?_
                refine zr_goto (pc := 92) 43 (zq_d eX11_never 52 rfl) (by decide) ?_
                exact zr_lo [2, 3, 1, 4, 0] rfl (hrc43_3 (v8 ||| (0 : Int32)) (v9 + (1 : Int32)))
              · refine zr_aload_n (pc := 63) (zq_d eX11_never 35 rfl) 0 rfl rfl ?_
                refine zr_iload (pc := 64) (zq_d eX11_never 36 rfl) 4 rfl ?_
                refine zr_iload_n (pc := 66) (zq_d eX11_never 37 rfl) 1 rfl rfl ?_
                refine zr_aload_n (pc := 67) (zq_d eX11_never 38 rfl) 0 rfl rfl ?_
                refine zr_getI (pc := 68) (zq_d eX11_never 39 rfl) zf_RX11_16 km_69_2 ?_
                refine zr_iload_n (pc := 71) (zq_d eX11_never 40 rfl) 3 rfl rfl ?_
                refine zr_iadd (pc := 72) (zq_d eX11_never 41 rfl) ?_
                refine zr_Vi (pc := 73) [_, _, _] (zq_d eX11_never 42 rfl) (s_X11_canSpeak G N z X7 _ _ _) zd_X11_canSpeak zl_RX11_349 om_69 rfl rfl rfl rfl (Nat.le_of_ble_eq_true rfl) (Nat.le_of_ble_eq_true rfl) (Nat.le_of_ble_eq_true rfl) ⟨Nat.le_refl _, Nat.le_refl _⟩ (fun v11 => ?_)
                refine zr_if_eq (pc := 76) 86 (zq_d eX11_never 43 rfl) (by decide) (fun _ => ?_) (fun _ => ?_)
                · refine zr_iconst (pc := 86) (zq_d eX11_never 48 rfl) zc_i0 ?_
                  refine zr_ior (pc := 87) (zq_d eX11_never 49 rfl) ?_
                  refine zr_istore_n (pc := 88) (lo2 := [(2, .int (v8 ||| (0 : Int32))), (0, .ref (zq_ad G 69)), (1, .int a1), (3, .int v5), (4, .int v9)]) (zq_d eX11_never 50 rfl) rfl (Nat.le_of_ble_eq_true rfl) rfl ?_
                  refine zr_iinc (pc := 89) (j := 4) (v := (v9 + (1 : Int32))) (lo2 := [(4, .int (v9 + (1 : Int32))), (2, .int (v8 ||| (0 : Int32))), (0, .ref (zq_ad G 69)), (1, .int a1), (3, .int v5)]) (zq_d eX11_never 51 rfl) rfl (by rw [zc_i1]) (Nat.le_of_ble_eq_true rfl) rfl ?_
                  refine zr_goto (pc := 92) 43 (zq_d eX11_never 52 rfl) (by decide) ?_
                  exact zr_lo [2, 3, 1, 4, 0] rfl (hrc43_3 (v8 ||| (0 : Int32)) (v9 + (1 : Int32)))
                · refine zr_iconst (pc := 79) (zq_d eX11_never 44 rfl) zc_i1 ?_
                  refine zr_iload (pc := 80) (zq_d eX11_never 45 rfl) 4 rfl ?_
                  refine zr_ishl (pc := 82) (zq_d eX11_never 46 rfl) ?_
                  refine zr_goto (pc := 83) 87 (zq_d eX11_never 47 rfl) (by decide) ?_
                  refine zr_ior (pc := 87) (zq_d eX11_never 49 rfl) ?_
                  refine zr_istore_n (pc := 88) (lo2 := [(2, .int (v8 ||| (zq_shl (1 : Int32) v9))), (0, .ref (zq_ad G 69)), (1, .int a1), (3, .int v5), (4, .int v9)]) (zq_d eX11_never 50 rfl) rfl (Nat.le_of_ble_eq_true rfl) rfl ?_
                  refine zr_iinc (pc := 89) (j := 4) (v := (v9 + (1 : Int32))) (lo2 := [(4, .int (v9 + (1 : Int32))), (2, .int (v8 ||| (zq_shl (1 : Int32) v9))), (0, .ref (zq_ad G 69)), (1, .int a1), (3, .int v5)]) (zq_d eX11_never 51 rfl) rfl (by rw [zc_i1]) (Nat.le_of_ble_eq_true rfl) rfl ?_
                  refine zr_goto (pc := 92) 43 (zq_d eX11_never 52 rfl) (by decide) ?_
                  exact zr_lo [2, 3, 1, 4, 0] rfl (hrc43_3 (v8 ||| (zq_shl (1 : Int32) v9)) (v9 + (1 : Int32)))
          have hlrc43_3 := zr_loop (P := fun (rc43_3 : Int32 → Int32 → Option (Int32 × zq_M)) => ∀ (v8 : Int32) (v9 : Int32), zq_V G YX11_never (6, 0, 0) (zq_si zq_shM z) 0 0 43 [(0, .ref (zq_ad G 69)), (1, .int a1), (2, .int v8), (3, .int v5), (4, .int v9)] [] zq_shM z X7 (rc43_3 v8 v9)) (fun _ _ => none) (b_X11_never_43 N a1 v5 rc26_1 X7) (fun _ _ => zr_none) hbrc43_3 N
          exact zr_lo [1, 2, 3, 4, 0] rfl (hlrc43_3 v4 (0 : Int32))
        refine zr_if_le (pc := 33) 40 (zq_d eX11_never 20 rfl) (by decide) (fun _ => ?_) (fun _ => ?_)
        · exact zr_lo [0, 1, 2, 3] rfl (hj40_4 X6)
        · refine zr_aload_n (pc := 36) (zq_d eX11_never 21 rfl) 0 rfl rfl ?_
          refine zr_Vv (pc := 37) [] (zq_d eX11_never 22 rfl) (s_X11_goOn G N z X6 ) zd_X11_goOn zl_RX11_352 om_69 rfl rfl rfl rfl (Nat.le_of_ble_eq_true rfl) (Nat.le_of_ble_eq_true rfl) (Nat.le_of_ble_eq_true rfl) ⟨Nat.le_refl _, Nat.le_refl _⟩ (fun X12 => ?_)
          exact zr_lo [0, 1, 2, 3] rfl (hj40_4 X12)
    have hlrc26_1 := zr_loop (P := fun (rc26_1 : Int32 → Int32 → zq_M → Option (Int32 × zq_M)) => ∀ (v4 : Int32) (v5 : Int32) (X6 : zq_M), zq_V G YX11_never (6, 0, 0) (zq_si zq_shM z) 0 0 26 [(0, .ref (zq_ad G 69)), (1, .int a1), (2, .int v4), (3, .int v5)] [] zq_shM z X6 (rc26_1 v4 v5 X6)) (fun _ _ _ => none) (b_X11_never_26 N a1) (fun _ _ _ => zr_none) hbrc26_1 N
    exact zr_lo [2, 3, 1, 0] rfl (hlrc26_1 (0 : Int32) (0 : Int32) X3)
  · refine zr_iconst (pc := 8) (zq_d eX11_never 4 rfl) zc_im1 ?_
    exact zr_ireturn (pc := 9) (zq_d eX11_never 5 rfl) rfl rfl (Nat.zero_le _) (Nat.zero_le _)
def b_X11_spread_42 (N : Nat) (X : zq_M) (a1 : Int32) (v2 : Int32) (rc6_1 : Int32 → Int32 → Option Int32) (rc42_2 : Int32 → Int32 → Option Int32) (v5 : Int32) (v6 : Int32) : Option Int32 :=
  if (X.1 69 0) ≤ v6 then (rc6_1 v5 (v2 + (1 : Int32))) else ((f_X11_placeOf N X a1 v6).bind (fun v7 => (f_X11_placeOf N X a1 v2).bind (fun v8 => if ¬ v7 = v8 then (rc42_2 (v5 ||| (0 : Int32)) (v6 + (1 : Int32))) else (rc42_2 (v5 ||| (zq_shl (1 : Int32) v6)) (v6 + (1 : Int32))))))
def b_X11_spread_6 (N : Nat) (X : zq_M) (a1 : Int32) (a2 : Int32) (a3 : Int32) (rc6_1 : Int32 → Int32 → Option Int32) (v1 : Int32) (v2 : Int32) : Option Int32 :=
  if (X.1 69 0) ≤ v2 then (some v1) else ((f_X11_has N X a2 v2).bind (fun v3 => if v3 = 0 then (rc6_1 v1 (v2 + (1 : Int32))) else ((f_X11_maySpeak N X a1 v2 a3).bind (fun v4 => if ¬ v4 = 0 then (zq_loop (fun _ _ => none) (b_X11_spread_42 N X a1 v2 rc6_1) N v1 (0 : Int32)) else (rc6_1 v1 (v2 + (1 : Int32)))))))
def f_X11_spread (N : Nat) (X : zq_M) (a1 : Int32) (a2 : Int32) (a3 : Int32) : Option Int32 :=
  zq_loop (fun _ _ => none) (b_X11_spread_6 N X a1 a2 a3) N a2 (0 : Int32)
set_option maxRecDepth 20000 in
set_option maxHeartbeats 8000000 in
theorem s_X11_spread (G : zq_G) (N z : Nat) (X : zq_M) (a1 : Int32) (a2 : Int32) (a3 : Int32) : zq_V G YX11_spread (4, 0, 0) (zq_ei zq_shM z X) 0 0 0 (lv_args 0 [.ref (zq_ad G 69), .int a1, .int a2, .int a3]) [] zq_shM z X (f_X11_spread N X a1 a2 a3) := by
  unfold f_X11_spread
  refine zr_lo (l2 := [(0, .ref (zq_ad G 69)), (1, .int a1), (2, .int a2), (3, .int a3)]) [0, 1, 2, 3] rfl ?_
  refine zr_iload_n (pc := 0) (zq_d eX11_spread 0 rfl) 2 rfl rfl ?_
  refine zr_istore (pc := 1) (lo2 := [(4, .int a2), (0, .ref (zq_ad G 69)), (1, .int a1), (2, .int a2), (3, .int a3)]) (zq_d eX11_spread 1 rfl) (Nat.le_of_ble_eq_true rfl) rfl ?_
  refine zr_iconst (pc := 3) (zq_d eX11_spread 2 rfl) zc_i0 ?_
  refine zr_istore (pc := 4) (lo2 := [(5, .int (0 : Int32)), (4, .int a2), (0, .ref (zq_ad G 69)), (1, .int a1), (2, .int a2), (3, .int a3)]) (zq_d eX11_spread 3 rfl) (Nat.le_of_ble_eq_true rfl) rfl ?_
  have hbrc6_1 : ∀ rc6_1 : Int32 → Int32 → Option Int32, (∀ (v1 : Int32) (v2 : Int32), zq_V G YX11_spread (4, 0, 0) (zq_ei zq_shM z X) 0 0 6 [(0, .ref (zq_ad G 69)), (1, .int a1), (2, .int a2), (3, .int a3), (4, .int v1), (5, .int v2)] [] zq_shM z X (rc6_1 v1 v2)) → ∀ (v1 : Int32) (v2 : Int32), zq_V G YX11_spread (4, 0, 0) (zq_ei zq_shM z X) 0 0 6 [(0, .ref (zq_ad G 69)), (1, .int a1), (2, .int a2), (3, .int a3), (4, .int v1), (5, .int v2)] [] zq_shM z X (b_X11_spread_6 N X a1 a2 a3 rc6_1 v1 v2) := by
    intro rc6_1 hrc6_1 v1 v2
    unfold b_X11_spread_6
    refine zr_iload (pc := 6) (zq_d eX11_spread 4 rfl) 5 rfl ?_
    refine zr_aload_n (pc := 8) (zq_d eX11_spread 5 rfl) 0 rfl rfl ?_
    refine zr_getI (pc := 9) (zq_d eX11_spread 6 rfl) zf_RX11_7 km_69_0 ?_
    refine zr_icmp_ge (pc := 12) 93 (zq_d eX11_spread 7 rfl) (by decide) (fun _ => ?_) (fun _ => ?_)
    · refine zr_iload (pc := 93) (zq_d eX11_spread 47 rfl) 4 rfl ?_
      exact zr_ireturn (pc := 95) (zq_d eX11_spread 48 rfl) rfl rfl (Nat.zero_le _) (Nat.zero_le _)
    · refine zr_aload_n (pc := 15) (zq_d eX11_spread 8 rfl) 0 rfl rfl ?_
      refine zr_iload_n (pc := 16) (zq_d eX11_spread 9 rfl) 2 rfl rfl ?_
      refine zr_iload (pc := 17) (zq_d eX11_spread 10 rfl) 5 rfl ?_
      refine zr_Vi (pc := 19) [_, _] (zq_d eX11_spread 11 rfl) (s_X11_has G N z X _ _) zd_X11_has zl_RX11_331 om_69 rfl rfl rfl rfl (Nat.le_of_ble_eq_true rfl) (Nat.le_of_ble_eq_true rfl) (Nat.le_of_ble_eq_true rfl) ⟨Nat.le_refl _, Nat.le_refl _⟩ (fun v3 => ?_)
      refine zr_if_eq (pc := 22) 87 (zq_d eX11_spread 12 rfl) (by decide) (fun _ => ?_) (fun _ => ?_)
      · refine zr_iinc (pc := 87) (j := 5) (v := (v2 + (1 : Int32))) (lo2 := [(5, .int (v2 + (1 : Int32))), (0, .ref (zq_ad G 69)), (1, .int a1), (2, .int a2), (3, .int a3), (4, .int v1)]) (zq_d eX11_spread 45 rfl) rfl (by rw [zc_i1]) (Nat.le_of_ble_eq_true rfl) rfl ?_
        refine zr_goto (pc := 90) 6 (zq_d eX11_spread 46 rfl) (by decide) ?_
        exact zr_lo [1, 2, 3, 4, 5, 0] rfl (hrc6_1 v1 (v2 + (1 : Int32)))
      · refine zr_aload_n (pc := 25) (zq_d eX11_spread 13 rfl) 0 rfl rfl ?_
        refine zr_iload_n (pc := 26) (zq_d eX11_spread 14 rfl) 1 rfl rfl ?_
        refine zr_iload (pc := 27) (zq_d eX11_spread 15 rfl) 5 rfl ?_
        refine zr_iload_n (pc := 29) (zq_d eX11_spread 16 rfl) 3 rfl rfl ?_
        refine zr_Vi (pc := 30) [_, _, _] (zq_d eX11_spread 17 rfl) (s_X11_maySpeak G N z X _ _ _) zd_X11_maySpeak zl_RX11_256 om_69 rfl rfl rfl rfl (Nat.le_of_ble_eq_true rfl) (Nat.le_of_ble_eq_true rfl) (Nat.le_of_ble_eq_true rfl) ⟨Nat.le_refl _, Nat.le_refl _⟩ (fun v4 => ?_)
        refine zr_if_ne (pc := 33) 39 (zq_d eX11_spread 18 rfl) (by decide) (fun _ => ?_) (fun _ => ?_)
        · refine zr_iconst (pc := 39) (zq_d eX11_spread 20 rfl) zc_i0 ?_
          refine zr_istore (pc := 40) (lo2 := [(6, .int (0 : Int32)), (0, .ref (zq_ad G 69)), (1, .int a1), (2, .int a2), (3, .int a3), (4, .int v1), (5, .int v2)]) (zq_d eX11_spread 21 rfl) (Nat.le_of_ble_eq_true rfl) rfl ?_
          have hbrc42_2 : ∀ rc42_2 : Int32 → Int32 → Option Int32, (∀ (v5 : Int32) (v6 : Int32), zq_V G YX11_spread (4, 0, 0) (zq_ei zq_shM z X) 0 0 42 [(0, .ref (zq_ad G 69)), (1, .int a1), (2, .int a2), (3, .int a3), (4, .int v5), (5, .int v2), (6, .int v6)] [] zq_shM z X (rc42_2 v5 v6)) → ∀ (v5 : Int32) (v6 : Int32), zq_V G YX11_spread (4, 0, 0) (zq_ei zq_shM z X) 0 0 42 [(0, .ref (zq_ad G 69)), (1, .int a1), (2, .int a2), (3, .int a3), (4, .int v5), (5, .int v2), (6, .int v6)] [] zq_shM z X (b_X11_spread_42 N X a1 v2 rc6_1 rc42_2 v5 v6) := by
            intro rc42_2 hrc42_2 v5 v6
            unfold b_X11_spread_42
            refine zr_iload (pc := 42) (zq_d eX11_spread 22 rfl) 6 rfl ?_
            refine zr_aload_n (pc := 44) (zq_d eX11_spread 23 rfl) 0 rfl rfl ?_
            refine zr_getI (pc := 45) (zq_d eX11_spread 24 rfl) zf_RX11_7 km_69_0 ?_
            refine zr_icmp_ge (pc := 48) 87 (zq_d eX11_spread 25 rfl) (by decide) (fun _ => ?_) (fun _ => ?_)
            · refine zr_iinc (pc := 87) (j := 5) (v := (v2 + (1 : Int32))) (lo2 := [(5, .int (v2 + (1 : Int32))), (0, .ref (zq_ad G 69)), (1, .int a1), (2, .int a2), (3, .int a3), (4, .int v5), (6, .int v6)]) (zq_d eX11_spread 45 rfl) rfl (by rw [zc_i1]) (Nat.le_of_ble_eq_true rfl) rfl ?_
              refine zr_goto (pc := 90) 6 (zq_d eX11_spread 46 rfl) (by decide) ?_
              exact zr_lo [1, 2, 3, 4, 5, 0] rfl (hrc6_1 v5 (v2 + (1 : Int32)))
            · refine zr_iload (pc := 51) (zq_d eX11_spread 26 rfl) 4 rfl ?_
              refine zr_aload_n (pc := 53) (zq_d eX11_spread 27 rfl) 0 rfl rfl ?_
              refine zr_iload_n (pc := 54) (zq_d eX11_spread 28 rfl) 1 rfl rfl ?_
              refine zr_iload (pc := 55) (zq_d eX11_spread 29 rfl) 6 rfl ?_
              refine zr_Vi (pc := 57) [_, _] (zq_d eX11_spread 30 rfl) (s_X11_placeOf G N z X _ _) zd_X11_placeOf zl_RX11_221 om_69 rfl rfl rfl rfl (Nat.le_of_ble_eq_true rfl) (Nat.le_of_ble_eq_true rfl) (Nat.le_of_ble_eq_true rfl) ⟨Nat.le_refl _, Nat.le_refl _⟩ (fun v7 => ?_)
              refine zr_aload_n (pc := 60) (zq_d eX11_spread 31 rfl) 0 rfl rfl ?_
              refine zr_iload_n (pc := 61) (zq_d eX11_spread 32 rfl) 1 rfl rfl ?_
              refine zr_iload (pc := 62) (zq_d eX11_spread 33 rfl) 5 rfl ?_
              refine zr_Vi (pc := 64) [_, _] (zq_d eX11_spread 34 rfl) (s_X11_placeOf G N z X _ _) zd_X11_placeOf zl_RX11_221 om_69 rfl rfl rfl rfl (Nat.le_of_ble_eq_true rfl) (Nat.le_of_ble_eq_true rfl) (Nat.le_of_ble_eq_true rfl) ⟨Nat.le_refl _, Nat.le_refl _⟩ (fun v8 => ?_)
              refine zr_icmp_ne (pc := 67) 77 (zq_d eX11_spread 35 rfl) (by decide) (fun _ => ?_) (fun _ => ?_)
              · refine zr_iconst (pc := 77) (zq_d eX11_spread 40 rfl) zc_i0 ?_
                refine zr_ior (pc := 78) (zq_d eX11_spread 41 rfl) ?_
                refine zr_istore (pc := 79) (lo2 := [(4, .int (v5 ||| (0 : Int32))), (0, .ref (zq_ad G 69)), (1, .int a1), (2, .int a2), (3, .int a3), (5, .int v2), (6, .int v6)]) (zq_d eX11_spread 42 rfl) (Nat.le_of_ble_eq_true rfl) rfl ?_
                refine zr_iinc (pc := 81) (j := 6) (v := (v6 + (1 : Int32))) (lo2 := [(6, .int (v6 + (1 : Int32))), (4, .int (v5 ||| (0 : Int32))), (0, .ref (zq_ad G 69)), (1, .int a1), (2, .int a2), (3, .int a3), (5, .int v2)]) (zq_d eX11_spread 43 rfl) rfl (by rw [zc_i1]) (Nat.le_of_ble_eq_true rfl) rfl ?_
                refine zr_goto (pc := 84) 42 (zq_d eX11_spread 44 rfl) (by decide) ?_
                exact zr_lo [2, 3, 4, 5, 1, 6, 0] rfl (hrc42_2 (v5 ||| (0 : Int32)) (v6 + (1 : Int32)))
              · refine zr_iconst (pc := 70) (zq_d eX11_spread 36 rfl) zc_i1 ?_
                refine zr_iload (pc := 71) (zq_d eX11_spread 37 rfl) 6 rfl ?_
                refine zr_ishl (pc := 73) (zq_d eX11_spread 38 rfl) ?_
                refine zr_goto (pc := 74) 78 (zq_d eX11_spread 39 rfl) (by decide) ?_
                refine zr_ior (pc := 78) (zq_d eX11_spread 41 rfl) ?_
                refine zr_istore (pc := 79) (lo2 := [(4, .int (v5 ||| (zq_shl (1 : Int32) v6))), (0, .ref (zq_ad G 69)), (1, .int a1), (2, .int a2), (3, .int a3), (5, .int v2), (6, .int v6)]) (zq_d eX11_spread 42 rfl) (Nat.le_of_ble_eq_true rfl) rfl ?_
                refine zr_iinc (pc := 81) (j := 6) (v := (v6 + (1 : Int32))) (lo2 := [(6, .int (v6 + (1 : Int32))), (4, .int (v5 ||| (zq_shl (1 : Int32) v6))), (0, .ref (zq_ad G 69)), (1, .int a1), (2, .int a2), (3, .int a3), (5, .int v2)]) (zq_d eX11_spread 43 rfl) rfl (by rw [zc_i1]) (Nat.le_of_ble_eq_true rfl) rfl ?_
                refine zr_goto (pc := 84) 42 (zq_d eX11_spread 44 rfl) (by decide) ?_
                exact zr_lo [2, 3, 4, 5, 1, 6, 0] rfl (hrc42_2 (v5 ||| (zq_shl (1 : Int32) v6)) (v6 + (1 : Int32)))
          have hlrc42_2 := zr_loop (P := fun (rc42_2 : Int32 → Int32 → Option Int32) => ∀ (v5 : Int32) (v6 : Int32), zq_V G YX11_spread (4, 0, 0) (zq_ei zq_shM z X) 0 0 42 [(0, .ref (zq_ad G 69)), (1, .int a1), (2, .int a2), (3, .int a3), (4, .int v5), (5, .int v2), (6, .int v6)] [] zq_shM z X (rc42_2 v5 v6)) (fun _ _ => none) (b_X11_spread_42 N X a1 v2 rc6_1) (fun _ _ => zr_none) hbrc42_2 N
          exact zr_lo [1, 2, 3, 4, 5, 6, 0] rfl (hlrc42_2 v1 (0 : Int32))
        · refine zr_goto (pc := 36) 87 (zq_d eX11_spread 19 rfl) (by decide) ?_
          refine zr_iinc (pc := 87) (j := 5) (v := (v2 + (1 : Int32))) (lo2 := [(5, .int (v2 + (1 : Int32))), (0, .ref (zq_ad G 69)), (1, .int a1), (2, .int a2), (3, .int a3), (4, .int v1)]) (zq_d eX11_spread 45 rfl) rfl (by rw [zc_i1]) (Nat.le_of_ble_eq_true rfl) rfl ?_
          refine zr_goto (pc := 90) 6 (zq_d eX11_spread 46 rfl) (by decide) ?_
          exact zr_lo [1, 2, 3, 4, 5, 0] rfl (hrc6_1 v1 (v2 + (1 : Int32)))
  have hlrc6_1 := zr_loop (P := fun (rc6_1 : Int32 → Int32 → Option Int32) => ∀ (v1 : Int32) (v2 : Int32), zq_V G YX11_spread (4, 0, 0) (zq_ei zq_shM z X) 0 0 6 [(0, .ref (zq_ad G 69)), (1, .int a1), (2, .int a2), (3, .int a3), (4, .int v1), (5, .int v2)] [] zq_shM z X (rc6_1 v1 v2)) (fun _ _ => none) (b_X11_spread_6 N X a1 a2 a3) (fun _ _ => zr_none) hbrc6_1 N
  exact zr_lo [2, 3, 4, 5, 1, 0] rfl (hlrc6_1 a2 (0 : Int32))
def b_X11_goOnKnown_143 (N : Nat) (rc143_3 : Int32 → zq_M → Option zq_M) (v7 : Int32) (X8 : zq_M) : Option zq_M :=
  (f_X11_places N X8).bind (fun v9 => if ((32 : Int32) * v9) ≤ v7 then (some X8) else (zq_ck v7 32768 (zq_ck v7 32768 (zq_b (zq_u1 X8 91 (zq_ix v7) (vp_nar .boolean (X8.1 92 (zq_ix v7)))) (fun X10 => rc143_3 (v7 + (1 : Int32)) X10)))))
def k_X11_goOnKnown_141_4 (N : Nat) (X5 : zq_M)  : Option zq_M :=
  zq_loop (fun _ _ => none) (b_X11_goOnKnown_143 N) N (0 : Int32) X5
def b_X11_goOnKnown_64 (N : Nat) (a1 : Int32) (v4 : Int32) (v11 : Int32) (rc53_5 : Int32 → zq_M → Option zq_M) (rc64_6 : Int32 → zq_M → Option zq_M) (v13 : Int32) (X14 : zq_M) : Option zq_M :=
  if (4 : Int32) ≤ v13 then (rc53_5 (v11 + (1 : Int32)) X14) else ((f_X11_mayCome N X14 (v4 / (32 : Int32)) v11 v13).bind (fun v15 => if ¬ v15 = 0 then ((f_X11_moved N X14 (v4 / (32 : Int32)) v11 v13).bind (fun v16 => (f_X11_spread N X14 v16 (zq_irem v4 (32 : Int32)) a1).bind (fun v17 => zq_ck (((32 : Int32) * v16) + v17) 32768 (zq_b (zq_u1 X14 92 (zq_ix (((32 : Int32) * v16) + v17)) (vp_nar .boolean (1 : Int32))) (fun X18 => rc64_6 (v13 + (1 : Int32)) X18))))) else (rc64_6 (v13 + (1 : Int32)) X14)))
def b_X11_goOnKnown_53 (N : Nat) (a1 : Int32) (v4 : Int32) (rc28_2 : Int32 → zq_M → Option zq_M) (rc53_5 : Int32 → zq_M → Option zq_M) (v11 : Int32) (X12 : zq_M) : Option zq_M :=
  if (X12.1 69 0) ≤ v11 then (rc28_2 (v4 + (1 : Int32)) X12) else (zq_loop (fun _ _ => none) (b_X11_goOnKnown_64 N a1 v4 v11 rc53_5) N (0 : Int32) X12)
def b_X11_goOnKnown_28 (N : Nat) (a1 : Int32) (rc28_2 : Int32 → zq_M → Option zq_M) (v4 : Int32) (X5 : zq_M) : Option zq_M :=
  (f_X11_places N X5).bind (fun v6 => if ((32 : Int32) * v6) ≤ v4 then (k_X11_goOnKnown_141_4 N X5) else (zq_ck v4 32768 (if ¬ (X5.1 91 (zq_ix v4)) = 0 then (zq_loop (fun _ _ => none) (b_X11_goOnKnown_53 N a1 v4 rc28_2) N (0 : Int32) X5) else (rc28_2 (v4 + (1 : Int32)) X5))))
def k_X11_goOnKnown_26_7 (N : Nat) (a1 : Int32) (X2 : zq_M)  : Option zq_M :=
  zq_loop (fun _ _ => none) (b_X11_goOnKnown_28 N a1) N (0 : Int32) X2
def b_X11_goOnKnown_2 (N : Nat) (a1 : Int32) (rc2_1 : Int32 → zq_M → Option zq_M) (v1 : Int32) (X2 : zq_M) : Option zq_M :=
  (f_X11_places N X2).bind (fun v3 => if ((32 : Int32) * v3) ≤ v1 then (k_X11_goOnKnown_26_7 N a1 X2) else (zq_ck v1 32768 (zq_b (zq_u1 X2 92 (zq_ix v1) (vp_nar .boolean (0 : Int32))) (fun X19 => rc2_1 (v1 + (1 : Int32)) X19))))
def f_X11_goOnKnown (N : Nat) (X : zq_M) (a1 : Int32) : Option zq_M :=
  zq_loop (fun _ _ => none) (b_X11_goOnKnown_2 N a1) N (0 : Int32) X
set_option maxRecDepth 20000 in
set_option maxHeartbeats 8000000 in
theorem s_X11_goOnKnown (G : zq_G) (N z : Nat) (X : zq_M) (a1 : Int32) : zq_V G YX11_goOnKnown (5, 0, 0) (zq_sv zq_shM z) 0 0 0 (lv_args 0 [.ref (zq_ad G 69), .int a1]) [] zq_shM z X (f_X11_goOnKnown N X a1) := by
  unfold f_X11_goOnKnown
  refine zr_lo (l2 := [(0, .ref (zq_ad G 69)), (1, .int a1)]) [0, 1] rfl ?_
  refine zr_iconst (pc := 0) (zq_d eX11_goOnKnown 0 rfl) zc_i0 ?_
  refine zr_istore_n (pc := 1) (lo2 := [(2, .int (0 : Int32)), (0, .ref (zq_ad G 69)), (1, .int a1)]) (zq_d eX11_goOnKnown 1 rfl) rfl (Nat.le_of_ble_eq_true rfl) rfl ?_
  have hbrc2_1 : ∀ rc2_1 : Int32 → zq_M → Option zq_M, (∀ (v1 : Int32) (X2 : zq_M), zq_V G YX11_goOnKnown (5, 0, 0) (zq_sv zq_shM z) 0 0 2 [(0, .ref (zq_ad G 69)), (1, .int a1), (2, .int v1)] [] zq_shM z X2 (rc2_1 v1 X2)) → ∀ (v1 : Int32) (X2 : zq_M), zq_V G YX11_goOnKnown (5, 0, 0) (zq_sv zq_shM z) 0 0 2 [(0, .ref (zq_ad G 69)), (1, .int a1), (2, .int v1)] [] zq_shM z X2 (b_X11_goOnKnown_2 N a1 rc2_1 v1 X2) := by
    intro rc2_1 hrc2_1 v1 X2
    unfold b_X11_goOnKnown_2
    refine zr_iload_n (pc := 2) (zq_d eX11_goOnKnown 2 rfl) 2 rfl rfl ?_
    refine zr_bipush (pc := 3) (zq_d eX11_goOnKnown 3 rfl) zc_b32 ?_
    refine zr_aload_n (pc := 5) (zq_d eX11_goOnKnown 4 rfl) 0 rfl rfl ?_
    refine zr_Vi (pc := 6) [] (zq_d eX11_goOnKnown 5 rfl) (s_X11_places G N z X2 ) zd_X11_places zl_RX11_340 om_69 rfl rfl rfl rfl (Nat.le_of_ble_eq_true rfl) (Nat.le_of_ble_eq_true rfl) (Nat.le_of_ble_eq_true rfl) ⟨Nat.le_refl _, Nat.le_refl _⟩ (fun v3 => ?_)
    refine zr_imul (pc := 9) (zq_d eX11_goOnKnown 6 rfl) ?_
    refine zr_icmp_ge (pc := 10) 26 (zq_d eX11_goOnKnown 7 rfl) (by decide) (fun _ => ?_) (fun _ => ?_)
    · unfold k_X11_goOnKnown_26_7
      refine zr_iconst (pc := 26) (zq_d eX11_goOnKnown 15 rfl) zc_i0 ?_
      refine zr_istore_n (pc := 27) (lo2 := [(2, .int (0 : Int32)), (0, .ref (zq_ad G 69)), (1, .int a1)]) (zq_d eX11_goOnKnown 16 rfl) rfl (Nat.le_of_ble_eq_true rfl) rfl ?_
      have hbrc28_2 : ∀ rc28_2 : Int32 → zq_M → Option zq_M, (∀ (v4 : Int32) (X5 : zq_M), zq_V G YX11_goOnKnown (5, 0, 0) (zq_sv zq_shM z) 0 0 28 [(0, .ref (zq_ad G 69)), (1, .int a1), (2, .int v4)] [] zq_shM z X5 (rc28_2 v4 X5)) → ∀ (v4 : Int32) (X5 : zq_M), zq_V G YX11_goOnKnown (5, 0, 0) (zq_sv zq_shM z) 0 0 28 [(0, .ref (zq_ad G 69)), (1, .int a1), (2, .int v4)] [] zq_shM z X5 (b_X11_goOnKnown_28 N a1 rc28_2 v4 X5) := by
        intro rc28_2 hrc28_2 v4 X5
        unfold b_X11_goOnKnown_28
        refine zr_iload_n (pc := 28) (zq_d eX11_goOnKnown 17 rfl) 2 rfl rfl ?_
        refine zr_bipush (pc := 29) (zq_d eX11_goOnKnown 18 rfl) zc_b32 ?_
        refine zr_aload_n (pc := 31) (zq_d eX11_goOnKnown 19 rfl) 0 rfl rfl ?_
        refine zr_Vi (pc := 32) [] (zq_d eX11_goOnKnown 20 rfl) (s_X11_places G N z X5 ) zd_X11_places zl_RX11_340 om_69 rfl rfl rfl rfl (Nat.le_of_ble_eq_true rfl) (Nat.le_of_ble_eq_true rfl) (Nat.le_of_ble_eq_true rfl) ⟨Nat.le_refl _, Nat.le_refl _⟩ (fun v6 => ?_)
        refine zr_imul (pc := 35) (zq_d eX11_goOnKnown 21 rfl) ?_
        refine zr_icmp_ge (pc := 36) 141 (zq_d eX11_goOnKnown 22 rfl) (by decide) (fun _ => ?_) (fun _ => ?_)
        · unfold k_X11_goOnKnown_141_4
          refine zr_iconst (pc := 141) (zq_d eX11_goOnKnown 78 rfl) zc_i0 ?_
          refine zr_istore_n (pc := 142) (lo2 := [(2, .int (0 : Int32)), (0, .ref (zq_ad G 69)), (1, .int a1)]) (zq_d eX11_goOnKnown 79 rfl) rfl (Nat.le_of_ble_eq_true rfl) rfl ?_
          have hbrc143_3 : ∀ rc143_3 : Int32 → zq_M → Option zq_M, (∀ (v7 : Int32) (X8 : zq_M), zq_V G YX11_goOnKnown (5, 0, 0) (zq_sv zq_shM z) 0 0 143 [(0, .ref (zq_ad G 69)), (2, .int v7)] [] zq_shM z X8 (rc143_3 v7 X8)) → ∀ (v7 : Int32) (X8 : zq_M), zq_V G YX11_goOnKnown (5, 0, 0) (zq_sv zq_shM z) 0 0 143 [(0, .ref (zq_ad G 69)), (2, .int v7)] [] zq_shM z X8 (b_X11_goOnKnown_143 N rc143_3 v7 X8) := by
            intro rc143_3 hrc143_3 v7 X8
            unfold b_X11_goOnKnown_143
            refine zr_iload_n (pc := 143) (zq_d eX11_goOnKnown 80 rfl) 1 rfl rfl ?_
            refine zr_bipush (pc := 144) (zq_d eX11_goOnKnown 81 rfl) zc_b32 ?_
            refine zr_aload_n (pc := 146) (zq_d eX11_goOnKnown 82 rfl) 0 rfl rfl ?_
            refine zr_Vi (pc := 147) [] (zq_d eX11_goOnKnown 83 rfl) (s_X11_places G N z X8 ) zd_X11_places zl_RX11_340 om_69 rfl rfl rfl rfl (Nat.le_of_ble_eq_true rfl) (Nat.le_of_ble_eq_true rfl) (Nat.le_of_ble_eq_true rfl) ⟨Nat.le_refl _, Nat.le_refl _⟩ (fun v9 => ?_)
            refine zr_imul (pc := 150) (zq_d eX11_goOnKnown 84 rfl) ?_
            refine zr_icmp_ge (pc := 151) 172 (zq_d eX11_goOnKnown 85 rfl) (by decide) (fun _ => ?_) (fun _ => ?_)
            · exact zr_vreturn (pc := 172) (zq_d eX11_goOnKnown 96 rfl) rfl rfl (Nat.zero_le _) (Nat.zero_le _)
            · refine zr_aload_n (pc := 154) (zq_d eX11_goOnKnown 86 rfl) 0 rfl rfl ?_
              refine zr_getC (pc := 155) (zq_d eX11_goOnKnown 87 rfl) zf_RX11_115 km_69_34 ?_
              refine zr_iload_n (pc := 158) (zq_d eX11_goOnKnown 88 rfl) 1 rfl rfl ?_
              refine zr_aload_n (pc := 159) (zq_d eX11_goOnKnown 89 rfl) 0 rfl rfl ?_
              refine zr_getC (pc := 160) (zq_d eX11_goOnKnown 90 rfl) zf_RX11_118 km_69_35 ?_
              refine zr_iload_n (pc := 163) (zq_d eX11_goOnKnown 91 rfl) 1 rfl rfl ?_
              refine zr_zald (pc := 164) (zq_d eX11_goOnKnown 92 rfl) am_92 ?_
              refine zr_zast (pc := 165) (zq_d eX11_goOnKnown 93 rfl) am_91 (fun X10 => ?_)
              refine zr_iinc (pc := 166) (j := 1) (v := (v7 + (1 : Int32))) (lo2 := [(2, .int (v7 + (1 : Int32))), (0, .ref (zq_ad G 69))]) (zq_d eX11_goOnKnown 94 rfl) rfl (by rw [zc_i1]) (Nat.le_of_ble_eq_true rfl) rfl ?_
              refine zr_goto (pc := 169) 143 (zq_d eX11_goOnKnown 95 rfl) (by decide) ?_
              exact zr_lo [1, 0] rfl (hrc143_3 (v7 + (1 : Int32)) X10)
          have hlrc143_3 := zr_loop (P := fun (rc143_3 : Int32 → zq_M → Option zq_M) => ∀ (v7 : Int32) (X8 : zq_M), zq_V G YX11_goOnKnown (5, 0, 0) (zq_sv zq_shM z) 0 0 143 [(0, .ref (zq_ad G 69)), (2, .int v7)] [] zq_shM z X8 (rc143_3 v7 X8)) (fun _ _ => none) (b_X11_goOnKnown_143 N) (fun _ _ => zr_none) hbrc143_3 N
          exact zr_lo [1, 0] rfl (hlrc143_3 (0 : Int32) X5)
        · refine zr_aload_n (pc := 39) (zq_d eX11_goOnKnown 23 rfl) 0 rfl rfl ?_
          refine zr_getC (pc := 40) (zq_d eX11_goOnKnown 24 rfl) zf_RX11_115 km_69_34 ?_
          refine zr_iload_n (pc := 43) (zq_d eX11_goOnKnown 25 rfl) 2 rfl rfl ?_
          refine zr_zald (pc := 44) (zq_d eX11_goOnKnown 26 rfl) am_91 ?_
          refine zr_if_ne (pc := 45) 51 (zq_d eX11_goOnKnown 27 rfl) (by decide) (fun _ => ?_) (fun _ => ?_)
          · refine zr_iconst (pc := 51) (zq_d eX11_goOnKnown 29 rfl) zc_i0 ?_
            refine zr_istore_n (pc := 52) (lo2 := [(3, .int (0 : Int32)), (0, .ref (zq_ad G 69)), (1, .int a1), (2, .int v4)]) (zq_d eX11_goOnKnown 30 rfl) rfl (Nat.le_of_ble_eq_true rfl) rfl ?_
            have hbrc53_5 : ∀ rc53_5 : Int32 → zq_M → Option zq_M, (∀ (v11 : Int32) (X12 : zq_M), zq_V G YX11_goOnKnown (5, 0, 0) (zq_sv zq_shM z) 0 0 53 [(0, .ref (zq_ad G 69)), (1, .int a1), (2, .int v4), (3, .int v11)] [] zq_shM z X12 (rc53_5 v11 X12)) → ∀ (v11 : Int32) (X12 : zq_M), zq_V G YX11_goOnKnown (5, 0, 0) (zq_sv zq_shM z) 0 0 53 [(0, .ref (zq_ad G 69)), (1, .int a1), (2, .int v4), (3, .int v11)] [] zq_shM z X12 (b_X11_goOnKnown_53 N a1 v4 rc28_2 rc53_5 v11 X12) := by
              intro rc53_5 hrc53_5 v11 X12
              unfold b_X11_goOnKnown_53
              refine zr_iload_n (pc := 53) (zq_d eX11_goOnKnown 31 rfl) 3 rfl rfl ?_
              refine zr_aload_n (pc := 54) (zq_d eX11_goOnKnown 32 rfl) 0 rfl rfl ?_
              refine zr_getI (pc := 55) (zq_d eX11_goOnKnown 33 rfl) zf_RX11_7 km_69_0 ?_
              refine zr_icmp_ge (pc := 58) 135 (zq_d eX11_goOnKnown 34 rfl) (by decide) (fun _ => ?_) (fun _ => ?_)
              · refine zr_iinc (pc := 135) (j := 2) (v := (v4 + (1 : Int32))) (lo2 := [(2, .int (v4 + (1 : Int32))), (0, .ref (zq_ad G 69)), (1, .int a1), (3, .int v11)]) (zq_d eX11_goOnKnown 76 rfl) rfl (by rw [zc_i1]) (Nat.le_of_ble_eq_true rfl) rfl ?_
                refine zr_goto (pc := 138) 28 (zq_d eX11_goOnKnown 77 rfl) (by decide) ?_
                exact zr_lo [1, 2, 0] rfl (hrc28_2 (v4 + (1 : Int32)) X12)
              · refine zr_iconst (pc := 61) (zq_d eX11_goOnKnown 35 rfl) zc_i0 ?_
                refine zr_istore (pc := 62) (lo2 := [(4, .int (0 : Int32)), (0, .ref (zq_ad G 69)), (1, .int a1), (2, .int v4), (3, .int v11)]) (zq_d eX11_goOnKnown 36 rfl) (Nat.le_of_ble_eq_true rfl) rfl ?_
                have hbrc64_6 : ∀ rc64_6 : Int32 → zq_M → Option zq_M, (∀ (v13 : Int32) (X14 : zq_M), zq_V G YX11_goOnKnown (5, 0, 0) (zq_sv zq_shM z) 0 0 64 [(0, .ref (zq_ad G 69)), (1, .int a1), (2, .int v4), (3, .int v11), (4, .int v13)] [] zq_shM z X14 (rc64_6 v13 X14)) → ∀ (v13 : Int32) (X14 : zq_M), zq_V G YX11_goOnKnown (5, 0, 0) (zq_sv zq_shM z) 0 0 64 [(0, .ref (zq_ad G 69)), (1, .int a1), (2, .int v4), (3, .int v11), (4, .int v13)] [] zq_shM z X14 (b_X11_goOnKnown_64 N a1 v4 v11 rc53_5 rc64_6 v13 X14) := by
                  intro rc64_6 hrc64_6 v13 X14
                  unfold b_X11_goOnKnown_64
                  refine zr_iload (pc := 64) (zq_d eX11_goOnKnown 37 rfl) 4 rfl ?_
                  refine zr_iconst (pc := 66) (zq_d eX11_goOnKnown 38 rfl) zc_i4 ?_
                  refine zr_icmp_ge (pc := 67) 129 (zq_d eX11_goOnKnown 39 rfl) (by decide) (fun _ => ?_) (fun _ => ?_)
                  · refine zr_iinc (pc := 129) (j := 3) (v := (v11 + (1 : Int32))) (lo2 := [(3, .int (v11 + (1 : Int32))), (0, .ref (zq_ad G 69)), (1, .int a1), (2, .int v4), (4, .int v13)]) (zq_d eX11_goOnKnown 74 rfl) rfl (by rw [zc_i1]) (Nat.le_of_ble_eq_true rfl) rfl ?_
                    refine zr_goto (pc := 132) 53 (zq_d eX11_goOnKnown 75 rfl) (by decide) ?_
                    exact zr_lo [1, 2, 3, 0] rfl (hrc53_5 (v11 + (1 : Int32)) X14)
                  · refine zr_aload_n (pc := 70) (zq_d eX11_goOnKnown 40 rfl) 0 rfl rfl ?_
                    refine zr_iload_n (pc := 71) (zq_d eX11_goOnKnown 41 rfl) 2 rfl rfl ?_
                    refine zr_bipush (pc := 72) (zq_d eX11_goOnKnown 42 rfl) zc_b32 ?_
                    refine zr_idivk (pc := 74) (zq_d eX11_goOnKnown 43 rfl) (by decide) ?_
                    refine zr_iload_n (pc := 75) (zq_d eX11_goOnKnown 44 rfl) 3 rfl rfl ?_
                    refine zr_iload (pc := 76) (zq_d eX11_goOnKnown 45 rfl) 4 rfl ?_
                    refine zr_Vi (pc := 78) [_, _, _] (zq_d eX11_goOnKnown 46 rfl) (s_X11_mayCome G N z X14 _ _ _) zd_X11_mayCome zl_RX11_343 om_69 rfl rfl rfl rfl (Nat.le_of_ble_eq_true rfl) (Nat.le_of_ble_eq_true rfl) (Nat.le_of_ble_eq_true rfl) ⟨Nat.le_refl _, Nat.le_refl _⟩ (fun v15 => ?_)
                    refine zr_if_ne (pc := 81) 87 (zq_d eX11_goOnKnown 47 rfl) (by decide) (fun _ => ?_) (fun _ => ?_)
                    · refine zr_aload_n (pc := 87) (zq_d eX11_goOnKnown 49 rfl) 0 rfl rfl ?_
                      refine zr_iload_n (pc := 88) (zq_d eX11_goOnKnown 50 rfl) 2 rfl rfl ?_
                      refine zr_bipush (pc := 89) (zq_d eX11_goOnKnown 51 rfl) zc_b32 ?_
                      refine zr_idivk (pc := 91) (zq_d eX11_goOnKnown 52 rfl) (by decide) ?_
                      refine zr_iload_n (pc := 92) (zq_d eX11_goOnKnown 53 rfl) 3 rfl rfl ?_
                      refine zr_iload (pc := 93) (zq_d eX11_goOnKnown 54 rfl) 4 rfl ?_
                      refine zr_Vi (pc := 95) [_, _, _] (zq_d eX11_goOnKnown 55 rfl) (s_X11_moved G N z X14 _ _ _) zd_X11_moved zl_RX11_229 om_69 rfl rfl rfl rfl (Nat.le_of_ble_eq_true rfl) (Nat.le_of_ble_eq_true rfl) (Nat.le_of_ble_eq_true rfl) ⟨Nat.le_refl _, Nat.le_refl _⟩ (fun v16 => ?_)
                      refine zr_istore (pc := 98) (lo2 := [(5, .int v16), (0, .ref (zq_ad G 69)), (1, .int a1), (2, .int v4), (3, .int v11), (4, .int v13)]) (zq_d eX11_goOnKnown 56 rfl) (Nat.le_of_ble_eq_true rfl) rfl ?_
                      refine zr_aload_n (pc := 100) (zq_d eX11_goOnKnown 57 rfl) 1 rfl rfl ?_
                      refine zr_getC (pc := 101) (zq_d eX11_goOnKnown 58 rfl) zf_RX11_118 km_69_35 ?_
                      refine zr_bipush (pc := 104) (zq_d eX11_goOnKnown 59 rfl) zc_b32 ?_
                      refine zr_iload (pc := 106) (zq_d eX11_goOnKnown 60 rfl) 0 rfl ?_
                      refine zr_imul (pc := 108) (zq_d eX11_goOnKnown 61 rfl) ?_
                      refine zr_aload_n (pc := 109) (zq_d eX11_goOnKnown 62 rfl) 1 rfl rfl ?_
                      refine zr_iload (pc := 110) (zq_d eX11_goOnKnown 63 rfl) 0 rfl ?_
                      refine zr_iload_n (pc := 112) (zq_d eX11_goOnKnown 64 rfl) 3 rfl rfl ?_
                      refine zr_bipush (pc := 113) (zq_d eX11_goOnKnown 65 rfl) zc_b32 ?_
                      refine zr_iremk (pc := 115) (zq_d eX11_goOnKnown 66 rfl) (by decide) ?_
                      refine zr_iload_n (pc := 116) (zq_d eX11_goOnKnown 67 rfl) 2 rfl rfl ?_
                      refine zr_Vi (pc := 117) [_, _, _] (zq_d eX11_goOnKnown 68 rfl) (s_X11_spread G N z X14 _ _ _) zd_X11_spread zl_RX11_367 om_69 rfl rfl rfl rfl (Nat.le_of_ble_eq_true rfl) (Nat.le_of_ble_eq_true rfl) (Nat.le_of_ble_eq_true rfl) ⟨Nat.le_refl _, Nat.le_refl _⟩ (fun v17 => ?_)
                      refine zr_iadd (pc := 120) (zq_d eX11_goOnKnown 69 rfl) ?_
                      refine zr_iconst (pc := 121) (zq_d eX11_goOnKnown 70 rfl) zc_i1 ?_
                      refine zr_zast (pc := 122) (zq_d eX11_goOnKnown 71 rfl) am_92 (fun X18 => ?_)
                      refine zr_iinc (pc := 123) (j := 5) (v := (v13 + (1 : Int32))) (lo2 := [(4, .int (v13 + (1 : Int32))), (5, .int v16), (0, .ref (zq_ad G 69)), (1, .int a1), (2, .int v4), (3, .int v11)]) (zq_d eX11_goOnKnown 72 rfl) rfl (by rw [zc_i1]) (Nat.le_of_ble_eq_true rfl) rfl ?_
                      refine zr_goto (pc := 126) 64 (zq_d eX11_goOnKnown 73 rfl) (by decide) ?_
                      exact zr_lo [2, 3, 4, 5, 0] rfl (hrc64_6 (v13 + (1 : Int32)) X18)
                    · refine zr_goto (pc := 84) 123 (zq_d eX11_goOnKnown 48 rfl) (by decide) ?_
                      refine zr_iinc (pc := 123) (j := 4) (v := (v13 + (1 : Int32))) (lo2 := [(4, .int (v13 + (1 : Int32))), (0, .ref (zq_ad G 69)), (1, .int a1), (2, .int v4), (3, .int v11)]) (zq_d eX11_goOnKnown 72 rfl) rfl (by rw [zc_i1]) (Nat.le_of_ble_eq_true rfl) rfl ?_
                      refine zr_goto (pc := 126) 64 (zq_d eX11_goOnKnown 73 rfl) (by decide) ?_
                      exact zr_lo [1, 2, 3, 4, 0] rfl (hrc64_6 (v13 + (1 : Int32)) X14)
                have hlrc64_6 := zr_loop (P := fun (rc64_6 : Int32 → zq_M → Option zq_M) => ∀ (v13 : Int32) (X14 : zq_M), zq_V G YX11_goOnKnown (5, 0, 0) (zq_sv zq_shM z) 0 0 64 [(0, .ref (zq_ad G 69)), (1, .int a1), (2, .int v4), (3, .int v11), (4, .int v13)] [] zq_shM z X14 (rc64_6 v13 X14)) (fun _ _ => none) (b_X11_goOnKnown_64 N a1 v4 v11 rc53_5) (fun _ _ => zr_none) hbrc64_6 N
                exact zr_lo [1, 2, 3, 4, 0] rfl (hlrc64_6 (0 : Int32) X12)
            have hlrc53_5 := zr_loop (P := fun (rc53_5 : Int32 → zq_M → Option zq_M) => ∀ (v11 : Int32) (X12 : zq_M), zq_V G YX11_goOnKnown (5, 0, 0) (zq_sv zq_shM z) 0 0 53 [(0, .ref (zq_ad G 69)), (1, .int a1), (2, .int v4), (3, .int v11)] [] zq_shM z X12 (rc53_5 v11 X12)) (fun _ _ => none) (b_X11_goOnKnown_53 N a1 v4 rc28_2) (fun _ _ => zr_none) hbrc53_5 N
            exact zr_lo [1, 2, 3, 0] rfl (hlrc53_5 (0 : Int32) X5)
          · refine zr_goto (pc := 48) 135 (zq_d eX11_goOnKnown 28 rfl) (by decide) ?_
            refine zr_iinc (pc := 135) (j := 2) (v := (v4 + (1 : Int32))) (lo2 := [(2, .int (v4 + (1 : Int32))), (0, .ref (zq_ad G 69)), (1, .int a1)]) (zq_d eX11_goOnKnown 76 rfl) rfl (by rw [zc_i1]) (Nat.le_of_ble_eq_true rfl) rfl ?_
            refine zr_goto (pc := 138) 28 (zq_d eX11_goOnKnown 77 rfl) (by decide) ?_
            exact zr_lo [1, 2, 0] rfl (hrc28_2 (v4 + (1 : Int32)) X5)
      have hlrc28_2 := zr_loop (P := fun (rc28_2 : Int32 → zq_M → Option zq_M) => ∀ (v4 : Int32) (X5 : zq_M), zq_V G YX11_goOnKnown (5, 0, 0) (zq_sv zq_shM z) 0 0 28 [(0, .ref (zq_ad G 69)), (1, .int a1), (2, .int v4)] [] zq_shM z X5 (rc28_2 v4 X5)) (fun _ _ => none) (b_X11_goOnKnown_28 N a1) (fun _ _ => zr_none) hbrc28_2 N
      exact zr_lo [1, 2, 0] rfl (hlrc28_2 (0 : Int32) X2)
    · refine zr_aload_n (pc := 13) (zq_d eX11_goOnKnown 8 rfl) 0 rfl rfl ?_
      refine zr_getC (pc := 14) (zq_d eX11_goOnKnown 9 rfl) zf_RX11_118 km_69_35 ?_
      refine zr_iload_n (pc := 17) (zq_d eX11_goOnKnown 10 rfl) 2 rfl rfl ?_
      refine zr_iconst (pc := 18) (zq_d eX11_goOnKnown 11 rfl) zc_i0 ?_
      refine zr_zast (pc := 19) (zq_d eX11_goOnKnown 12 rfl) am_92 (fun X19 => ?_)
      refine zr_iinc (pc := 20) (j := 2) (v := (v1 + (1 : Int32))) (lo2 := [(2, .int (v1 + (1 : Int32))), (0, .ref (zq_ad G 69)), (1, .int a1)]) (zq_d eX11_goOnKnown 13 rfl) rfl (by rw [zc_i1]) (Nat.le_of_ble_eq_true rfl) rfl ?_
      refine zr_goto (pc := 23) 2 (zq_d eX11_goOnKnown 14 rfl) (by decide) ?_
      exact zr_lo [1, 2, 0] rfl (hrc2_1 (v1 + (1 : Int32)) X19)
  have hlrc2_1 := zr_loop (P := fun (rc2_1 : Int32 → zq_M → Option zq_M) => ∀ (v1 : Int32) (X2 : zq_M), zq_V G YX11_goOnKnown (5, 0, 0) (zq_sv zq_shM z) 0 0 2 [(0, .ref (zq_ad G 69)), (1, .int a1), (2, .int v1)] [] zq_shM z X2 (rc2_1 v1 X2)) (fun _ _ => none) (b_X11_goOnKnown_2 N a1) (fun _ _ => zr_none) hbrc2_1 N
  exact zr_lo [1, 2, 0] rfl (hlrc2_1 (0 : Int32) X)
def k_X11_fewestBy_197_5 (N : Nat) (v9 : Int32) (X10 : zq_M) (rc113_3 : Int32 → zq_M → Option (Int32 × zq_M))  : Option (Int32 × zq_M) :=
  if (6 : Int32) ≤ v9 then (rc113_3 (v9 + (1 : Int32)) X10) else ((f_X11_goOnKnown N X10 (((X10.1 69 2) + v9) + (1 : Int32))).bind (fun X13 => rc113_3 (v9 + (1 : Int32)) X13))
def b_X11_fewestBy_123 (N : Nat) (a2 : Int32) (a3 : Int32) (v9 : Int32) (X10 : zq_M) (rc113_3 : Int32 → zq_M → Option (Int32 × zq_M)) (rc123_4 : Int32 → Option (Int32 × zq_M)) (v11 : Int32) : Option (Int32 × zq_M) :=
  (f_X11_places N X10).bind (fun v12 => if ((32 : Int32) * v12) ≤ v11 then (k_X11_fewestBy_197_5 N v9 X10 rc113_3) else (zq_ck v11 32768 (if (X10.1 91 (zq_ix v11)) = 0 then (rc123_4 (v11 + (1 : Int32))) else (if 0 ≤ a2 then ((f_X11_has N X10 v11 a2).bind (fun v14 => if v14 = 0 then (rc123_4 (v11 + (1 : Int32))) else ((f_X11_has N X10 v11 a3).bind (fun v15 => if ¬ v15 = 0 then (rc123_4 (v11 + (1 : Int32))) else (some (v9, X10)))))) else (if ¬ (zq_irem v11 (32 : Int32)) = ((zq_shl (1 : Int32) (X10.1 69 0)) - (1 : Int32)) then (rc123_4 (v11 + (1 : Int32))) else (some (v9, X10)))))))
def b_X11_fewestBy_113 (N : Nat) (a2 : Int32) (a3 : Int32) (rc113_3 : Int32 → zq_M → Option (Int32 × zq_M)) (v9 : Int32) (X10 : zq_M) : Option (Int32 × zq_M) :=
  if (7 : Int32) ≤ v9 then (some ((-5 : Int32), X10)) else (zq_loop (fun _ => none) (b_X11_fewestBy_123 N a2 a3 v9 X10 rc113_3) N (0 : Int32))
def k_X11_fewestBy_82_6 (N : Nat) (a2 : Int32) (a3 : Int32) (v2 : Int32) (X5 : zq_M)  : Option (Int32 × zq_M) :=
  (f_X11_spread N X5 (X5.1 69 1) v2 (X5.1 69 2)).bind (fun v7 => zq_ck (((32 : Int32) * (X5.1 69 1)) + v7) 32768 (zq_b (zq_u1 X5 91 (zq_ix (((32 : Int32) * (X5.1 69 1)) + v7)) (vp_nar .boolean (1 : Int32))) (fun X8 => zq_loop (fun _ _ => none) (b_X11_fewestBy_113 N a2 a3) N (0 : Int32) X8)))
def b_X11_fewestBy_56 (N : Nat) (a2 : Int32) (a3 : Int32) (v2 : Int32) (rc56_2 : Int32 → zq_M → Option (Int32 × zq_M)) (v4 : Int32) (X5 : zq_M) : Option (Int32 × zq_M) :=
  (f_X11_places N X5).bind (fun v6 => if ((32 : Int32) * v6) ≤ v4 then (k_X11_fewestBy_82_6 N a2 a3 v2 X5) else (zq_ck v4 32768 (zq_b (zq_u1 X5 91 (zq_ix v4) (vp_nar .boolean (0 : Int32))) (fun X16 => rc56_2 (v4 + (1 : Int32)) X16))))
def k_X11_fewestBy_53_7 (N : Nat) (a2 : Int32) (a3 : Int32) (X1 : zq_M) (v2 : Int32)  : Option (Int32 × zq_M) :=
  zq_loop (fun _ _ => none) (b_X11_fewestBy_56 N a2 a3 v2) N (0 : Int32) X1
def b_X11_fewestBy_10 (N : Nat) (a1 : Int32) (a2 : Int32) (a3 : Int32) (X1 : zq_M) (rc10_1 : Int32 → Int32 → Option (Int32 × zq_M)) (v2 : Int32) (v3 : Int32) : Option (Int32 × zq_M) :=
  if (X1.1 69 0) ≤ v3 then (k_X11_fewestBy_53_7 N a2 a3 X1 v2) else (zq_ck v3 5 ((f_X11_has N X1 (X1.1 72 (zq_ix v3)) a1).bind (fun v17 => if v17 = 0 then (rc10_1 (v2 ||| (0 : Int32)) (v3 + (1 : Int32))) else (rc10_1 (v2 ||| (zq_shl (1 : Int32) v3)) (v3 + (1 : Int32))))))
def f_X11_fewestBy (N : Nat) (X : zq_M) (a1 : Int32) (a2 : Int32) (a3 : Int32) : Option (Int32 × zq_M) :=
  (f_X11_layComings N X).bind (fun X1 => zq_loop (fun _ _ => none) (b_X11_fewestBy_10 N a1 a2 a3 X1) N (0 : Int32) (0 : Int32))
set_option maxRecDepth 20000 in
set_option maxHeartbeats 8000000 in
theorem s_X11_fewestBy (G : zq_G) (N z : Nat) (X : zq_M) (a1 : Int32) (a2 : Int32) (a3 : Int32) : zq_V G YX11_fewestBy (6, 0, 0) (zq_si zq_shM z) 0 0 0 (lv_args 0 [.ref (zq_ad G 69), .int a1, .int a2, .int a3]) [] zq_shM z X (f_X11_fewestBy N X a1 a2 a3) := by
  unfold f_X11_fewestBy
  refine zr_lo (l2 := [(0, .ref (zq_ad G 69)), (1, .int a1), (2, .int a2), (3, .int a3)]) [0, 1, 2, 3] rfl ?_
  refine zr_aload_n (pc := 0) (zq_d eX11_fewestBy 0 rfl) 0 rfl rfl ?_
  refine zr_Vv (pc := 1) [] (zq_d eX11_fewestBy 1 rfl) (s_X11_layComings G N z X ) zd_X11_layComings zl_RX11_355 om_69 rfl rfl rfl rfl (Nat.le_of_ble_eq_true rfl) (Nat.le_of_ble_eq_true rfl) (Nat.le_of_ble_eq_true rfl) ⟨Nat.le_refl _, Nat.le_refl _⟩ (fun X1 => ?_)
  refine zr_iconst (pc := 4) (zq_d eX11_fewestBy 2 rfl) zc_i0 ?_
  refine zr_istore (pc := 5) (lo2 := [(4, .int (0 : Int32)), (0, .ref (zq_ad G 69)), (1, .int a1), (2, .int a2), (3, .int a3)]) (zq_d eX11_fewestBy 3 rfl) (Nat.le_of_ble_eq_true rfl) rfl ?_
  refine zr_iconst (pc := 7) (zq_d eX11_fewestBy 4 rfl) zc_i0 ?_
  refine zr_istore (pc := 8) (lo2 := [(5, .int (0 : Int32)), (4, .int (0 : Int32)), (0, .ref (zq_ad G 69)), (1, .int a1), (2, .int a2), (3, .int a3)]) (zq_d eX11_fewestBy 5 rfl) (Nat.le_of_ble_eq_true rfl) rfl ?_
  have hbrc10_1 : ∀ rc10_1 : Int32 → Int32 → Option (Int32 × zq_M), (∀ (v2 : Int32) (v3 : Int32), zq_V G YX11_fewestBy (6, 0, 0) (zq_si zq_shM z) 0 0 10 [(0, .ref (zq_ad G 69)), (1, .int a1), (2, .int a2), (3, .int a3), (4, .int v2), (5, .int v3)] [] zq_shM z X1 (rc10_1 v2 v3)) → ∀ (v2 : Int32) (v3 : Int32), zq_V G YX11_fewestBy (6, 0, 0) (zq_si zq_shM z) 0 0 10 [(0, .ref (zq_ad G 69)), (1, .int a1), (2, .int a2), (3, .int a3), (4, .int v2), (5, .int v3)] [] zq_shM z X1 (b_X11_fewestBy_10 N a1 a2 a3 X1 rc10_1 v2 v3) := by
    intro rc10_1 hrc10_1 v2 v3
    unfold b_X11_fewestBy_10
    refine zr_iload (pc := 10) (zq_d eX11_fewestBy 6 rfl) 5 rfl ?_
    refine zr_aload_n (pc := 12) (zq_d eX11_fewestBy 7 rfl) 0 rfl rfl ?_
    refine zr_getI (pc := 13) (zq_d eX11_fewestBy 8 rfl) zf_RX11_7 km_69_0 ?_
    refine zr_icmp_ge (pc := 16) 53 (zq_d eX11_fewestBy 9 rfl) (by decide) (fun _ => ?_) (fun _ => ?_)
    · unfold k_X11_fewestBy_53_7
      refine zr_iconst (pc := 53) (zq_d eX11_fewestBy 28 rfl) zc_i0 ?_
      refine zr_istore (pc := 54) (lo2 := [(5, .int (0 : Int32)), (0, .ref (zq_ad G 69)), (1, .int a1), (2, .int a2), (3, .int a3), (4, .int v2)]) (zq_d eX11_fewestBy 29 rfl) (Nat.le_of_ble_eq_true rfl) rfl ?_
      have hbrc56_2 : ∀ rc56_2 : Int32 → zq_M → Option (Int32 × zq_M), (∀ (v4 : Int32) (X5 : zq_M), zq_V G YX11_fewestBy (6, 0, 0) (zq_si zq_shM z) 0 0 56 [(0, .ref (zq_ad G 69)), (2, .int a2), (3, .int a3), (4, .int v2), (5, .int v4)] [] zq_shM z X5 (rc56_2 v4 X5)) → ∀ (v4 : Int32) (X5 : zq_M), zq_V G YX11_fewestBy (6, 0, 0) (zq_si zq_shM z) 0 0 56 [(0, .ref (zq_ad G 69)), (2, .int a2), (3, .int a3), (4, .int v2), (5, .int v4)] [] zq_shM z X5 (b_X11_fewestBy_56 N a2 a3 v2 rc56_2 v4 X5) := by
        intro rc56_2 hrc56_2 v4 X5
        unfold b_X11_fewestBy_56
        refine zr_iload (pc := 56) (zq_d eX11_fewestBy 30 rfl) 4 rfl ?_
        refine zr_bipush (pc := 58) (zq_d eX11_fewestBy 31 rfl) zc_b32 ?_
        refine zr_aload_n (pc := 60) (zq_d eX11_fewestBy 32 rfl) 0 rfl rfl ?_
        refine zr_Vi (pc := 61) [] (zq_d eX11_fewestBy 33 rfl) (s_X11_places G N z X5 ) zd_X11_places zl_RX11_340 om_69 rfl rfl rfl rfl (Nat.le_of_ble_eq_true rfl) (Nat.le_of_ble_eq_true rfl) (Nat.le_of_ble_eq_true rfl) ⟨Nat.le_refl _, Nat.le_refl _⟩ (fun v6 => ?_)
        refine zr_imul (pc := 64) (zq_d eX11_fewestBy 34 rfl) ?_
        refine zr_icmp_ge (pc := 65) 82 (zq_d eX11_fewestBy 35 rfl) (by decide) (fun _ => ?_) (fun _ => ?_)
        · unfold k_X11_fewestBy_82_6
          refine zr_aload_n (pc := 82) (zq_d eX11_fewestBy 43 rfl) 0 rfl rfl ?_
          refine zr_getC (pc := 83) (zq_d eX11_fewestBy 44 rfl) zf_RX11_115 km_69_34 ?_
          refine zr_bipush (pc := 86) (zq_d eX11_fewestBy 45 rfl) zc_b32 ?_
          refine zr_aload_n (pc := 88) (zq_d eX11_fewestBy 46 rfl) 0 rfl rfl ?_
          refine zr_getI (pc := 89) (zq_d eX11_fewestBy 47 rfl) zf_RX11_13 km_69_1 ?_
          refine zr_imul (pc := 92) (zq_d eX11_fewestBy 48 rfl) ?_
          refine zr_aload_n (pc := 93) (zq_d eX11_fewestBy 49 rfl) 0 rfl rfl ?_
          refine zr_aload_n (pc := 94) (zq_d eX11_fewestBy 50 rfl) 0 rfl rfl ?_
          refine zr_getI (pc := 95) (zq_d eX11_fewestBy 51 rfl) zf_RX11_13 km_69_1 ?_
          refine zr_iload (pc := 98) (zq_d eX11_fewestBy 52 rfl) 3 rfl ?_
          refine zr_aload_n (pc := 100) (zq_d eX11_fewestBy 53 rfl) 0 rfl rfl ?_
          refine zr_getI (pc := 101) (zq_d eX11_fewestBy 54 rfl) zf_RX11_16 km_69_2 ?_
          refine zr_Vi (pc := 104) [_, _, _] (zq_d eX11_fewestBy 55 rfl) (s_X11_spread G N z X5 _ _ _) zd_X11_spread zl_RX11_367 om_69 rfl rfl rfl rfl (Nat.le_of_ble_eq_true rfl) (Nat.le_of_ble_eq_true rfl) (Nat.le_of_ble_eq_true rfl) ⟨Nat.le_refl _, Nat.le_refl _⟩ (fun v7 => ?_)
          refine zr_iadd (pc := 107) (zq_d eX11_fewestBy 56 rfl) ?_
          refine zr_iconst (pc := 108) (zq_d eX11_fewestBy 57 rfl) zc_i1 ?_
          refine zr_zast (pc := 109) (zq_d eX11_fewestBy 58 rfl) am_91 (fun X8 => ?_)
          refine zr_iconst (pc := 110) (zq_d eX11_fewestBy 59 rfl) zc_i0 ?_
          refine zr_istore (pc := 111) (lo2 := [(5, .int (0 : Int32)), (0, .ref (zq_ad G 69)), (2, .int a2), (3, .int a3), (4, .int v2)]) (zq_d eX11_fewestBy 60 rfl) (Nat.le_of_ble_eq_true rfl) rfl ?_
          have hbrc113_3 : ∀ rc113_3 : Int32 → zq_M → Option (Int32 × zq_M), (∀ (v9 : Int32) (X10 : zq_M), zq_V G YX11_fewestBy (6, 0, 0) (zq_si zq_shM z) 0 0 113 [(0, .ref (zq_ad G 69)), (2, .int a2), (3, .int a3), (5, .int v9)] [] zq_shM z X10 (rc113_3 v9 X10)) → ∀ (v9 : Int32) (X10 : zq_M), zq_V G YX11_fewestBy (6, 0, 0) (zq_si zq_shM z) 0 0 113 [(0, .ref (zq_ad G 69)), (2, .int a2), (3, .int a3), (5, .int v9)] [] zq_shM z X10 (b_X11_fewestBy_113 N a2 a3 rc113_3 v9 X10) := by
            intro rc113_3 hrc113_3 v9 X10
            unfold b_X11_fewestBy_113
            refine zr_iload (pc := 113) (zq_d eX11_fewestBy 61 rfl) 3 rfl ?_
            refine zr_bipush (pc := 115) (zq_d eX11_fewestBy 62 rfl) zc_b7 ?_
            refine zr_icmp_ge (pc := 117) 223 (zq_d eX11_fewestBy 63 rfl) (by decide) (fun _ => ?_) (fun _ => ?_)
            · refine zr_bipush (pc := 223) (zq_d eX11_fewestBy 117 rfl) zc_bm5 ?_
              exact zr_ireturn (pc := 225) (zq_d eX11_fewestBy 118 rfl) rfl rfl (Nat.zero_le _) (Nat.zero_le _)
            · refine zr_iconst (pc := 120) (zq_d eX11_fewestBy 64 rfl) zc_i0 ?_
              refine zr_istore (pc := 121) (lo2 := [(6, .int (0 : Int32)), (0, .ref (zq_ad G 69)), (2, .int a2), (3, .int a3), (5, .int v9)]) (zq_d eX11_fewestBy 65 rfl) (Nat.le_of_ble_eq_true rfl) rfl ?_
              have hbrc123_4 : ∀ rc123_4 : Int32 → Option (Int32 × zq_M), (∀ (v11 : Int32), zq_V G YX11_fewestBy (6, 0, 0) (zq_si zq_shM z) 0 0 123 [(0, .ref (zq_ad G 69)), (2, .int a2), (3, .int a3), (5, .int v9), (6, .int v11)] [] zq_shM z X10 (rc123_4 v11)) → ∀ (v11 : Int32), zq_V G YX11_fewestBy (6, 0, 0) (zq_si zq_shM z) 0 0 123 [(0, .ref (zq_ad G 69)), (2, .int a2), (3, .int a3), (5, .int v9), (6, .int v11)] [] zq_shM z X10 (b_X11_fewestBy_123 N a2 a3 v9 X10 rc113_3 rc123_4 v11) := by
                intro rc123_4 hrc123_4 v11
                unfold b_X11_fewestBy_123
                refine zr_iload (pc := 123) (zq_d eX11_fewestBy 66 rfl) 4 rfl ?_
                refine zr_bipush (pc := 125) (zq_d eX11_fewestBy 67 rfl) zc_b32 ?_
                refine zr_aload_n (pc := 127) (zq_d eX11_fewestBy 68 rfl) 0 rfl rfl ?_
                refine zr_Vi (pc := 128) [] (zq_d eX11_fewestBy 69 rfl) (s_X11_places G N z X10 ) zd_X11_places zl_RX11_340 om_69 rfl rfl rfl rfl (Nat.le_of_ble_eq_true rfl) (Nat.le_of_ble_eq_true rfl) (Nat.le_of_ble_eq_true rfl) ⟨Nat.le_refl _, Nat.le_refl _⟩ (fun v12 => ?_)
                refine zr_imul (pc := 131) (zq_d eX11_fewestBy 70 rfl) ?_
                refine zr_icmp_ge (pc := 132) 197 (zq_d eX11_fewestBy 71 rfl) (by decide) (fun _ => ?_) (fun _ => ?_)
                · unfold k_X11_fewestBy_197_5
                  refine zr_iload (pc := 197) (zq_d eX11_fewestBy 104 rfl) 3 rfl ?_
                  refine zr_bipush (pc := 199) (zq_d eX11_fewestBy 105 rfl) zc_b6 ?_
                  refine zr_icmp_ge (pc := 201) 217 (zq_d eX11_fewestBy 106 rfl) (by decide) (fun _ => ?_) (fun _ => ?_)
                  · refine zr_iinc (pc := 217) (j := 3) (v := (v9 + (1 : Int32))) (lo2 := [(5, .int (v9 + (1 : Int32))), (0, .ref (zq_ad G 69)), (2, .int a2), (3, .int a3), (6, .int v11)]) (zq_d eX11_fewestBy 115 rfl) rfl (by rw [zc_i1]) (Nat.le_of_ble_eq_true rfl) rfl ?_
                    refine zr_goto (pc := 220) 113 (zq_d eX11_fewestBy 116 rfl) (by decide) ?_
                    exact zr_lo [1, 2, 3, 0] rfl (hrc113_3 (v9 + (1 : Int32)) X10)
                  · refine zr_aload_n (pc := 204) (zq_d eX11_fewestBy 107 rfl) 0 rfl rfl ?_
                    refine zr_aload_n (pc := 205) (zq_d eX11_fewestBy 108 rfl) 0 rfl rfl ?_
                    refine zr_getI (pc := 206) (zq_d eX11_fewestBy 109 rfl) zf_RX11_16 km_69_2 ?_
                    refine zr_iload (pc := 209) (zq_d eX11_fewestBy 110 rfl) 3 rfl ?_
                    refine zr_iadd (pc := 211) (zq_d eX11_fewestBy 111 rfl) ?_
                    refine zr_iconst (pc := 212) (zq_d eX11_fewestBy 112 rfl) zc_i1 ?_
                    refine zr_iadd (pc := 213) (zq_d eX11_fewestBy 113 rfl) ?_
                    refine zr_Vv (pc := 214) [_] (zq_d eX11_fewestBy 114 rfl) (s_X11_goOnKnown G N z X10 _) zd_X11_goOnKnown zl_RX11_370 om_69 rfl rfl rfl rfl (Nat.le_of_ble_eq_true rfl) (Nat.le_of_ble_eq_true rfl) (Nat.le_of_ble_eq_true rfl) ⟨Nat.le_refl _, Nat.le_refl _⟩ (fun X13 => ?_)
                    refine zr_iinc (pc := 217) (j := 3) (v := (v9 + (1 : Int32))) (lo2 := [(5, .int (v9 + (1 : Int32))), (0, .ref (zq_ad G 69)), (2, .int a2), (3, .int a3), (6, .int v11)]) (zq_d eX11_fewestBy 115 rfl) rfl (by rw [zc_i1]) (Nat.le_of_ble_eq_true rfl) rfl ?_
                    refine zr_goto (pc := 220) 113 (zq_d eX11_fewestBy 116 rfl) (by decide) ?_
                    exact zr_lo [1, 2, 3, 0] rfl (hrc113_3 (v9 + (1 : Int32)) X13)
                · refine zr_aload_n (pc := 135) (zq_d eX11_fewestBy 72 rfl) 0 rfl rfl ?_
                  refine zr_getC (pc := 136) (zq_d eX11_fewestBy 73 rfl) zf_RX11_115 km_69_34 ?_
                  refine zr_iload (pc := 139) (zq_d eX11_fewestBy 74 rfl) 4 rfl ?_
                  refine zr_zald (pc := 141) (zq_d eX11_fewestBy 75 rfl) am_91 ?_
                  refine zr_if_eq (pc := 142) 191 (zq_d eX11_fewestBy 76 rfl) (by decide) (fun _ => ?_) (fun _ => ?_)
                  · refine zr_iinc (pc := 191) (j := 4) (v := (v11 + (1 : Int32))) (lo2 := [(6, .int (v11 + (1 : Int32))), (0, .ref (zq_ad G 69)), (2, .int a2), (3, .int a3), (5, .int v9)]) (zq_d eX11_fewestBy 102 rfl) rfl (by rw [zc_i1]) (Nat.le_of_ble_eq_true rfl) rfl ?_
                    refine zr_goto (pc := 194) 123 (zq_d eX11_fewestBy 103 rfl) (by decide) ?_
                    exact zr_lo [1, 2, 3, 4, 0] rfl (hrc123_4 (v11 + (1 : Int32)))
                  · refine zr_iload_n (pc := 145) (zq_d eX11_fewestBy 77 rfl) 1 rfl rfl ?_
                    refine zr_if_ge (pc := 146) 168 (zq_d eX11_fewestBy 78 rfl) (by decide) (fun _ => ?_) (fun _ => ?_)
                    · refine zr_aload_n (pc := 168) (zq_d eX11_fewestBy 90 rfl) 0 rfl rfl ?_
                      refine zr_iload (pc := 169) (zq_d eX11_fewestBy 91 rfl) 4 rfl ?_
                      refine zr_iload_n (pc := 171) (zq_d eX11_fewestBy 92 rfl) 1 rfl rfl ?_
                      refine zr_Vi (pc := 172) [_, _] (zq_d eX11_fewestBy 93 rfl) (s_X11_has G N z X10 _ _) zd_X11_has zl_RX11_331 om_69 rfl rfl rfl rfl (Nat.le_of_ble_eq_true rfl) (Nat.le_of_ble_eq_true rfl) (Nat.le_of_ble_eq_true rfl) ⟨Nat.le_refl _, Nat.le_refl _⟩ (fun v14 => ?_)
                      refine zr_if_eq (pc := 175) 191 (zq_d eX11_fewestBy 94 rfl) (by decide) (fun _ => ?_) (fun _ => ?_)
                      · refine zr_iinc (pc := 191) (j := 4) (v := (v11 + (1 : Int32))) (lo2 := [(6, .int (v11 + (1 : Int32))), (0, .ref (zq_ad G 69)), (2, .int a2), (3, .int a3), (5, .int v9)]) (zq_d eX11_fewestBy 102 rfl) rfl (by rw [zc_i1]) (Nat.le_of_ble_eq_true rfl) rfl ?_
                        refine zr_goto (pc := 194) 123 (zq_d eX11_fewestBy 103 rfl) (by decide) ?_
                        exact zr_lo [1, 2, 3, 4, 0] rfl (hrc123_4 (v11 + (1 : Int32)))
                      · refine zr_aload_n (pc := 178) (zq_d eX11_fewestBy 95 rfl) 0 rfl rfl ?_
                        refine zr_iload (pc := 179) (zq_d eX11_fewestBy 96 rfl) 4 rfl ?_
                        refine zr_iload_n (pc := 181) (zq_d eX11_fewestBy 97 rfl) 2 rfl rfl ?_
                        refine zr_Vi (pc := 182) [_, _] (zq_d eX11_fewestBy 98 rfl) (s_X11_has G N z X10 _ _) zd_X11_has zl_RX11_331 om_69 rfl rfl rfl rfl (Nat.le_of_ble_eq_true rfl) (Nat.le_of_ble_eq_true rfl) (Nat.le_of_ble_eq_true rfl) ⟨Nat.le_refl _, Nat.le_refl _⟩ (fun v15 => ?_)
                        refine zr_if_ne (pc := 185) 191 (zq_d eX11_fewestBy 99 rfl) (by decide) (fun _ => ?_) (fun _ => ?_)
                        · refine zr_iinc (pc := 191) (j := 4) (v := (v11 + (1 : Int32))) (lo2 := [(6, .int (v11 + (1 : Int32))), (0, .ref (zq_ad G 69)), (2, .int a2), (3, .int a3), (5, .int v9)]) (zq_d eX11_fewestBy 102 rfl) rfl (by rw [zc_i1]) (Nat.le_of_ble_eq_true rfl) rfl ?_
                          refine zr_goto (pc := 194) 123 (zq_d eX11_fewestBy 103 rfl) (by decide) ?_
                          exact zr_lo [1, 2, 3, 4, 0] rfl (hrc123_4 (v11 + (1 : Int32)))
                        · refine zr_iload (pc := 188) (zq_d eX11_fewestBy 100 rfl) 3 rfl ?_
                          exact zr_ireturn (pc := 190) (zq_d eX11_fewestBy 101 rfl) rfl rfl (Nat.zero_le _) (Nat.zero_le _)
                    · refine zr_iload (pc := 149) (zq_d eX11_fewestBy 79 rfl) 4 rfl ?_
                      refine zr_bipush (pc := 151) (zq_d eX11_fewestBy 80 rfl) zc_b32 ?_
                      refine zr_iremk (pc := 153) (zq_d eX11_fewestBy 81 rfl) (by decide) ?_
                      refine zr_iconst (pc := 154) (zq_d eX11_fewestBy 82 rfl) zc_i1 ?_
                      refine zr_aload_n (pc := 155) (zq_d eX11_fewestBy 83 rfl) 0 rfl rfl ?_
                      refine zr_getI (pc := 156) (zq_d eX11_fewestBy 84 rfl) zf_RX11_7 km_69_0 ?_
                      refine zr_ishl (pc := 159) (zq_d eX11_fewestBy 85 rfl) ?_
                      refine zr_iconst (pc := 160) (zq_d eX11_fewestBy 86 rfl) zc_i1 ?_
                      refine zr_isub (pc := 161) (zq_d eX11_fewestBy 87 rfl) ?_
                      refine zr_icmp_ne (pc := 162) 191 (zq_d eX11_fewestBy 88 rfl) (by decide) (fun _ => ?_) (fun _ => ?_)
                      · refine zr_iinc (pc := 191) (j := 4) (v := (v11 + (1 : Int32))) (lo2 := [(6, .int (v11 + (1 : Int32))), (0, .ref (zq_ad G 69)), (2, .int a2), (3, .int a3), (5, .int v9)]) (zq_d eX11_fewestBy 102 rfl) rfl (by rw [zc_i1]) (Nat.le_of_ble_eq_true rfl) rfl ?_
                        refine zr_goto (pc := 194) 123 (zq_d eX11_fewestBy 103 rfl) (by decide) ?_
                        exact zr_lo [1, 2, 3, 4, 0] rfl (hrc123_4 (v11 + (1 : Int32)))
                      · refine zr_goto (pc := 165) 188 (zq_d eX11_fewestBy 89 rfl) (by decide) ?_
                        refine zr_iload (pc := 188) (zq_d eX11_fewestBy 100 rfl) 3 rfl ?_
                        exact zr_ireturn (pc := 190) (zq_d eX11_fewestBy 101 rfl) rfl rfl (Nat.zero_le _) (Nat.zero_le _)
              have hlrc123_4 := zr_loop (P := fun (rc123_4 : Int32 → Option (Int32 × zq_M)) => ∀ (v11 : Int32), zq_V G YX11_fewestBy (6, 0, 0) (zq_si zq_shM z) 0 0 123 [(0, .ref (zq_ad G 69)), (2, .int a2), (3, .int a3), (5, .int v9), (6, .int v11)] [] zq_shM z X10 (rc123_4 v11)) (fun _ => none) (b_X11_fewestBy_123 N a2 a3 v9 X10 rc113_3) (fun _ => zr_none) hbrc123_4 N
              exact zr_lo [1, 2, 3, 4, 0] rfl (hlrc123_4 (0 : Int32))
          have hlrc113_3 := zr_loop (P := fun (rc113_3 : Int32 → zq_M → Option (Int32 × zq_M)) => ∀ (v9 : Int32) (X10 : zq_M), zq_V G YX11_fewestBy (6, 0, 0) (zq_si zq_shM z) 0 0 113 [(0, .ref (zq_ad G 69)), (2, .int a2), (3, .int a3), (5, .int v9)] [] zq_shM z X10 (rc113_3 v9 X10)) (fun _ _ => none) (b_X11_fewestBy_113 N a2 a3) (fun _ _ => zr_none) hbrc113_3 N
          exact zr_lo [1, 2, 3, 0] rfl (hlrc113_3 (0 : Int32) X8)
        · refine zr_aload_n (pc := 68) (zq_d eX11_fewestBy 36 rfl) 0 rfl rfl ?_
          refine zr_getC (pc := 69) (zq_d eX11_fewestBy 37 rfl) zf_RX11_115 km_69_34 ?_
          refine zr_iload (pc := 72) (zq_d eX11_fewestBy 38 rfl) 4 rfl ?_
          refine zr_iconst (pc := 74) (zq_d eX11_fewestBy 39 rfl) zc_i0 ?_
          refine zr_zast (pc := 75) (zq_d eX11_fewestBy 40 rfl) am_91 (fun X16 => ?_)
          refine zr_iinc (pc := 76) (j := 4) (v := (v4 + (1 : Int32))) (lo2 := [(5, .int (v4 + (1 : Int32))), (0, .ref (zq_ad G 69)), (2, .int a2), (3, .int a3), (4, .int v2)]) (zq_d eX11_fewestBy 41 rfl) rfl (by rw [zc_i1]) (Nat.le_of_ble_eq_true rfl) rfl ?_
          refine zr_goto (pc := 79) 56 (zq_d eX11_fewestBy 42 rfl) (by decide) ?_
          exact zr_lo [1, 2, 3, 4, 0] rfl (hrc56_2 (v4 + (1 : Int32)) X16)
      have hlrc56_2 := zr_loop (P := fun (rc56_2 : Int32 → zq_M → Option (Int32 × zq_M)) => ∀ (v4 : Int32) (X5 : zq_M), zq_V G YX11_fewestBy (6, 0, 0) (zq_si zq_shM z) 0 0 56 [(0, .ref (zq_ad G 69)), (2, .int a2), (3, .int a3), (4, .int v2), (5, .int v4)] [] zq_shM z X5 (rc56_2 v4 X5)) (fun _ _ => none) (b_X11_fewestBy_56 N a2 a3 v2) (fun _ _ => zr_none) hbrc56_2 N
      exact zr_lo [1, 3, 4, 5, 0] rfl (hlrc56_2 (0 : Int32) X1)
    · refine zr_iload (pc := 19) (zq_d eX11_fewestBy 10 rfl) 4 rfl ?_
      refine zr_aload_n (pc := 21) (zq_d eX11_fewestBy 11 rfl) 0 rfl rfl ?_
      refine zr_aload_n (pc := 22) (zq_d eX11_fewestBy 12 rfl) 0 rfl rfl ?_
      refine zr_getC (pc := 23) (zq_d eX11_fewestBy 13 rfl) zf_RX11_29 km_69_6 ?_
      refine zr_iload (pc := 26) (zq_d eX11_fewestBy 14 rfl) 5 rfl ?_
      refine zr_iald (pc := 28) (zq_d eX11_fewestBy 15 rfl) am_72 ?_
      refine zr_iload_n (pc := 29) (zq_d eX11_fewestBy 16 rfl) 1 rfl rfl ?_
      refine zr_Vi (pc := 30) [_, _] (zq_d eX11_fewestBy 17 rfl) (s_X11_has G N z X1 _ _) zd_X11_has zl_RX11_331 om_69 rfl rfl rfl rfl (Nat.le_of_ble_eq_true rfl) (Nat.le_of_ble_eq_true rfl) (Nat.le_of_ble_eq_true rfl) ⟨Nat.le_refl _, Nat.le_refl _⟩ (fun v17 => ?_)
      refine zr_if_eq (pc := 33) 43 (zq_d eX11_fewestBy 18 rfl) (by decide) (fun _ => ?_) (fun _ => ?_)
      · refine zr_iconst (pc := 43) (zq_d eX11_fewestBy 23 rfl) zc_i0 ?_
        refine zr_ior (pc := 44) (zq_d eX11_fewestBy 24 rfl) ?_
        refine zr_istore (pc := 45) (lo2 := [(4, .int (v2 ||| (0 : Int32))), (0, .ref (zq_ad G 69)), (1, .int a1), (2, .int a2), (3, .int a3), (5, .int v3)]) (zq_d eX11_fewestBy 25 rfl) (Nat.le_of_ble_eq_true rfl) rfl ?_
        refine zr_iinc (pc := 47) (j := 5) (v := (v3 + (1 : Int32))) (lo2 := [(5, .int (v3 + (1 : Int32))), (4, .int (v2 ||| (0 : Int32))), (0, .ref (zq_ad G 69)), (1, .int a1), (2, .int a2), (3, .int a3)]) (zq_d eX11_fewestBy 26 rfl) rfl (by rw [zc_i1]) (Nat.le_of_ble_eq_true rfl) rfl ?_
        refine zr_goto (pc := 50) 10 (zq_d eX11_fewestBy 27 rfl) (by decide) ?_
        exact zr_lo [2, 3, 4, 5, 1, 0] rfl (hrc10_1 (v2 ||| (0 : Int32)) (v3 + (1 : Int32)))
      · refine zr_iconst (pc := 36) (zq_d eX11_fewestBy 19 rfl) zc_i1 ?_
        refine zr_iload (pc := 37) (zq_d eX11_fewestBy 20 rfl) 5 rfl ?_
        refine zr_ishl (pc := 39) (zq_d eX11_fewestBy 21 rfl) ?_
        refine zr_goto (pc := 40) 44 (zq_d eX11_fewestBy 22 rfl) (by decide) ?_
        refine zr_ior (pc := 44) (zq_d eX11_fewestBy 24 rfl) ?_
        refine zr_istore (pc := 45) (lo2 := [(4, .int (v2 ||| (zq_shl (1 : Int32) v3))), (0, .ref (zq_ad G 69)), (1, .int a1), (2, .int a2), (3, .int a3), (5, .int v3)]) (zq_d eX11_fewestBy 25 rfl) (Nat.le_of_ble_eq_true rfl) rfl ?_
        refine zr_iinc (pc := 47) (j := 5) (v := (v3 + (1 : Int32))) (lo2 := [(5, .int (v3 + (1 : Int32))), (4, .int (v2 ||| (zq_shl (1 : Int32) v3))), (0, .ref (zq_ad G 69)), (1, .int a1), (2, .int a2), (3, .int a3)]) (zq_d eX11_fewestBy 26 rfl) rfl (by rw [zc_i1]) (Nat.le_of_ble_eq_true rfl) rfl ?_
        refine zr_goto (pc := 50) 10 (zq_d eX11_fewestBy 27 rfl) (by decide) ?_
        exact zr_lo [2, 3, 4, 5, 1, 0] rfl (hrc10_1 (v2 ||| (zq_shl (1 : Int32) v3)) (v3 + (1 : Int32)))
  have hlrc10_1 := zr_loop (P := fun (rc10_1 : Int32 → Int32 → Option (Int32 × zq_M)) => ∀ (v2 : Int32) (v3 : Int32), zq_V G YX11_fewestBy (6, 0, 0) (zq_si zq_shM z) 0 0 10 [(0, .ref (zq_ad G 69)), (1, .int a1), (2, .int a2), (3, .int a3), (4, .int v2), (5, .int v3)] [] zq_shM z X1 (rc10_1 v2 v3)) (fun _ _ => none) (b_X11_fewestBy_10 N a1 a2 a3 X1) (fun _ _ => zr_none) hbrc10_1 N
  exact zr_lo [2, 3, 4, 5, 1, 0] rfl (hlrc10_1 (0 : Int32) (0 : Int32))
def f_X11_heard (N : Nat) (X : zq_M) (a1 : Int32) : Option (Int32 × zq_M) :=
  (f_X11_isThing N X a1).bind (fun v1 => if v1 = 0 then (some ((-1 : Int32), X)) else ((f_X11_fewestBy N X a1 (-1 : Int32) (-1 : Int32)).bind (zq_p (fun v2 X3 => some (v2, X3)))))
set_option maxRecDepth 20000 in
set_option maxHeartbeats 8000000 in
theorem s_X11_heard (G : zq_G) (N z : Nat) (X : zq_M) (a1 : Int32) : zq_V G YX11_heard (7, 0, 0) (zq_si zq_shM z) 0 0 0 (lv_args 0 [.ref (zq_ad G 69), .int a1]) [] zq_shM z X (f_X11_heard N X a1) := by
  unfold f_X11_heard
  refine zr_lo (l2 := [(0, .ref (zq_ad G 69)), (1, .int a1)]) [0, 1] rfl ?_
  refine zr_aload_n (pc := 0) (zq_d eX11_heard 0 rfl) 0 rfl rfl ?_
  refine zr_iload_n (pc := 1) (zq_d eX11_heard 1 rfl) 1 rfl rfl ?_
  refine zr_Vi (pc := 2) [_] (zq_d eX11_heard 2 rfl) (s_X11_isThing G N z X _) zd_X11_isThing zl_RX11_334 om_69 rfl rfl rfl rfl (Nat.le_of_ble_eq_true rfl) (Nat.le_of_ble_eq_true rfl) (Nat.le_of_ble_eq_true rfl) ⟨Nat.le_refl _, Nat.le_refl _⟩ (fun v1 => ?_)
  refine zr_if_eq (pc := 5) 18 (zq_d eX11_heard 3 rfl) (by decide) (fun _ => ?_) (fun _ => ?_)
  · refine zr_iconst (pc := 18) (zq_d eX11_heard 10 rfl) zc_im1 ?_
    exact zr_ireturn (pc := 19) (zq_d eX11_heard 11 rfl) rfl rfl (Nat.zero_le _) (Nat.zero_le _)
  · refine zr_aload_n (pc := 8) (zq_d eX11_heard 4 rfl) 0 rfl rfl ?_
    refine zr_iload_n (pc := 9) (zq_d eX11_heard 5 rfl) 1 rfl rfl ?_
    refine zr_iconst (pc := 10) (zq_d eX11_heard 6 rfl) zc_im1 ?_
    refine zr_iconst (pc := 11) (zq_d eX11_heard 7 rfl) zc_im1 ?_
    refine zr_Wsi (pc := 12) [_, _, _] (zq_d eX11_heard 8 rfl) (s_X11_fewestBy G N z X _ _ _) zd_X11_fewestBy zl_RX11_373 om_69 rfl rfl rfl rfl (Nat.le_of_ble_eq_true rfl) (Nat.le_of_ble_eq_true rfl) (Nat.le_of_ble_eq_true rfl) ⟨Nat.le_refl _, Nat.le_refl _⟩ (fun v2 X3 => ?_)
    refine zr_goto (pc := 15) 19 (zq_d eX11_heard 9 rfl) (by decide) ?_
    exact zr_ireturn (pc := 19) (zq_d eX11_heard 11 rfl) rfl rfl (Nat.zero_le _) (Nat.zero_le _)
def f_X11_secret (N : Nat) (X : zq_M) (a1 : Int32) (a2 : Int32) (a3 : Int32) : Option (Int32 × zq_M) :=
  (f_X11_isPerson N X a1).bind (fun v1 => if v1 = 0 then (some ((-1 : Int32), X)) else ((f_X11_isPerson N X a2).bind (fun v2 => if v2 = 0 then (some ((-1 : Int32), X)) else ((f_X11_isThing N X a3).bind (fun v3 => if ¬ v3 = 0 then (if ¬ a1 = a2 then ((f_X11_fewestBy N X a3 a1 a2).bind (zq_p (fun v4 X5 => some (v4, X5)))) else (some ((-2 : Int32), X))) else (some ((-1 : Int32), X)))))))
set_option maxRecDepth 20000 in
set_option maxHeartbeats 8000000 in
theorem s_X11_secret (G : zq_G) (N z : Nat) (X : zq_M) (a1 : Int32) (a2 : Int32) (a3 : Int32) : zq_V G YX11_secret (7, 0, 0) (zq_si zq_shM z) 0 0 0 (lv_args 0 [.ref (zq_ad G 69), .int a1, .int a2, .int a3]) [] zq_shM z X (f_X11_secret N X a1 a2 a3) := by
  unfold f_X11_secret
  refine zr_lo (l2 := [(0, .ref (zq_ad G 69)), (1, .int a1), (2, .int a2), (3, .int a3)]) [0, 1, 2, 3] rfl ?_
  refine zr_aload_n (pc := 0) (zq_d eX11_secret 0 rfl) 0 rfl rfl ?_
  refine zr_iload_n (pc := 1) (zq_d eX11_secret 1 rfl) 1 rfl rfl ?_
  refine zr_Vi (pc := 2) [_] (zq_d eX11_secret 2 rfl) (s_X11_isPerson G N z X _) zd_X11_isPerson zl_RX11_249 om_69 rfl rfl rfl rfl (Nat.le_of_ble_eq_true rfl) (Nat.le_of_ble_eq_true rfl) (Nat.le_of_ble_eq_true rfl) ⟨Nat.le_refl _, Nat.le_refl _⟩ (fun v1 => ?_)
  refine zr_if_eq (pc := 5) 24 (zq_d eX11_secret 3 rfl) (by decide) (fun _ => ?_) (fun _ => ?_)
  · refine zr_iconst (pc := 24) (zq_d eX11_secret 12 rfl) zc_im1 ?_
    exact zr_ireturn (pc := 25) (zq_d eX11_secret 13 rfl) rfl rfl (Nat.zero_le _) (Nat.zero_le _)
  · refine zr_aload_n (pc := 8) (zq_d eX11_secret 4 rfl) 0 rfl rfl ?_
    refine zr_iload_n (pc := 9) (zq_d eX11_secret 5 rfl) 2 rfl rfl ?_
    refine zr_Vi (pc := 10) [_] (zq_d eX11_secret 6 rfl) (s_X11_isPerson G N z X _) zd_X11_isPerson zl_RX11_249 om_69 rfl rfl rfl rfl (Nat.le_of_ble_eq_true rfl) (Nat.le_of_ble_eq_true rfl) (Nat.le_of_ble_eq_true rfl) ⟨Nat.le_refl _, Nat.le_refl _⟩ (fun v2 => ?_)
    refine zr_if_eq (pc := 13) 24 (zq_d eX11_secret 7 rfl) (by decide) (fun _ => ?_) (fun _ => ?_)
    · refine zr_iconst (pc := 24) (zq_d eX11_secret 12 rfl) zc_im1 ?_
      exact zr_ireturn (pc := 25) (zq_d eX11_secret 13 rfl) rfl rfl (Nat.zero_le _) (Nat.zero_le _)
    · refine zr_aload_n (pc := 16) (zq_d eX11_secret 8 rfl) 0 rfl rfl ?_
      refine zr_iload_n (pc := 17) (zq_d eX11_secret 9 rfl) 3 rfl rfl ?_
      refine zr_Vi (pc := 18) [_] (zq_d eX11_secret 10 rfl) (s_X11_isThing G N z X _) zd_X11_isThing zl_RX11_334 om_69 rfl rfl rfl rfl (Nat.le_of_ble_eq_true rfl) (Nat.le_of_ble_eq_true rfl) (Nat.le_of_ble_eq_true rfl) ⟨Nat.le_refl _, Nat.le_refl _⟩ (fun v3 => ?_)
      refine zr_if_ne (pc := 21) 26 (zq_d eX11_secret 11 rfl) (by decide) (fun _ => ?_) (fun _ => ?_)
      · refine zr_iload_n (pc := 26) (zq_d eX11_secret 14 rfl) 1 rfl rfl ?_
        refine zr_iload_n (pc := 27) (zq_d eX11_secret 15 rfl) 2 rfl rfl ?_
        refine zr_icmp_ne (pc := 28) 34 (zq_d eX11_secret 16 rfl) (by decide) (fun _ => ?_) (fun _ => ?_)
        · refine zr_aload_n (pc := 34) (zq_d eX11_secret 19 rfl) 0 rfl rfl ?_
          refine zr_iload_n (pc := 35) (zq_d eX11_secret 20 rfl) 3 rfl rfl ?_
          refine zr_iload_n (pc := 36) (zq_d eX11_secret 21 rfl) 1 rfl rfl ?_
          refine zr_iload_n (pc := 37) (zq_d eX11_secret 22 rfl) 2 rfl rfl ?_
          refine zr_Wsi (pc := 38) [_, _, _] (zq_d eX11_secret 23 rfl) (s_X11_fewestBy G N z X _ _ _) zd_X11_fewestBy zl_RX11_373 om_69 rfl rfl rfl rfl (Nat.le_of_ble_eq_true rfl) (Nat.le_of_ble_eq_true rfl) (Nat.le_of_ble_eq_true rfl) ⟨Nat.le_refl _, Nat.le_refl _⟩ (fun v4 X5 => ?_)
          exact zr_ireturn (pc := 41) (zq_d eX11_secret 24 rfl) rfl rfl (Nat.zero_le _) (Nat.zero_le _)
        · refine zr_bipush (pc := 31) (zq_d eX11_secret 17 rfl) zc_bm2 ?_
          exact zr_ireturn (pc := 33) (zq_d eX11_secret 18 rfl) rfl rfl (Nat.zero_le _) (Nat.zero_le _)
      · refine zr_iconst (pc := 24) (zq_d eX11_secret 12 rfl) zc_im1 ?_
        exact zr_ireturn (pc := 25) (zq_d eX11_secret 13 rfl) rfl rfl (Nat.zero_le _) (Nat.zero_le _)
def k_X11_isWon_57_2 (a3 : Int32) (v1 : Int32)  : Option Int32 :=
  if (v1 &&& a3) = 0 then (some (0 : Int32)) else (if ¬ (v1 &&& (a3 ^^^ (-1 : Int32))) = 0 then (some (0 : Int32)) else (some (1 : Int32)))
def b_X11_isWon_6 (N : Nat) (X : zq_M) (a1 : Int32) (a2 : Int32) (a3 : Int32) (a4 : Int32) (rc6_1 : Int32 → Int32 → Option Int32) (v1 : Int32) (v2 : Int32) : Option Int32 :=
  if (X.1 69 0) ≤ v2 then (k_X11_isWon_57_2 a3 v1) else ((f_X11_placeOf N X a1 v2).bind (fun v3 => if ¬ v3 = a2 then (rc6_1 (v1 ||| (0 : Int32)) (v2 + (1 : Int32))) else ((f_X11_maySpeak N X a1 v2 a4).bind (fun v4 => if v4 = 0 then (rc6_1 (v1 ||| (0 : Int32)) (v2 + (1 : Int32))) else (rc6_1 (v1 ||| (zq_shl (1 : Int32) v2)) (v2 + (1 : Int32)))))))
def f_X11_isWon (N : Nat) (X : zq_M) (a1 : Int32) (a2 : Int32) (a3 : Int32) (a4 : Int32) : Option Int32 :=
  zq_loop (fun _ _ => none) (b_X11_isWon_6 N X a1 a2 a3 a4) N (0 : Int32) (0 : Int32)
set_option maxRecDepth 20000 in
set_option maxHeartbeats 8000000 in
theorem s_X11_isWon (G : zq_G) (N z : Nat) (X : zq_M) (a1 : Int32) (a2 : Int32) (a3 : Int32) (a4 : Int32) : zq_V G YX11_isWon (4, 0, 0) (zq_ei zq_shM z X) 0 0 0 (lv_args 0 [.ref (zq_ad G 69), .int a1, .int a2, .int a3, .int a4]) [] zq_shM z X (f_X11_isWon N X a1 a2 a3 a4) := by
  unfold f_X11_isWon
  refine zr_lo (l2 := [(0, .ref (zq_ad G 69)), (1, .int a1), (2, .int a2), (3, .int a3), (4, .int a4)]) [0, 1, 2, 3, 4] rfl ?_
  refine zr_iconst (pc := 0) (zq_d eX11_isWon 0 rfl) zc_i0 ?_
  refine zr_istore (pc := 1) (lo2 := [(5, .int (0 : Int32)), (0, .ref (zq_ad G 69)), (1, .int a1), (2, .int a2), (3, .int a3), (4, .int a4)]) (zq_d eX11_isWon 1 rfl) (Nat.le_of_ble_eq_true rfl) rfl ?_
  refine zr_iconst (pc := 3) (zq_d eX11_isWon 2 rfl) zc_i0 ?_
  refine zr_istore (pc := 4) (lo2 := [(6, .int (0 : Int32)), (5, .int (0 : Int32)), (0, .ref (zq_ad G 69)), (1, .int a1), (2, .int a2), (3, .int a3), (4, .int a4)]) (zq_d eX11_isWon 3 rfl) (Nat.le_of_ble_eq_true rfl) rfl ?_
  have hbrc6_1 : ∀ rc6_1 : Int32 → Int32 → Option Int32, (∀ (v1 : Int32) (v2 : Int32), zq_V G YX11_isWon (4, 0, 0) (zq_ei zq_shM z X) 0 0 6 [(0, .ref (zq_ad G 69)), (1, .int a1), (2, .int a2), (3, .int a3), (4, .int a4), (5, .int v1), (6, .int v2)] [] zq_shM z X (rc6_1 v1 v2)) → ∀ (v1 : Int32) (v2 : Int32), zq_V G YX11_isWon (4, 0, 0) (zq_ei zq_shM z X) 0 0 6 [(0, .ref (zq_ad G 69)), (1, .int a1), (2, .int a2), (3, .int a3), (4, .int a4), (5, .int v1), (6, .int v2)] [] zq_shM z X (b_X11_isWon_6 N X a1 a2 a3 a4 rc6_1 v1 v2) := by
    intro rc6_1 hrc6_1 v1 v2
    unfold b_X11_isWon_6
    refine zr_iload (pc := 6) (zq_d eX11_isWon 4 rfl) 6 rfl ?_
    refine zr_aload_n (pc := 8) (zq_d eX11_isWon 5 rfl) 0 rfl rfl ?_
    refine zr_getI (pc := 9) (zq_d eX11_isWon 6 rfl) zf_RX11_7 km_69_0 ?_
    refine zr_icmp_ge (pc := 12) 57 (zq_d eX11_isWon 7 rfl) (by decide) (fun _ => ?_) (fun _ => ?_)
    · unfold k_X11_isWon_57_2
      refine zr_iload (pc := 57) (zq_d eX11_isWon 30 rfl) 5 rfl ?_
      refine zr_iload_n (pc := 59) (zq_d eX11_isWon 31 rfl) 3 rfl rfl ?_
      refine zr_iand (pc := 60) (zq_d eX11_isWon 32 rfl) ?_
      refine zr_if_eq (pc := 61) 77 (zq_d eX11_isWon 33 rfl) (by decide) (fun _ => ?_) (fun _ => ?_)
      · refine zr_iconst (pc := 77) (zq_d eX11_isWon 42 rfl) zc_i0 ?_
        exact zr_zreturn (pc := 78) (zq_d eX11_isWon 43 rfl) rfl rfl rfl (Nat.zero_le _) (Nat.zero_le _)
      · refine zr_iload (pc := 64) (zq_d eX11_isWon 34 rfl) 5 rfl ?_
        refine zr_iload_n (pc := 66) (zq_d eX11_isWon 35 rfl) 3 rfl rfl ?_
        refine zr_iconst (pc := 67) (zq_d eX11_isWon 36 rfl) zc_im1 ?_
        refine zr_ixor (pc := 68) (zq_d eX11_isWon 37 rfl) ?_
        refine zr_iand (pc := 69) (zq_d eX11_isWon 38 rfl) ?_
        refine zr_if_ne (pc := 70) 77 (zq_d eX11_isWon 39 rfl) (by decide) (fun _ => ?_) (fun _ => ?_)
        · refine zr_iconst (pc := 77) (zq_d eX11_isWon 42 rfl) zc_i0 ?_
          exact zr_zreturn (pc := 78) (zq_d eX11_isWon 43 rfl) rfl rfl rfl (Nat.zero_le _) (Nat.zero_le _)
        · refine zr_iconst (pc := 73) (zq_d eX11_isWon 40 rfl) zc_i1 ?_
          refine zr_goto (pc := 74) 78 (zq_d eX11_isWon 41 rfl) (by decide) ?_
          exact zr_zreturn (pc := 78) (zq_d eX11_isWon 43 rfl) rfl rfl rfl (Nat.zero_le _) (Nat.zero_le _)
    · refine zr_iload (pc := 15) (zq_d eX11_isWon 8 rfl) 5 rfl ?_
      refine zr_aload_n (pc := 17) (zq_d eX11_isWon 9 rfl) 0 rfl rfl ?_
      refine zr_iload_n (pc := 18) (zq_d eX11_isWon 10 rfl) 1 rfl rfl ?_
      refine zr_iload (pc := 19) (zq_d eX11_isWon 11 rfl) 6 rfl ?_
      refine zr_Vi (pc := 21) [_, _] (zq_d eX11_isWon 12 rfl) (s_X11_placeOf G N z X _ _) zd_X11_placeOf zl_RX11_221 om_69 rfl rfl rfl rfl (Nat.le_of_ble_eq_true rfl) (Nat.le_of_ble_eq_true rfl) (Nat.le_of_ble_eq_true rfl) ⟨Nat.le_refl _, Nat.le_refl _⟩ (fun v3 => ?_)
      refine zr_iload_n (pc := 24) (zq_d eX11_isWon 13 rfl) 2 rfl rfl ?_
      refine zr_icmp_ne (pc := 25) 47 (zq_d eX11_isWon 14 rfl) (by decide) (fun _ => ?_) (fun _ => ?_)
      · refine zr_iconst (pc := 47) (zq_d eX11_isWon 25 rfl) zc_i0 ?_
        refine zr_ior (pc := 48) (zq_d eX11_isWon 26 rfl) ?_
        refine zr_istore (pc := 49) (lo2 := [(5, .int (v1 ||| (0 : Int32))), (0, .ref (zq_ad G 69)), (1, .int a1), (2, .int a2), (3, .int a3), (4, .int a4), (6, .int v2)]) (zq_d eX11_isWon 27 rfl) (Nat.le_of_ble_eq_true rfl) rfl ?_
        refine zr_iinc (pc := 51) (j := 6) (v := (v2 + (1 : Int32))) (lo2 := [(6, .int (v2 + (1 : Int32))), (5, .int (v1 ||| (0 : Int32))), (0, .ref (zq_ad G 69)), (1, .int a1), (2, .int a2), (3, .int a3), (4, .int a4)]) (zq_d eX11_isWon 28 rfl) rfl (by rw [zc_i1]) (Nat.le_of_ble_eq_true rfl) rfl ?_
        refine zr_goto (pc := 54) 6 (zq_d eX11_isWon 29 rfl) (by decide) ?_
        exact zr_lo [2, 3, 4, 5, 6, 1, 0] rfl (hrc6_1 (v1 ||| (0 : Int32)) (v2 + (1 : Int32)))
      · refine zr_aload_n (pc := 28) (zq_d eX11_isWon 15 rfl) 0 rfl rfl ?_
        refine zr_iload_n (pc := 29) (zq_d eX11_isWon 16 rfl) 1 rfl rfl ?_
        refine zr_iload (pc := 30) (zq_d eX11_isWon 17 rfl) 6 rfl ?_
        refine zr_iload (pc := 32) (zq_d eX11_isWon 18 rfl) 4 rfl ?_
        refine zr_Vi (pc := 34) [_, _, _] (zq_d eX11_isWon 19 rfl) (s_X11_maySpeak G N z X _ _ _) zd_X11_maySpeak zl_RX11_256 om_69 rfl rfl rfl rfl (Nat.le_of_ble_eq_true rfl) (Nat.le_of_ble_eq_true rfl) (Nat.le_of_ble_eq_true rfl) ⟨Nat.le_refl _, Nat.le_refl _⟩ (fun v4 => ?_)
        refine zr_if_eq (pc := 37) 47 (zq_d eX11_isWon 20 rfl) (by decide) (fun _ => ?_) (fun _ => ?_)
        · refine zr_iconst (pc := 47) (zq_d eX11_isWon 25 rfl) zc_i0 ?_
          refine zr_ior (pc := 48) (zq_d eX11_isWon 26 rfl) ?_
          refine zr_istore (pc := 49) (lo2 := [(5, .int (v1 ||| (0 : Int32))), (0, .ref (zq_ad G 69)), (1, .int a1), (2, .int a2), (3, .int a3), (4, .int a4), (6, .int v2)]) (zq_d eX11_isWon 27 rfl) (Nat.le_of_ble_eq_true rfl) rfl ?_
          refine zr_iinc (pc := 51) (j := 6) (v := (v2 + (1 : Int32))) (lo2 := [(6, .int (v2 + (1 : Int32))), (5, .int (v1 ||| (0 : Int32))), (0, .ref (zq_ad G 69)), (1, .int a1), (2, .int a2), (3, .int a3), (4, .int a4)]) (zq_d eX11_isWon 28 rfl) rfl (by rw [zc_i1]) (Nat.le_of_ble_eq_true rfl) rfl ?_
          refine zr_goto (pc := 54) 6 (zq_d eX11_isWon 29 rfl) (by decide) ?_
          exact zr_lo [2, 3, 4, 5, 6, 1, 0] rfl (hrc6_1 (v1 ||| (0 : Int32)) (v2 + (1 : Int32)))
        · refine zr_iconst (pc := 40) (zq_d eX11_isWon 21 rfl) zc_i1 ?_
          refine zr_iload (pc := 41) (zq_d eX11_isWon 22 rfl) 6 rfl ?_
          refine zr_ishl (pc := 43) (zq_d eX11_isWon 23 rfl) ?_
          refine zr_goto (pc := 44) 48 (zq_d eX11_isWon 24 rfl) (by decide) ?_
          refine zr_ior (pc := 48) (zq_d eX11_isWon 26 rfl) ?_
          refine zr_istore (pc := 49) (lo2 := [(5, .int (v1 ||| (zq_shl (1 : Int32) v2))), (0, .ref (zq_ad G 69)), (1, .int a1), (2, .int a2), (3, .int a3), (4, .int a4), (6, .int v2)]) (zq_d eX11_isWon 27 rfl) (Nat.le_of_ble_eq_true rfl) rfl ?_
          refine zr_iinc (pc := 51) (j := 6) (v := (v2 + (1 : Int32))) (lo2 := [(6, .int (v2 + (1 : Int32))), (5, .int (v1 ||| (zq_shl (1 : Int32) v2))), (0, .ref (zq_ad G 69)), (1, .int a1), (2, .int a2), (3, .int a3), (4, .int a4)]) (zq_d eX11_isWon 28 rfl) rfl (by rw [zc_i1]) (Nat.le_of_ble_eq_true rfl) rfl ?_
          refine zr_goto (pc := 54) 6 (zq_d eX11_isWon 29 rfl) (by decide) ?_
          exact zr_lo [2, 3, 4, 5, 6, 1, 0] rfl (hrc6_1 (v1 ||| (zq_shl (1 : Int32) v2)) (v2 + (1 : Int32)))
  have hlrc6_1 := zr_loop (P := fun (rc6_1 : Int32 → Int32 → Option Int32) => ∀ (v1 : Int32) (v2 : Int32), zq_V G YX11_isWon (4, 0, 0) (zq_ei zq_shM z X) 0 0 6 [(0, .ref (zq_ad G 69)), (1, .int a1), (2, .int a2), (3, .int a3), (4, .int a4), (5, .int v1), (6, .int v2)] [] zq_shM z X (rc6_1 v1 v2)) (fun _ _ => none) (b_X11_isWon_6 N X a1 a2 a3 a4) (fun _ _ => zr_none) hbrc6_1 N
  exact zr_lo [2, 3, 4, 5, 6, 1, 0] rfl (hlrc6_1 (0 : Int32) (0 : Int32))
def f_X11_mayTurn (N : Nat) (X : zq_M) (a1 : Int32) (a2 : Int32) : Option Int32 :=
  if a2 = 0 then (some (1 : Int32)) else ((f_X11_mayCome N X a1 ((a2 - (1 : Int32)) / (4 : Int32)) (zq_irem (a2 - (1 : Int32)) (4 : Int32))).bind (fun v1 => if v1 = 0 then (some (0 : Int32)) else (some (1 : Int32))))
set_option maxRecDepth 20000 in
set_option maxHeartbeats 8000000 in
theorem s_X11_mayTurn (G : zq_G) (N z : Nat) (X : zq_M) (a1 : Int32) (a2 : Int32) : zq_V G YX11_mayTurn (5, 0, 0) (zq_ei zq_shM z X) 0 0 0 (lv_args 0 [.ref (zq_ad G 69), .int a1, .int a2]) [] zq_shM z X (f_X11_mayTurn N X a1 a2) := by
  unfold f_X11_mayTurn
  refine zr_lo (l2 := [(0, .ref (zq_ad G 69)), (1, .int a1), (2, .int a2)]) [0, 1, 2] rfl ?_
  refine zr_iload_n (pc := 0) (zq_d eX11_mayTurn 0 rfl) 2 rfl rfl ?_
  refine zr_if_eq (pc := 1) 22 (zq_d eX11_mayTurn 1 rfl) (by decide) (fun _ => ?_) (fun _ => ?_)
  · refine zr_iconst (pc := 22) (zq_d eX11_mayTurn 16 rfl) zc_i1 ?_
    refine zr_goto (pc := 23) 27 (zq_d eX11_mayTurn 17 rfl) (by decide) ?_
    exact zr_zreturn (pc := 27) (zq_d eX11_mayTurn 19 rfl) rfl rfl rfl (Nat.zero_le _) (Nat.zero_le _)
  · refine zr_aload_n (pc := 4) (zq_d eX11_mayTurn 2 rfl) 0 rfl rfl ?_
    refine zr_iload_n (pc := 5) (zq_d eX11_mayTurn 3 rfl) 1 rfl rfl ?_
    refine zr_iload_n (pc := 6) (zq_d eX11_mayTurn 4 rfl) 2 rfl rfl ?_
    refine zr_iconst (pc := 7) (zq_d eX11_mayTurn 5 rfl) zc_i1 ?_
    refine zr_isub (pc := 8) (zq_d eX11_mayTurn 6 rfl) ?_
    refine zr_iconst (pc := 9) (zq_d eX11_mayTurn 7 rfl) zc_i4 ?_
    refine zr_idivk (pc := 10) (zq_d eX11_mayTurn 8 rfl) (by decide) ?_
    refine zr_iload_n (pc := 11) (zq_d eX11_mayTurn 9 rfl) 2 rfl rfl ?_
    refine zr_iconst (pc := 12) (zq_d eX11_mayTurn 10 rfl) zc_i1 ?_
    refine zr_isub (pc := 13) (zq_d eX11_mayTurn 11 rfl) ?_
    refine zr_iconst (pc := 14) (zq_d eX11_mayTurn 12 rfl) zc_i4 ?_
    refine zr_iremk (pc := 15) (zq_d eX11_mayTurn 13 rfl) (by decide) ?_
    refine zr_Vi (pc := 16) [_, _, _] (zq_d eX11_mayTurn 14 rfl) (s_X11_mayCome G N z X _ _ _) zd_X11_mayCome zl_RX11_343 om_69 rfl rfl rfl rfl (Nat.le_of_ble_eq_true rfl) (Nat.le_of_ble_eq_true rfl) (Nat.le_of_ble_eq_true rfl) ⟨Nat.le_refl _, Nat.le_refl _⟩ (fun v1 => ?_)
    refine zr_if_eq (pc := 19) 26 (zq_d eX11_mayTurn 15 rfl) (by decide) (fun _ => ?_) (fun _ => ?_)
    · refine zr_iconst (pc := 26) (zq_d eX11_mayTurn 18 rfl) zc_i0 ?_
      exact zr_zreturn (pc := 27) (zq_d eX11_mayTurn 19 rfl) rfl rfl rfl (Nat.zero_le _) (Nat.zero_le _)
    · refine zr_iconst (pc := 22) (zq_d eX11_mayTurn 16 rfl) zc_i1 ?_
      refine zr_goto (pc := 23) 27 (zq_d eX11_mayTurn 17 rfl) (by decide) ?_
      exact zr_zreturn (pc := 27) (zq_d eX11_mayTurn 19 rfl) rfl rfl rfl (Nat.zero_le _) (Nat.zero_le _)
def f_X11_behindTurn (N : Nat) (X : zq_M) (a1 : Int32) (a2 : Int32) : Option Int32 :=
  if ¬ a2 = 0 then ((f_X11_moved N X a1 ((a2 - (1 : Int32)) / (4 : Int32)) (zq_irem (a2 - (1 : Int32)) (4 : Int32))).bind (fun v1 => some v1)) else (some a1)
set_option maxRecDepth 20000 in
set_option maxHeartbeats 8000000 in
theorem s_X11_behindTurn (G : zq_G) (N z : Nat) (X : zq_M) (a1 : Int32) (a2 : Int32) : zq_V G YX11_behindTurn (2, 0, 0) (zq_ei zq_shM z X) 0 0 0 (lv_args 0 [.ref (zq_ad G 69), .int a1, .int a2]) [] zq_shM z X (f_X11_behindTurn N X a1 a2) := by
  unfold f_X11_behindTurn
  refine zr_lo (l2 := [(0, .ref (zq_ad G 69)), (1, .int a1), (2, .int a2)]) [0, 1, 2] rfl ?_
  refine zr_iload_n (pc := 0) (zq_d eX11_behindTurn 0 rfl) 2 rfl rfl ?_
  refine zr_if_ne (pc := 1) 8 (zq_d eX11_behindTurn 1 rfl) (by decide) (fun _ => ?_) (fun _ => ?_)
  · refine zr_aload_n (pc := 8) (zq_d eX11_behindTurn 4 rfl) 0 rfl rfl ?_
    refine zr_iload_n (pc := 9) (zq_d eX11_behindTurn 5 rfl) 1 rfl rfl ?_
    refine zr_iload_n (pc := 10) (zq_d eX11_behindTurn 6 rfl) 2 rfl rfl ?_
    refine zr_iconst (pc := 11) (zq_d eX11_behindTurn 7 rfl) zc_i1 ?_
    refine zr_isub (pc := 12) (zq_d eX11_behindTurn 8 rfl) ?_
    refine zr_iconst (pc := 13) (zq_d eX11_behindTurn 9 rfl) zc_i4 ?_
    refine zr_idivk (pc := 14) (zq_d eX11_behindTurn 10 rfl) (by decide) ?_
    refine zr_iload_n (pc := 15) (zq_d eX11_behindTurn 11 rfl) 2 rfl rfl ?_
    refine zr_iconst (pc := 16) (zq_d eX11_behindTurn 12 rfl) zc_i1 ?_
    refine zr_isub (pc := 17) (zq_d eX11_behindTurn 13 rfl) ?_
    refine zr_iconst (pc := 18) (zq_d eX11_behindTurn 14 rfl) zc_i4 ?_
    refine zr_iremk (pc := 19) (zq_d eX11_behindTurn 15 rfl) (by decide) ?_
    refine zr_Vi (pc := 20) [_, _, _] (zq_d eX11_behindTurn 16 rfl) (s_X11_moved G N z X _ _ _) zd_X11_moved zl_RX11_229 om_69 rfl rfl rfl rfl (Nat.le_of_ble_eq_true rfl) (Nat.le_of_ble_eq_true rfl) (Nat.le_of_ble_eq_true rfl) ⟨Nat.le_refl _, Nat.le_refl _⟩ (fun v1 => ?_)
    exact zr_ireturn (pc := 23) (zq_d eX11_behindTurn 17 rfl) rfl rfl (Nat.zero_le _) (Nat.zero_le _)
  · refine zr_iload_n (pc := 4) (zq_d eX11_behindTurn 2 rfl) 1 rfl rfl ?_
    refine zr_goto (pc := 5) 23 (zq_d eX11_behindTurn 3 rfl) (by decide) ?_
    exact zr_ireturn (pc := 23) (zq_d eX11_behindTurn 17 rfl) rfl rfl (Nat.zero_le _) (Nat.zero_le _)
def f_X11_turns (N : Nat) (X : zq_M)  : Option Int32 :=
  some (((4 : Int32) * (X.1 69 0)) + (1 : Int32))
set_option maxRecDepth 20000 in
set_option maxHeartbeats 8000000 in
theorem s_X11_turns (G : zq_G) (N z : Nat) (X : zq_M)  : zq_V G YX11_turns (1, 0, 0) (zq_ei zq_shM z X) 0 0 0 (lv_args 0 [.ref (zq_ad G 69)]) [] zq_shM z X (f_X11_turns N X ) := by
  unfold f_X11_turns
  refine zr_lo (l2 := [(0, .ref (zq_ad G 69))]) [0] rfl ?_
  refine zr_iconst (pc := 0) (zq_d eX11_turns 0 rfl) zc_i4 ?_
  refine zr_aload_n (pc := 1) (zq_d eX11_turns 1 rfl) 0 rfl rfl ?_
  refine zr_getI (pc := 2) (zq_d eX11_turns 2 rfl) zf_RX11_7 km_69_0 ?_
  refine zr_imul (pc := 5) (zq_d eX11_turns 3 rfl) ?_
  refine zr_iconst (pc := 6) (zq_d eX11_turns 4 rfl) zc_i1 ?_
  refine zr_iadd (pc := 7) (zq_d eX11_turns 5 rfl) ?_
  exact zr_ireturn (pc := 8) (zq_d eX11_turns 6 rfl) rfl rfl (Nat.zero_le _) (Nat.zero_le _)
def j_X11_winsThird_61 (N : Nat) (X : zq_M) (a2 : Int32) (a3 : Int32) (v1 : Int32) (rc18_1 : Int32 → Option Int32) (v4 : Int32) (v5 : Int32) : Option Int32 :=
  (f_X11_isWon N X v4 a2 a3 v5).bind (fun v6 => if v6 = 0 then (rc18_1 (v1 + (1 : Int32))) else (some (1 : Int32)))
def b_X11_winsThird_18 (N : Nat) (X : zq_M) (a1 : Int32) (a2 : Int32) (a3 : Int32) (a4 : Int32) (rc18_1 : Int32 → Option Int32) (v1 : Int32) : Option Int32 :=
  (f_X11_turns N X).bind (fun v2 => if v2 ≤ v1 then (some (0 : Int32)) else ((f_X11_mayTurn N X a1 v1).bind (fun v3 => if v3 = 0 then (rc18_1 (v1 + (1 : Int32))) else ((f_X11_behindTurn N X a1 v1).bind (fun v4 => if ¬ v1 = 0 then (j_X11_winsThird_61 N X a2 a3 v1 rc18_1 v4 (a4 + (1 : Int32))) else (j_X11_winsThird_61 N X a2 a3 v1 rc18_1 v4 a4))))))
def f_X11_winsThird (N : Nat) (X : zq_M) (a1 : Int32) (a2 : Int32) (a3 : Int32) (a4 : Int32) (a5 : Int32) : Option Int32 :=
  if ¬ a5 = 0 then (zq_loop (fun _ => none) (b_X11_winsThird_18 N X a1 a2 a3 a4) N (0 : Int32)) else ((f_X11_isWon N X a1 a2 a3 a4).bind (fun v7 => zq_gz v7 (some v7)))
set_option maxRecDepth 20000 in
set_option maxHeartbeats 8000000 in
theorem s_X11_winsThird (G : zq_G) (N z : Nat) (X : zq_M) (a1 : Int32) (a2 : Int32) (a3 : Int32) (a4 : Int32) (a5 : Int32) : zq_V G YX11_winsThird (6, 0, 0) (zq_ei zq_shM z X) 0 0 0 (lv_args 0 [.ref (zq_ad G 69), .int a1, .int a2, .int a3, .int a4, .int a5]) [] zq_shM z X (f_X11_winsThird N X a1 a2 a3 a4 a5) := by
  unfold f_X11_winsThird
  refine zr_lo (l2 := [(0, .ref (zq_ad G 69)), (1, .int a1), (2, .int a2), (3, .int a3), (4, .int a4), (5, .int a5)]) [0, 1, 2, 3, 4, 5] rfl ?_
  refine zr_iload (pc := 0) (zq_d eX11_winsThird 0 rfl) 5 rfl ?_
  refine zr_if_ne (pc := 2) 15 (zq_d eX11_winsThird 1 rfl) (by decide) (fun _ => ?_) (fun _ => ?_)
  · refine zr_iconst (pc := 15) (zq_d eX11_winsThird 9 rfl) zc_i0 ?_
    refine zr_istore (pc := 16) (lo2 := [(6, .int (0 : Int32)), (0, .ref (zq_ad G 69)), (1, .int a1), (2, .int a2), (3, .int a3), (4, .int a4), (5, .int a5)]) (zq_d eX11_winsThird 10 rfl) (Nat.le_of_ble_eq_true rfl) rfl ?_
    have hbrc18_1 : ∀ rc18_1 : Int32 → Option Int32, (∀ (v1 : Int32), zq_V G YX11_winsThird (6, 0, 0) (zq_ei zq_shM z X) 0 0 18 [(0, .ref (zq_ad G 69)), (1, .int a1), (2, .int a2), (3, .int a3), (4, .int a4), (6, .int v1)] [] zq_shM z X (rc18_1 v1)) → ∀ (v1 : Int32), zq_V G YX11_winsThird (6, 0, 0) (zq_ei zq_shM z X) 0 0 18 [(0, .ref (zq_ad G 69)), (1, .int a1), (2, .int a2), (3, .int a3), (4, .int a4), (6, .int v1)] [] zq_shM z X (b_X11_winsThird_18 N X a1 a2 a3 a4 rc18_1 v1) := by
      intro rc18_1 hrc18_1 v1
      unfold b_X11_winsThird_18
      refine zr_iload (pc := 18) (zq_d eX11_winsThird 11 rfl) 5 rfl ?_
      refine zr_aload_n (pc := 20) (zq_d eX11_winsThird 12 rfl) 0 rfl rfl ?_
      refine zr_Vi (pc := 21) [] (zq_d eX11_winsThird 13 rfl) (s_X11_turns G N z X ) zd_X11_turns zl_RX11_379 om_69 rfl rfl rfl rfl (Nat.le_of_ble_eq_true rfl) (Nat.le_of_ble_eq_true rfl) (Nat.le_of_ble_eq_true rfl) ⟨Nat.le_refl _, Nat.le_refl _⟩ (fun v2 => ?_)
      refine zr_icmp_ge (pc := 24) 75 (zq_d eX11_winsThird 14 rfl) (by decide) (fun _ => ?_) (fun _ => ?_)
      · refine zr_iconst (pc := 75) (zq_d eX11_winsThird 40 rfl) zc_i0 ?_
        exact zr_zreturn (pc := 76) (zq_d eX11_winsThird 41 rfl) rfl rfl rfl (Nat.zero_le _) (Nat.zero_le _)
      · refine zr_aload_n (pc := 27) (zq_d eX11_winsThird 15 rfl) 0 rfl rfl ?_
        refine zr_iload_n (pc := 28) (zq_d eX11_winsThird 16 rfl) 1 rfl rfl ?_
        refine zr_iload (pc := 29) (zq_d eX11_winsThird 17 rfl) 5 rfl ?_
        refine zr_Vi (pc := 31) [_, _] (zq_d eX11_winsThird 18 rfl) (s_X11_mayTurn G N z X _ _) zd_X11_mayTurn zl_RX11_382 om_69 rfl rfl rfl rfl (Nat.le_of_ble_eq_true rfl) (Nat.le_of_ble_eq_true rfl) (Nat.le_of_ble_eq_true rfl) ⟨Nat.le_refl _, Nat.le_refl _⟩ (fun v3 => ?_)
        refine zr_if_eq (pc := 34) 69 (zq_d eX11_winsThird 19 rfl) (by decide) (fun _ => ?_) (fun _ => ?_)
        · refine zr_iinc (pc := 69) (j := 5) (v := (v1 + (1 : Int32))) (lo2 := [(6, .int (v1 + (1 : Int32))), (0, .ref (zq_ad G 69)), (1, .int a1), (2, .int a2), (3, .int a3), (4, .int a4)]) (zq_d eX11_winsThird 38 rfl) rfl (by rw [zc_i1]) (Nat.le_of_ble_eq_true rfl) rfl ?_
          refine zr_goto (pc := 72) 18 (zq_d eX11_winsThird 39 rfl) (by decide) ?_
          exact zr_lo [1, 2, 3, 4, 5, 0] rfl (hrc18_1 (v1 + (1 : Int32)))
        · refine zr_aload_n (pc := 37) (zq_d eX11_winsThird 20 rfl) 0 rfl rfl ?_
          refine zr_aload_n (pc := 38) (zq_d eX11_winsThird 21 rfl) 0 rfl rfl ?_
          refine zr_iload_n (pc := 39) (zq_d eX11_winsThird 22 rfl) 1 rfl rfl ?_
          refine zr_iload (pc := 40) (zq_d eX11_winsThird 23 rfl) 5 rfl ?_
          refine zr_Vi (pc := 42) [_, _] (zq_d eX11_winsThird 24 rfl) (s_X11_behindTurn G N z X _ _) zd_X11_behindTurn zl_RX11_385 om_69 rfl rfl rfl rfl (Nat.le_of_ble_eq_true rfl) (Nat.le_of_ble_eq_true rfl) (Nat.le_of_ble_eq_true rfl) ⟨Nat.le_refl _, Nat.le_refl _⟩ (fun v4 => ?_)
          refine zr_iload_n (pc := 45) (zq_d eX11_winsThird 25 rfl) 2 rfl rfl ?_
          refine zr_iload_n (pc := 46) (zq_d eX11_winsThird 26 rfl) 3 rfl rfl ?_
          refine zr_iload (pc := 47) (zq_d eX11_winsThird 27 rfl) 5 rfl ?_
          have hj61_2 : ∀ (v5 : Int32), zq_V G YX11_winsThird (6, 0, 0) (zq_ei zq_shM z X) 0 0 61 [(0, .ref (zq_ad G 69)), (1, .int a1), (2, .int a2), (3, .int a3), (4, .int a4), (6, .int v1)] [.int v5, .int a3, .int a2, .int v4, .ref (zq_ad G 69)] zq_shM z X (j_X11_winsThird_61 N X a2 a3 v1 rc18_1 v4 v5) := by
            intro v5
            unfold j_X11_winsThird_61
            refine zr_Vi (pc := 61) [_, _, _, _] (zq_d eX11_winsThird 34 rfl) (s_X11_isWon G N z X _ _ _ _) zd_X11_isWon zl_RX11_376 om_69 rfl rfl rfl rfl (Nat.le_of_ble_eq_true rfl) (Nat.le_of_ble_eq_true rfl) (Nat.le_of_ble_eq_true rfl) ⟨Nat.le_refl _, Nat.le_refl _⟩ (fun v6 => ?_)
            refine zr_if_eq (pc := 64) 69 (zq_d eX11_winsThird 35 rfl) (by decide) (fun _ => ?_) (fun _ => ?_)
            · refine zr_iinc (pc := 69) (j := 5) (v := (v1 + (1 : Int32))) (lo2 := [(6, .int (v1 + (1 : Int32))), (0, .ref (zq_ad G 69)), (1, .int a1), (2, .int a2), (3, .int a3), (4, .int a4)]) (zq_d eX11_winsThird 38 rfl) rfl (by rw [zc_i1]) (Nat.le_of_ble_eq_true rfl) rfl ?_
              refine zr_goto (pc := 72) 18 (zq_d eX11_winsThird 39 rfl) (by decide) ?_
              exact zr_lo [1, 2, 3, 4, 5, 0] rfl (hrc18_1 (v1 + (1 : Int32)))
            · refine zr_iconst (pc := 67) (zq_d eX11_winsThird 36 rfl) zc_i1 ?_
              exact zr_zreturn (pc := 68) (zq_d eX11_winsThird 37 rfl) rfl rfl rfl (Nat.zero_le _) (Nat.zero_le _)
          refine zr_if_ne (pc := 49) 57 (zq_d eX11_winsThird 28 rfl) (by decide) (fun _ => ?_) (fun _ => ?_)
          · refine zr_iload (pc := 57) (zq_d eX11_winsThird 31 rfl) 4 rfl ?_
            refine zr_iconst (pc := 59) (zq_d eX11_winsThird 32 rfl) zc_i1 ?_
            refine zr_iadd (pc := 60) (zq_d eX11_winsThird 33 rfl) ?_
            exact zr_lo [0, 1, 2, 3, 4, 5] rfl (hj61_2 (a4 + (1 : Int32)))
          · refine zr_iload (pc := 52) (zq_d eX11_winsThird 29 rfl) 4 rfl ?_
            refine zr_goto (pc := 54) 61 (zq_d eX11_winsThird 30 rfl) (by decide) ?_
            exact zr_lo [0, 1, 2, 3, 4, 5] rfl (hj61_2 a4)
    have hlrc18_1 := zr_loop (P := fun (rc18_1 : Int32 → Option Int32) => ∀ (v1 : Int32), zq_V G YX11_winsThird (6, 0, 0) (zq_ei zq_shM z X) 0 0 18 [(0, .ref (zq_ad G 69)), (1, .int a1), (2, .int a2), (3, .int a3), (4, .int a4), (6, .int v1)] [] zq_shM z X (rc18_1 v1)) (fun _ => none) (b_X11_winsThird_18 N X a1 a2 a3 a4) (fun _ => zr_none) hbrc18_1 N
    exact zr_lo [1, 2, 3, 4, 5, 0] rfl (hlrc18_1 (0 : Int32))
  · refine zr_aload_n (pc := 5) (zq_d eX11_winsThird 2 rfl) 0 rfl rfl ?_
    refine zr_iload_n (pc := 6) (zq_d eX11_winsThird 3 rfl) 1 rfl rfl ?_
    refine zr_iload_n (pc := 7) (zq_d eX11_winsThird 4 rfl) 2 rfl rfl ?_
    refine zr_iload_n (pc := 8) (zq_d eX11_winsThird 5 rfl) 3 rfl rfl ?_
    refine zr_iload (pc := 9) (zq_d eX11_winsThird 6 rfl) 4 rfl ?_
    refine zr_Vi (pc := 11) [_, _, _, _] (zq_d eX11_winsThird 7 rfl) (s_X11_isWon G N z X _ _ _ _) zd_X11_isWon zl_RX11_376 om_69 rfl rfl rfl rfl (Nat.le_of_ble_eq_true rfl) (Nat.le_of_ble_eq_true rfl) (Nat.le_of_ble_eq_true rfl) ⟨Nat.le_refl _, Nat.le_refl _⟩ (fun v7 => ?_)
    exact zr_zreturnG (pc := 14) (zq_d eX11_winsThird 8 rfl) rfl rfl (Nat.zero_le _) (Nat.zero_le _)
def j_X11_winsSecond_73 (N : Nat) (X : zq_M) (a2 : Int32) (a3 : Int32) (v1 : Int32) (rc19_1 : Int32 → Option Int32) (v4 : Int32) (v5 : Int32) (v6 : Int32) : Option Int32 :=
  (f_X11_winsThird N X v4 a2 a3 v5 v6).bind (fun v7 => if ¬ v7 = 0 then (rc19_1 (v1 + (1 : Int32))) else (some (0 : Int32)))
def j_X11_winsSecond_62 (N : Nat) (X : zq_M) (a2 : Int32) (a3 : Int32) (a5 : Int32) (v1 : Int32) (rc19_1 : Int32 → Option Int32) (v4 : Int32) (v5 : Int32) : Option Int32 :=
  if ¬ a5 = (3 : Int32) then (j_X11_winsSecond_73 N X a2 a3 v1 rc19_1 v4 v5 (0 : Int32)) else (j_X11_winsSecond_73 N X a2 a3 v1 rc19_1 v4 v5 (1 : Int32))
def b_X11_winsSecond_19 (N : Nat) (X : zq_M) (a1 : Int32) (a2 : Int32) (a3 : Int32) (a4 : Int32) (a5 : Int32) (rc19_1 : Int32 → Option Int32) (v1 : Int32) : Option Int32 :=
  (f_X11_turns N X).bind (fun v2 => if v2 ≤ v1 then (some (1 : Int32)) else ((f_X11_mayTurn N X a1 v1).bind (fun v3 => if v3 = 0 then (rc19_1 (v1 + (1 : Int32))) else ((f_X11_behindTurn N X a1 v1).bind (fun v4 => if ¬ v1 = 0 then (j_X11_winsSecond_62 N X a2 a3 a5 v1 rc19_1 v4 (a4 + (1 : Int32))) else (j_X11_winsSecond_62 N X a2 a3 a5 v1 rc19_1 v4 a4))))))
def f_X11_winsSecond (N : Nat) (X : zq_M) (a1 : Int32) (a2 : Int32) (a3 : Int32) (a4 : Int32) (a5 : Int32) : Option Int32 :=
  if (2 : Int32) ≤ a5 then (zq_loop (fun _ => none) (b_X11_winsSecond_19 N X a1 a2 a3 a4 a5) N (0 : Int32)) else ((f_X11_isWon N X a1 a2 a3 a4).bind (fun v8 => zq_gz v8 (some v8)))
set_option maxRecDepth 20000 in
set_option maxHeartbeats 8000000 in
theorem s_X11_winsSecond (G : zq_G) (N z : Nat) (X : zq_M) (a1 : Int32) (a2 : Int32) (a3 : Int32) (a4 : Int32) (a5 : Int32) : zq_V G YX11_winsSecond (7, 0, 0) (zq_ei zq_shM z X) 0 0 0 (lv_args 0 [.ref (zq_ad G 69), .int a1, .int a2, .int a3, .int a4, .int a5]) [] zq_shM z X (f_X11_winsSecond N X a1 a2 a3 a4 a5) := by
  unfold f_X11_winsSecond
  refine zr_lo (l2 := [(0, .ref (zq_ad G 69)), (1, .int a1), (2, .int a2), (3, .int a3), (4, .int a4), (5, .int a5)]) [0, 1, 2, 3, 4, 5] rfl ?_
  refine zr_iload (pc := 0) (zq_d eX11_winsSecond 0 rfl) 5 rfl ?_
  refine zr_iconst (pc := 2) (zq_d eX11_winsSecond 1 rfl) zc_i2 ?_
  refine zr_icmp_ge (pc := 3) 16 (zq_d eX11_winsSecond 2 rfl) (by decide) (fun _ => ?_) (fun _ => ?_)
  · refine zr_iconst (pc := 16) (zq_d eX11_winsSecond 10 rfl) zc_i0 ?_
    refine zr_istore (pc := 17) (lo2 := [(6, .int (0 : Int32)), (0, .ref (zq_ad G 69)), (1, .int a1), (2, .int a2), (3, .int a3), (4, .int a4), (5, .int a5)]) (zq_d eX11_winsSecond 11 rfl) (Nat.le_of_ble_eq_true rfl) rfl ?_
    have hbrc19_1 : ∀ rc19_1 : Int32 → Option Int32, (∀ (v1 : Int32), zq_V G YX11_winsSecond (7, 0, 0) (zq_ei zq_shM z X) 0 0 19 [(0, .ref (zq_ad G 69)), (1, .int a1), (2, .int a2), (3, .int a3), (4, .int a4), (5, .int a5), (6, .int v1)] [] zq_shM z X (rc19_1 v1)) → ∀ (v1 : Int32), zq_V G YX11_winsSecond (7, 0, 0) (zq_ei zq_shM z X) 0 0 19 [(0, .ref (zq_ad G 69)), (1, .int a1), (2, .int a2), (3, .int a3), (4, .int a4), (5, .int a5), (6, .int v1)] [] zq_shM z X (b_X11_winsSecond_19 N X a1 a2 a3 a4 a5 rc19_1 v1) := by
      intro rc19_1 hrc19_1 v1
      unfold b_X11_winsSecond_19
      refine zr_iload (pc := 19) (zq_d eX11_winsSecond 12 rfl) 6 rfl ?_
      refine zr_aload_n (pc := 21) (zq_d eX11_winsSecond 13 rfl) 0 rfl rfl ?_
      refine zr_Vi (pc := 22) [] (zq_d eX11_winsSecond 14 rfl) (s_X11_turns G N z X ) zd_X11_turns zl_RX11_379 om_69 rfl rfl rfl rfl (Nat.le_of_ble_eq_true rfl) (Nat.le_of_ble_eq_true rfl) (Nat.le_of_ble_eq_true rfl) ⟨Nat.le_refl _, Nat.le_refl _⟩ (fun v2 => ?_)
      refine zr_icmp_ge (pc := 25) 87 (zq_d eX11_winsSecond 15 rfl) (by decide) (fun _ => ?_) (fun _ => ?_)
      · refine zr_iconst (pc := 87) (zq_d eX11_winsSecond 47 rfl) zc_i1 ?_
        exact zr_zreturn (pc := 88) (zq_d eX11_winsSecond 48 rfl) rfl rfl rfl (Nat.zero_le _) (Nat.zero_le _)
      · refine zr_aload_n (pc := 28) (zq_d eX11_winsSecond 16 rfl) 0 rfl rfl ?_
        refine zr_iload_n (pc := 29) (zq_d eX11_winsSecond 17 rfl) 1 rfl rfl ?_
        refine zr_iload (pc := 30) (zq_d eX11_winsSecond 18 rfl) 6 rfl ?_
        refine zr_Vi (pc := 32) [_, _] (zq_d eX11_winsSecond 19 rfl) (s_X11_mayTurn G N z X _ _) zd_X11_mayTurn zl_RX11_382 om_69 rfl rfl rfl rfl (Nat.le_of_ble_eq_true rfl) (Nat.le_of_ble_eq_true rfl) (Nat.le_of_ble_eq_true rfl) ⟨Nat.le_refl _, Nat.le_refl _⟩ (fun v3 => ?_)
        refine zr_if_eq (pc := 35) 81 (zq_d eX11_winsSecond 20 rfl) (by decide) (fun _ => ?_) (fun _ => ?_)
        · refine zr_iinc (pc := 81) (j := 6) (v := (v1 + (1 : Int32))) (lo2 := [(6, .int (v1 + (1 : Int32))), (0, .ref (zq_ad G 69)), (1, .int a1), (2, .int a2), (3, .int a3), (4, .int a4), (5, .int a5)]) (zq_d eX11_winsSecond 45 rfl) rfl (by rw [zc_i1]) (Nat.le_of_ble_eq_true rfl) rfl ?_
          refine zr_goto (pc := 84) 19 (zq_d eX11_winsSecond 46 rfl) (by decide) ?_
          exact zr_lo [1, 2, 3, 4, 5, 6, 0] rfl (hrc19_1 (v1 + (1 : Int32)))
        · refine zr_aload_n (pc := 38) (zq_d eX11_winsSecond 21 rfl) 0 rfl rfl ?_
          refine zr_aload_n (pc := 39) (zq_d eX11_winsSecond 22 rfl) 0 rfl rfl ?_
          refine zr_iload_n (pc := 40) (zq_d eX11_winsSecond 23 rfl) 1 rfl rfl ?_
          refine zr_iload (pc := 41) (zq_d eX11_winsSecond 24 rfl) 6 rfl ?_
          refine zr_Vi (pc := 43) [_, _] (zq_d eX11_winsSecond 25 rfl) (s_X11_behindTurn G N z X _ _) zd_X11_behindTurn zl_RX11_385 om_69 rfl rfl rfl rfl (Nat.le_of_ble_eq_true rfl) (Nat.le_of_ble_eq_true rfl) (Nat.le_of_ble_eq_true rfl) ⟨Nat.le_refl _, Nat.le_refl _⟩ (fun v4 => ?_)
          refine zr_iload_n (pc := 46) (zq_d eX11_winsSecond 26 rfl) 2 rfl rfl ?_
          refine zr_iload_n (pc := 47) (zq_d eX11_winsSecond 27 rfl) 3 rfl rfl ?_
          refine zr_iload (pc := 48) (zq_d eX11_winsSecond 28 rfl) 6 rfl ?_
          have hj62_3 : ∀ (v5 : Int32), zq_V G YX11_winsSecond (7, 0, 0) (zq_ei zq_shM z X) 0 0 62 [(0, .ref (zq_ad G 69)), (1, .int a1), (2, .int a2), (3, .int a3), (4, .int a4), (5, .int a5), (6, .int v1)] [.int v5, .int a3, .int a2, .int v4, .ref (zq_ad G 69)] zq_shM z X (j_X11_winsSecond_62 N X a2 a3 a5 v1 rc19_1 v4 v5) := by
            intro v5
            unfold j_X11_winsSecond_62
            refine zr_iload (pc := 62) (zq_d eX11_winsSecond 35 rfl) 5 rfl ?_
            refine zr_iconst (pc := 64) (zq_d eX11_winsSecond 36 rfl) zc_i3 ?_
            have hj73_2 : ∀ (v6 : Int32), zq_V G YX11_winsSecond (7, 0, 0) (zq_ei zq_shM z X) 0 0 73 [(0, .ref (zq_ad G 69)), (1, .int a1), (2, .int a2), (3, .int a3), (4, .int a4), (5, .int a5), (6, .int v1)] [.int v6, .int v5, .int a3, .int a2, .int v4, .ref (zq_ad G 69)] zq_shM z X (j_X11_winsSecond_73 N X a2 a3 v1 rc19_1 v4 v5 v6) := by
              intro v6
              unfold j_X11_winsSecond_73
              refine zr_Vi (pc := 73) [_, _, _, _, _] (zq_d eX11_winsSecond 41 rfl) (s_X11_winsThird G N z X _ _ _ _ _) zd_X11_winsThird zl_RX11_388 om_69 rfl rfl rfl rfl (Nat.le_of_ble_eq_true rfl) (Nat.le_of_ble_eq_true rfl) (Nat.le_of_ble_eq_true rfl) ⟨Nat.le_refl _, Nat.le_refl _⟩ (fun v7 => ?_)
              refine zr_if_ne (pc := 76) 81 (zq_d eX11_winsSecond 42 rfl) (by decide) (fun _ => ?_) (fun _ => ?_)
              · refine zr_iinc (pc := 81) (j := 6) (v := (v1 + (1 : Int32))) (lo2 := [(6, .int (v1 + (1 : Int32))), (0, .ref (zq_ad G 69)), (1, .int a1), (2, .int a2), (3, .int a3), (4, .int a4), (5, .int a5)]) (zq_d eX11_winsSecond 45 rfl) rfl (by rw [zc_i1]) (Nat.le_of_ble_eq_true rfl) rfl ?_
                refine zr_goto (pc := 84) 19 (zq_d eX11_winsSecond 46 rfl) (by decide) ?_
                exact zr_lo [1, 2, 3, 4, 5, 6, 0] rfl (hrc19_1 (v1 + (1 : Int32)))
              · refine zr_iconst (pc := 79) (zq_d eX11_winsSecond 43 rfl) zc_i0 ?_
                exact zr_zreturn (pc := 80) (zq_d eX11_winsSecond 44 rfl) rfl rfl rfl (Nat.zero_le _) (Nat.zero_le _)
            refine zr_icmp_ne (pc := 65) 72 (zq_d eX11_winsSecond 37 rfl) (by decide) (fun _ => ?_) (fun _ => ?_)
            · refine zr_iconst (pc := 72) (zq_d eX11_winsSecond 40 rfl) zc_i0 ?_
              exact zr_lo [0, 1, 2, 3, 4, 5, 6] rfl (hj73_2 (0 : Int32))
            · refine zr_iconst (pc := 68) (zq_d eX11_winsSecond 38 rfl) zc_i1 ?_
              refine zr_goto (pc := 69) 73 (zq_d eX11_winsSecond 39 rfl) (by decide) ?_
              exact zr_lo [0, 1, 2, 3, 4, 5, 6] rfl (hj73_2 (1 : Int32))
          refine zr_if_ne (pc := 50) 58 (zq_d eX11_winsSecond 29 rfl) (by decide) (fun _ => ?_) (fun _ => ?_)
          · refine zr_iload (pc := 58) (zq_d eX11_winsSecond 32 rfl) 4 rfl ?_
            refine zr_iconst (pc := 60) (zq_d eX11_winsSecond 33 rfl) zc_i1 ?_
            refine zr_iadd (pc := 61) (zq_d eX11_winsSecond 34 rfl) ?_
            exact zr_lo [0, 1, 2, 3, 4, 5, 6] rfl (hj62_3 (a4 + (1 : Int32)))
          · refine zr_iload (pc := 53) (zq_d eX11_winsSecond 30 rfl) 4 rfl ?_
            refine zr_goto (pc := 55) 62 (zq_d eX11_winsSecond 31 rfl) (by decide) ?_
            exact zr_lo [0, 1, 2, 3, 4, 5, 6] rfl (hj62_3 a4)
    have hlrc19_1 := zr_loop (P := fun (rc19_1 : Int32 → Option Int32) => ∀ (v1 : Int32), zq_V G YX11_winsSecond (7, 0, 0) (zq_ei zq_shM z X) 0 0 19 [(0, .ref (zq_ad G 69)), (1, .int a1), (2, .int a2), (3, .int a3), (4, .int a4), (5, .int a5), (6, .int v1)] [] zq_shM z X (rc19_1 v1)) (fun _ => none) (b_X11_winsSecond_19 N X a1 a2 a3 a4 a5) (fun _ => zr_none) hbrc19_1 N
    exact zr_lo [1, 2, 3, 4, 5, 6, 0] rfl (hlrc19_1 (0 : Int32))
  · refine zr_aload_n (pc := 6) (zq_d eX11_winsSecond 3 rfl) 0 rfl rfl ?_
    refine zr_iload_n (pc := 7) (zq_d eX11_winsSecond 4 rfl) 1 rfl rfl ?_
    refine zr_iload_n (pc := 8) (zq_d eX11_winsSecond 5 rfl) 2 rfl rfl ?_
    refine zr_iload_n (pc := 9) (zq_d eX11_winsSecond 6 rfl) 3 rfl rfl ?_
    refine zr_iload (pc := 10) (zq_d eX11_winsSecond 7 rfl) 4 rfl ?_
    refine zr_Vi (pc := 12) [_, _, _, _] (zq_d eX11_winsSecond 8 rfl) (s_X11_isWon G N z X _ _ _ _) zd_X11_isWon zl_RX11_376 om_69 rfl rfl rfl rfl (Nat.le_of_ble_eq_true rfl) (Nat.le_of_ble_eq_true rfl) (Nat.le_of_ble_eq_true rfl) ⟨Nat.le_refl _, Nat.le_refl _⟩ (fun v8 => ?_)
    exact zr_zreturnG (pc := 15) (zq_d eX11_winsSecond 9 rfl) rfl rfl (Nat.zero_le _) (Nat.zero_le _)
def j_X11_game_100 (N : Nat) (a1 : Int32) (a2 : Int32) (a3 : Int32) (X4 : zq_M) (v5 : Int32) (rc47_1 : Int32 → Option (Int32 × zq_M)) (v8 : Int32) (v9 : Int32) : Option (Int32 × zq_M) :=
  (f_X11_winsSecond N X4 v8 a1 a2 v9 a3).bind (fun v10 => if v10 = 0 then (rc47_1 (v5 + (1 : Int32))) else (some ((1 : Int32), X4)))
def b_X11_game_47 (N : Nat) (a1 : Int32) (a2 : Int32) (a3 : Int32) (X4 : zq_M) (rc47_1 : Int32 → Option (Int32 × zq_M)) (v5 : Int32) : Option (Int32 × zq_M) :=
  (f_X11_turns N X4).bind (fun v6 => if v6 ≤ v5 then (some ((0 : Int32), X4)) else ((f_X11_mayTurn N X4 (X4.1 69 1) v5).bind (fun v7 => if v7 = 0 then (rc47_1 (v5 + (1 : Int32))) else ((f_X11_behindTurn N X4 (X4.1 69 1) v5).bind (fun v8 => if ¬ v5 = 0 then (j_X11_game_100 N a1 a2 a3 X4 v5 rc47_1 v8 ((X4.1 69 2) + (1 : Int32))) else (j_X11_game_100 N a1 a2 a3 X4 v5 rc47_1 v8 (X4.1 69 2)))))))
def f_X11_game (N : Nat) (X : zq_M) (a1 : Int32) (a2 : Int32) (a3 : Int32) : Option (Int32 × zq_M) :=
  (f_X11_isRoom N X a1).bind (fun v1 => if ¬ v1 = 0 then ((f_X11_within N X a2 (0 : Int32) ((zq_shl (1 : Int32) (X.1 69 0)) - (1 : Int32))).bind (fun v2 => if v2 = 0 then (some ((-2 : Int32), X)) else ((f_X11_within N X a3 (1 : Int32) (3 : Int32)).bind (fun v3 => if ¬ v3 = 0 then ((f_X11_layComings N X).bind (fun X4 => zq_loop (fun _ => none) (b_X11_game_47 N a1 a2 a3 X4) N (0 : Int32))) else (some ((-2 : Int32), X)))))) else (some ((-1 : Int32), X)))
set_option maxRecDepth 20000 in
set_option maxHeartbeats 8000000 in
theorem s_X11_game (G : zq_G) (N z : Nat) (X : zq_M) (a1 : Int32) (a2 : Int32) (a3 : Int32) : zq_V G YX11_game (8, 0, 0) (zq_si zq_shM z) 0 0 0 (lv_args 0 [.ref (zq_ad G 69), .int a1, .int a2, .int a3]) [] zq_shM z X (f_X11_game N X a1 a2 a3) := by
  unfold f_X11_game
  refine zr_lo (l2 := [(0, .ref (zq_ad G 69)), (1, .int a1), (2, .int a2), (3, .int a3)]) [0, 1, 2, 3] rfl ?_
  refine zr_aload_n (pc := 0) (zq_d eX11_game 0 rfl) 0 rfl rfl ?_
  refine zr_iload_n (pc := 1) (zq_d eX11_game 1 rfl) 1 rfl rfl ?_
  refine zr_Vi (pc := 2) [_] (zq_d eX11_game 2 rfl) (s_X11_isRoom G N z X _) zd_X11_isRoom zl_RX11_259 om_69 rfl rfl rfl rfl (Nat.le_of_ble_eq_true rfl) (Nat.le_of_ble_eq_true rfl) (Nat.le_of_ble_eq_true rfl) ⟨Nat.le_refl _, Nat.le_refl _⟩ (fun v1 => ?_)
  refine zr_if_ne (pc := 5) 10 (zq_d eX11_game 3 rfl) (by decide) (fun _ => ?_) (fun _ => ?_)
  · refine zr_aload_n (pc := 10) (zq_d eX11_game 6 rfl) 0 rfl rfl ?_
    refine zr_iload_n (pc := 11) (zq_d eX11_game 7 rfl) 2 rfl rfl ?_
    refine zr_iconst (pc := 12) (zq_d eX11_game 8 rfl) zc_i0 ?_
    refine zr_iconst (pc := 13) (zq_d eX11_game 9 rfl) zc_i1 ?_
    refine zr_aload_n (pc := 14) (zq_d eX11_game 10 rfl) 0 rfl rfl ?_
    refine zr_getI (pc := 15) (zq_d eX11_game 11 rfl) zf_RX11_7 km_69_0 ?_
    refine zr_ishl (pc := 18) (zq_d eX11_game 12 rfl) ?_
    refine zr_iconst (pc := 19) (zq_d eX11_game 13 rfl) zc_i1 ?_
    refine zr_isub (pc := 20) (zq_d eX11_game 14 rfl) ?_
    refine zr_Vi (pc := 21) [_, _, _] (zq_d eX11_game 15 rfl) (s_X11_within G N z X _ _ _) zd_X11_within zl_RX11_217 om_69 rfl rfl rfl rfl (Nat.le_of_ble_eq_true rfl) (Nat.le_of_ble_eq_true rfl) (Nat.le_of_ble_eq_true rfl) ⟨Nat.le_refl _, Nat.le_refl _⟩ (fun v2 => ?_)
    refine zr_if_eq (pc := 24) 37 (zq_d eX11_game 16 rfl) (by decide) (fun _ => ?_) (fun _ => ?_)
    · refine zr_bipush (pc := 37) (zq_d eX11_game 23 rfl) zc_bm2 ?_
      exact zr_ireturn (pc := 39) (zq_d eX11_game 24 rfl) rfl rfl (Nat.zero_le _) (Nat.zero_le _)
    · refine zr_aload_n (pc := 27) (zq_d eX11_game 17 rfl) 0 rfl rfl ?_
      refine zr_iload_n (pc := 28) (zq_d eX11_game 18 rfl) 3 rfl rfl ?_
      refine zr_iconst (pc := 29) (zq_d eX11_game 19 rfl) zc_i1 ?_
      refine zr_iconst (pc := 30) (zq_d eX11_game 20 rfl) zc_i3 ?_
      refine zr_Vi (pc := 31) [_, _, _] (zq_d eX11_game 21 rfl) (s_X11_within G N z X _ _ _) zd_X11_within zl_RX11_217 om_69 rfl rfl rfl rfl (Nat.le_of_ble_eq_true rfl) (Nat.le_of_ble_eq_true rfl) (Nat.le_of_ble_eq_true rfl) ⟨Nat.le_refl _, Nat.le_refl _⟩ (fun v3 => ?_)
      refine zr_if_ne (pc := 34) 40 (zq_d eX11_game 22 rfl) (by decide) (fun _ => ?_) (fun _ => ?_)
      · refine zr_aload_n (pc := 40) (zq_d eX11_game 25 rfl) 0 rfl rfl ?_
        refine zr_Vv (pc := 41) [] (zq_d eX11_game 26 rfl) (s_X11_layComings G N z X ) zd_X11_layComings zl_RX11_355 om_69 rfl rfl rfl rfl (Nat.le_of_ble_eq_true rfl) (Nat.le_of_ble_eq_true rfl) (Nat.le_of_ble_eq_true rfl) ⟨Nat.le_refl _, Nat.le_refl _⟩ (fun X4 => ?_)
        refine zr_iconst (pc := 44) (zq_d eX11_game 27 rfl) zc_i0 ?_
        refine zr_istore (pc := 45) (lo2 := [(4, .int (0 : Int32)), (0, .ref (zq_ad G 69)), (1, .int a1), (2, .int a2), (3, .int a3)]) (zq_d eX11_game 28 rfl) (Nat.le_of_ble_eq_true rfl) rfl ?_
        have hbrc47_1 : ∀ rc47_1 : Int32 → Option (Int32 × zq_M), (∀ (v5 : Int32), zq_V G YX11_game (8, 0, 0) (zq_si zq_shM z) 0 0 47 [(0, .ref (zq_ad G 69)), (1, .int a1), (2, .int a2), (3, .int a3), (4, .int v5)] [] zq_shM z X4 (rc47_1 v5)) → ∀ (v5 : Int32), zq_V G YX11_game (8, 0, 0) (zq_si zq_shM z) 0 0 47 [(0, .ref (zq_ad G 69)), (1, .int a1), (2, .int a2), (3, .int a3), (4, .int v5)] [] zq_shM z X4 (b_X11_game_47 N a1 a2 a3 X4 rc47_1 v5) := by
          intro rc47_1 hrc47_1 v5
          unfold b_X11_game_47
          refine zr_iload (pc := 47) (zq_d eX11_game 29 rfl) 4 rfl ?_
          refine zr_aload_n (pc := 49) (zq_d eX11_game 30 rfl) 0 rfl rfl ?_
          refine zr_Vi (pc := 50) [] (zq_d eX11_game 31 rfl) (s_X11_turns G N z X4 ) zd_X11_turns zl_RX11_379 om_69 rfl rfl rfl rfl (Nat.le_of_ble_eq_true rfl) (Nat.le_of_ble_eq_true rfl) (Nat.le_of_ble_eq_true rfl) ⟨Nat.le_refl _, Nat.le_refl _⟩ (fun v6 => ?_)
          refine zr_icmp_ge (pc := 53) 115 (zq_d eX11_game 32 rfl) (by decide) (fun _ => ?_) (fun _ => ?_)
          · refine zr_iconst (pc := 115) (zq_d eX11_game 63 rfl) zc_i0 ?_
            exact zr_ireturn (pc := 116) (zq_d eX11_game 64 rfl) rfl rfl (Nat.zero_le _) (Nat.zero_le _)
          · refine zr_aload_n (pc := 56) (zq_d eX11_game 33 rfl) 0 rfl rfl ?_
            refine zr_aload_n (pc := 57) (zq_d eX11_game 34 rfl) 0 rfl rfl ?_
            refine zr_getI (pc := 58) (zq_d eX11_game 35 rfl) zf_RX11_13 km_69_1 ?_
            refine zr_iload (pc := 61) (zq_d eX11_game 36 rfl) 4 rfl ?_
            refine zr_Vi (pc := 63) [_, _] (zq_d eX11_game 37 rfl) (s_X11_mayTurn G N z X4 _ _) zd_X11_mayTurn zl_RX11_382 om_69 rfl rfl rfl rfl (Nat.le_of_ble_eq_true rfl) (Nat.le_of_ble_eq_true rfl) (Nat.le_of_ble_eq_true rfl) ⟨Nat.le_refl _, Nat.le_refl _⟩ (fun v7 => ?_)
            refine zr_if_eq (pc := 66) 109 (zq_d eX11_game 38 rfl) (by decide) (fun _ => ?_) (fun _ => ?_)
            · refine zr_iinc (pc := 109) (j := 4) (v := (v5 + (1 : Int32))) (lo2 := [(4, .int (v5 + (1 : Int32))), (0, .ref (zq_ad G 69)), (1, .int a1), (2, .int a2), (3, .int a3)]) (zq_d eX11_game 61 rfl) rfl (by rw [zc_i1]) (Nat.le_of_ble_eq_true rfl) rfl ?_
              refine zr_goto (pc := 112) 47 (zq_d eX11_game 62 rfl) (by decide) ?_
              exact zr_lo [1, 2, 3, 4, 0] rfl (hrc47_1 (v5 + (1 : Int32)))
            · refine zr_aload_n (pc := 69) (zq_d eX11_game 39 rfl) 0 rfl rfl ?_
              refine zr_aload_n (pc := 70) (zq_d eX11_game 40 rfl) 0 rfl rfl ?_
              refine zr_aload_n (pc := 71) (zq_d eX11_game 41 rfl) 0 rfl rfl ?_
              refine zr_getI (pc := 72) (zq_d eX11_game 42 rfl) zf_RX11_13 km_69_1 ?_
              refine zr_iload (pc := 75) (zq_d eX11_game 43 rfl) 4 rfl ?_
              refine zr_Vi (pc := 77) [_, _] (zq_d eX11_game 44 rfl) (s_X11_behindTurn G N z X4 _ _) zd_X11_behindTurn zl_RX11_385 om_69 rfl rfl rfl rfl (Nat.le_of_ble_eq_true rfl) (Nat.le_of_ble_eq_true rfl) (Nat.le_of_ble_eq_true rfl) ⟨Nat.le_refl _, Nat.le_refl _⟩ (fun v8 => ?_)
              refine zr_iload_n (pc := 80) (zq_d eX11_game 45 rfl) 1 rfl rfl ?_
              refine zr_iload_n (pc := 81) (zq_d eX11_game 46 rfl) 2 rfl rfl ?_
              refine zr_iload (pc := 82) (zq_d eX11_game 47 rfl) 4 rfl ?_
              have hj100_2 : ∀ (v9 : Int32), zq_V G YX11_game (8, 0, 0) (zq_si zq_shM z) 0 0 100 [(0, .ref (zq_ad G 69)), (1, .int a1), (2, .int a2), (3, .int a3), (4, .int v5)] [.int v9, .int a2, .int a1, .int v8, .ref (zq_ad G 69)] zq_shM z X4 (j_X11_game_100 N a1 a2 a3 X4 v5 rc47_1 v8 v9) := by
                intro v9
                unfold j_X11_game_100
                refine zr_iload_n (pc := 100) (zq_d eX11_game 56 rfl) 3 rfl rfl ?_
                refine zr_Vi (pc := 101) [_, _, _, _, _] (zq_d eX11_game 57 rfl) (s_X11_winsSecond G N z X4 _ _ _ _ _) zd_X11_winsSecond zl_RX11_392 om_69 rfl rfl rfl rfl (Nat.le_of_ble_eq_true rfl) (Nat.le_of_ble_eq_true rfl) (Nat.le_of_ble_eq_true rfl) ⟨Nat.le_refl _, Nat.le_refl _⟩ (fun v10 => ?_)
                refine zr_if_eq (pc := 104) 109 (zq_d eX11_game 58 rfl) (by decide) (fun _ => ?_) (fun _ => ?_)
                · refine zr_iinc (pc := 109) (j := 4) (v := (v5 + (1 : Int32))) (lo2 := [(4, .int (v5 + (1 : Int32))), (0, .ref (zq_ad G 69)), (1, .int a1), (2, .int a2), (3, .int a3)]) (zq_d eX11_game 61 rfl) rfl (by rw [zc_i1]) (Nat.le_of_ble_eq_true rfl) rfl ?_
                  refine zr_goto (pc := 112) 47 (zq_d eX11_game 62 rfl) (by decide) ?_
                  exact zr_lo [1, 2, 3, 4, 0] rfl (hrc47_1 (v5 + (1 : Int32)))
                · refine zr_iconst (pc := 107) (zq_d eX11_game 59 rfl) zc_i1 ?_
                  exact zr_ireturn (pc := 108) (zq_d eX11_game 60 rfl) rfl rfl (Nat.zero_le _) (Nat.zero_le _)
              refine zr_if_ne (pc := 84) 94 (zq_d eX11_game 48 rfl) (by decide) (fun _ => ?_) (fun _ => ?_)
              · refine zr_aload_n (pc := 94) (zq_d eX11_game 52 rfl) 0 rfl rfl ?_
                refine zr_getI (pc := 95) (zq_d eX11_game 53 rfl) zf_RX11_16 km_69_2 ?_
                refine zr_iconst (pc := 98) (zq_d eX11_game 54 rfl) zc_i1 ?_
                refine zr_iadd (pc := 99) (zq_d eX11_game 55 rfl) ?_
                exact zr_lo [0, 1, 2, 3, 4] rfl (hj100_2 ((X4.1 69 2) + (1 : Int32)))
              · refine zr_aload_n (pc := 87) (zq_d eX11_game 49 rfl) 0 rfl rfl ?_
                refine zr_getI (pc := 88) (zq_d eX11_game 50 rfl) zf_RX11_16 km_69_2 ?_
                refine zr_goto (pc := 91) 100 (zq_d eX11_game 51 rfl) (by decide) ?_
                exact zr_lo [0, 1, 2, 3, 4] rfl (hj100_2 (X4.1 69 2))
        have hlrc47_1 := zr_loop (P := fun (rc47_1 : Int32 → Option (Int32 × zq_M)) => ∀ (v5 : Int32), zq_V G YX11_game (8, 0, 0) (zq_si zq_shM z) 0 0 47 [(0, .ref (zq_ad G 69)), (1, .int a1), (2, .int a2), (3, .int a3), (4, .int v5)] [] zq_shM z X4 (rc47_1 v5)) (fun _ => none) (b_X11_game_47 N a1 a2 a3 X4) (fun _ => zr_none) hbrc47_1 N
        exact zr_lo [1, 2, 3, 4, 0] rfl (hlrc47_1 (0 : Int32))
      · refine zr_bipush (pc := 37) (zq_d eX11_game 23 rfl) zc_bm2 ?_
        exact zr_ireturn (pc := 39) (zq_d eX11_game 24 rfl) rfl rfl (Nat.zero_le _) (Nat.zero_le _)
  · refine zr_iconst (pc := 8) (zq_d eX11_game 4 rfl) zc_im1 ?_
    exact zr_ireturn (pc := 9) (zq_d eX11_game 5 rfl) rfl rfl (Nat.zero_le _) (Nat.zero_le _)
def k_X11_votes_79_2 (v3 : Int32)  : Option Int32 :=
  if v3 ≤ 0 then (some (0 : Int32)) else (some (1 : Int32))
def b_X11_votes_23 (N : Nat) (X : zq_M) (a1 : Int32) (a2 : Int32) (rc23_1 : Int32 → Int32 → Option Int32) (v3 : Int32) (v4 : Int32) : Option Int32 :=
  if (X.1 69 0) ≤ v4 then (k_X11_votes_79_2 v3) else ((f_X11_placeOf N X (X.1 69 1) v4).bind (fun v5 => if v5 = a1 then (zq_ck v4 5 ((f_X11_has N X (X.1 72 (zq_ix v4)) a2).bind (fun v6 => if v6 = 0 then (rc23_1 (v3 + (-1 : Int32)) (v4 + (1 : Int32))) else (rc23_1 (v3 + (1 : Int32)) (v4 + (1 : Int32)))))) else (rc23_1 (v3 + (0 : Int32)) (v4 + (1 : Int32)))))
def f_X11_votes (N : Nat) (X : zq_M) (a1 : Int32) (a2 : Int32) : Option Int32 :=
  (f_X11_isRoom N X a1).bind (fun v1 => if v1 = 0 then (some (-1 : Int32)) else ((f_X11_isThing N X a2).bind (fun v2 => if ¬ v2 = 0 then (zq_loop (fun _ _ => none) (b_X11_votes_23 N X a1 a2) N (0 : Int32) (0 : Int32)) else (some (-1 : Int32)))))
set_option maxRecDepth 20000 in
set_option maxHeartbeats 8000000 in
theorem s_X11_votes (G : zq_G) (N z : Nat) (X : zq_M) (a1 : Int32) (a2 : Int32) : zq_V G YX11_votes (3, 0, 0) (zq_ei zq_shM z X) 0 0 0 (lv_args 0 [.ref (zq_ad G 69), .int a1, .int a2]) [] zq_shM z X (f_X11_votes N X a1 a2) := by
  unfold f_X11_votes
  refine zr_lo (l2 := [(0, .ref (zq_ad G 69)), (1, .int a1), (2, .int a2)]) [0, 1, 2] rfl ?_
  refine zr_aload_n (pc := 0) (zq_d eX11_votes 0 rfl) 0 rfl rfl ?_
  refine zr_iload_n (pc := 1) (zq_d eX11_votes 1 rfl) 1 rfl rfl ?_
  refine zr_Vi (pc := 2) [_] (zq_d eX11_votes 2 rfl) (s_X11_isRoom G N z X _) zd_X11_isRoom zl_RX11_259 om_69 rfl rfl rfl rfl (Nat.le_of_ble_eq_true rfl) (Nat.le_of_ble_eq_true rfl) (Nat.le_of_ble_eq_true rfl) ⟨Nat.le_refl _, Nat.le_refl _⟩ (fun v1 => ?_)
  refine zr_if_eq (pc := 5) 16 (zq_d eX11_votes 3 rfl) (by decide) (fun _ => ?_) (fun _ => ?_)
  · refine zr_iconst (pc := 16) (zq_d eX11_votes 8 rfl) zc_im1 ?_
    exact zr_ireturn (pc := 17) (zq_d eX11_votes 9 rfl) rfl rfl (Nat.zero_le _) (Nat.zero_le _)
  · refine zr_aload_n (pc := 8) (zq_d eX11_votes 4 rfl) 0 rfl rfl ?_
    refine zr_iload_n (pc := 9) (zq_d eX11_votes 5 rfl) 2 rfl rfl ?_
    refine zr_Vi (pc := 10) [_] (zq_d eX11_votes 6 rfl) (s_X11_isThing G N z X _) zd_X11_isThing zl_RX11_334 om_69 rfl rfl rfl rfl (Nat.le_of_ble_eq_true rfl) (Nat.le_of_ble_eq_true rfl) (Nat.le_of_ble_eq_true rfl) ⟨Nat.le_refl _, Nat.le_refl _⟩ (fun v2 => ?_)
    refine zr_if_ne (pc := 13) 18 (zq_d eX11_votes 7 rfl) (by decide) (fun _ => ?_) (fun _ => ?_)
    · refine zr_iconst (pc := 18) (zq_d eX11_votes 10 rfl) zc_i0 ?_
      refine zr_istore_n (pc := 19) (lo2 := [(3, .int (0 : Int32)), (0, .ref (zq_ad G 69)), (1, .int a1), (2, .int a2)]) (zq_d eX11_votes 11 rfl) rfl (Nat.le_of_ble_eq_true rfl) rfl ?_
      refine zr_iconst (pc := 20) (zq_d eX11_votes 12 rfl) zc_i0 ?_
      refine zr_istore (pc := 21) (lo2 := [(4, .int (0 : Int32)), (3, .int (0 : Int32)), (0, .ref (zq_ad G 69)), (1, .int a1), (2, .int a2)]) (zq_d eX11_votes 13 rfl) (Nat.le_of_ble_eq_true rfl) rfl ?_
      have hbrc23_1 : ∀ rc23_1 : Int32 → Int32 → Option Int32, (∀ (v3 : Int32) (v4 : Int32), zq_V G YX11_votes (3, 0, 0) (zq_ei zq_shM z X) 0 0 23 [(0, .ref (zq_ad G 69)), (1, .int a1), (2, .int a2), (3, .int v3), (4, .int v4)] [] zq_shM z X (rc23_1 v3 v4)) → ∀ (v3 : Int32) (v4 : Int32), zq_V G YX11_votes (3, 0, 0) (zq_ei zq_shM z X) 0 0 23 [(0, .ref (zq_ad G 69)), (1, .int a1), (2, .int a2), (3, .int v3), (4, .int v4)] [] zq_shM z X (b_X11_votes_23 N X a1 a2 rc23_1 v3 v4) := by
        intro rc23_1 hrc23_1 v3 v4
        unfold b_X11_votes_23
        refine zr_iload (pc := 23) (zq_d eX11_votes 14 rfl) 4 rfl ?_
        refine zr_aload_n (pc := 25) (zq_d eX11_votes 15 rfl) 0 rfl rfl ?_
        refine zr_getI (pc := 26) (zq_d eX11_votes 16 rfl) zf_RX11_7 km_69_0 ?_
        refine zr_icmp_ge (pc := 29) 79 (zq_d eX11_votes 17 rfl) (by decide) (fun _ => ?_) (fun _ => ?_)
        · unfold k_X11_votes_79_2
          refine zr_iload_n (pc := 79) (zq_d eX11_votes 43 rfl) 3 rfl rfl ?_
          refine zr_if_le (pc := 80) 87 (zq_d eX11_votes 44 rfl) (by decide) (fun _ => ?_) (fun _ => ?_)
          · refine zr_iconst (pc := 87) (zq_d eX11_votes 47 rfl) zc_i0 ?_
            exact zr_ireturn (pc := 88) (zq_d eX11_votes 48 rfl) rfl rfl (Nat.zero_le _) (Nat.zero_le _)
          · refine zr_iconst (pc := 83) (zq_d eX11_votes 45 rfl) zc_i1 ?_
            refine zr_goto (pc := 84) 88 (zq_d eX11_votes 46 rfl) (by decide) ?_
            exact zr_ireturn (pc := 88) (zq_d eX11_votes 48 rfl) rfl rfl (Nat.zero_le _) (Nat.zero_le _)
        · refine zr_iload_n (pc := 32) (zq_d eX11_votes 18 rfl) 3 rfl rfl ?_
          refine zr_aload_n (pc := 33) (zq_d eX11_votes 19 rfl) 0 rfl rfl ?_
          refine zr_aload_n (pc := 34) (zq_d eX11_votes 20 rfl) 0 rfl rfl ?_
          refine zr_getI (pc := 35) (zq_d eX11_votes 21 rfl) zf_RX11_13 km_69_1 ?_
          refine zr_iload (pc := 38) (zq_d eX11_votes 22 rfl) 4 rfl ?_
          refine zr_Vi (pc := 40) [_, _] (zq_d eX11_votes 23 rfl) (s_X11_placeOf G N z X _ _) zd_X11_placeOf zl_RX11_221 om_69 rfl rfl rfl rfl (Nat.le_of_ble_eq_true rfl) (Nat.le_of_ble_eq_true rfl) (Nat.le_of_ble_eq_true rfl) ⟨Nat.le_refl _, Nat.le_refl _⟩ (fun v5 => ?_)
          refine zr_iload_n (pc := 43) (zq_d eX11_votes 24 rfl) 1 rfl rfl ?_
          refine zr_icmp_eq (pc := 44) 51 (zq_d eX11_votes 25 rfl) (by decide) (fun _ => ?_) (fun _ => ?_)
          · refine zr_aload_n (pc := 51) (zq_d eX11_votes 28 rfl) 0 rfl rfl ?_
            refine zr_aload_n (pc := 52) (zq_d eX11_votes 29 rfl) 0 rfl rfl ?_
            refine zr_getC (pc := 53) (zq_d eX11_votes 30 rfl) zf_RX11_29 km_69_6 ?_
            refine zr_iload (pc := 56) (zq_d eX11_votes 31 rfl) 4 rfl ?_
            refine zr_iald (pc := 58) (zq_d eX11_votes 32 rfl) am_72 ?_
            refine zr_iload_n (pc := 59) (zq_d eX11_votes 33 rfl) 2 rfl rfl ?_
            refine zr_Vi (pc := 60) [_, _] (zq_d eX11_votes 34 rfl) (s_X11_has G N z X _ _) zd_X11_has zl_RX11_331 om_69 rfl rfl rfl rfl (Nat.le_of_ble_eq_true rfl) (Nat.le_of_ble_eq_true rfl) (Nat.le_of_ble_eq_true rfl) ⟨Nat.le_refl _, Nat.le_refl _⟩ (fun v6 => ?_)
            refine zr_if_eq (pc := 63) 70 (zq_d eX11_votes 35 rfl) (by decide) (fun _ => ?_) (fun _ => ?_)
            · refine zr_iconst (pc := 70) (zq_d eX11_votes 38 rfl) zc_im1 ?_
              refine zr_iadd (pc := 71) (zq_d eX11_votes 39 rfl) ?_
              refine zr_istore_n (pc := 72) (lo2 := [(3, .int (v3 + (-1 : Int32))), (0, .ref (zq_ad G 69)), (1, .int a1), (2, .int a2), (4, .int v4)]) (zq_d eX11_votes 40 rfl) rfl (Nat.le_of_ble_eq_true rfl) rfl ?_
              refine zr_iinc (pc := 73) (j := 4) (v := (v4 + (1 : Int32))) (lo2 := [(4, .int (v4 + (1 : Int32))), (3, .int (v3 + (-1 : Int32))), (0, .ref (zq_ad G 69)), (1, .int a1), (2, .int a2)]) (zq_d eX11_votes 41 rfl) rfl (by rw [zc_i1]) (Nat.le_of_ble_eq_true rfl) rfl ?_
              refine zr_goto (pc := 76) 23 (zq_d eX11_votes 42 rfl) (by decide) ?_
              exact zr_lo [2, 3, 4, 1, 0] rfl (hrc23_1 (v3 + (-1 : Int32)) (v4 + (1 : Int32)))
            · refine zr_iconst (pc := 66) (zq_d eX11_votes 36 rfl) zc_i1 ?_
              refine zr_goto (pc := 67) 71 (zq_d eX11_votes 37 rfl) (by decide) ?_
              refine zr_iadd (pc := 71) (zq_d eX11_votes 39 rfl) ?_
              refine zr_istore_n (pc := 72) (lo2 := [(3, .int (v3 + (1 : Int32))), (0, .ref (zq_ad G 69)), (1, .int a1), (2, .int a2), (4, .int v4)]) (zq_d eX11_votes 40 rfl) rfl (Nat.le_of_ble_eq_true rfl) rfl ?_
              refine zr_iinc (pc := 73) (j := 4) (v := (v4 + (1 : Int32))) (lo2 := [(4, .int (v4 + (1 : Int32))), (3, .int (v3 + (1 : Int32))), (0, .ref (zq_ad G 69)), (1, .int a1), (2, .int a2)]) (zq_d eX11_votes 41 rfl) rfl (by rw [zc_i1]) (Nat.le_of_ble_eq_true rfl) rfl ?_
              refine zr_goto (pc := 76) 23 (zq_d eX11_votes 42 rfl) (by decide) ?_
              exact zr_lo [2, 3, 4, 1, 0] rfl (hrc23_1 (v3 + (1 : Int32)) (v4 + (1 : Int32)))
          · refine zr_iconst (pc := 47) (zq_d eX11_votes 26 rfl) zc_i0 ?_
            refine zr_goto (pc := 48) 71 (zq_d eX11_votes 27 rfl) (by decide) ?_
            refine zr_iadd (pc := 71) (zq_d eX11_votes 39 rfl) ?_
            refine zr_istore_n (pc := 72) (lo2 := [(3, .int (v3 + (0 : Int32))), (0, .ref (zq_ad G 69)), (1, .int a1), (2, .int a2), (4, .int v4)]) (zq_d eX11_votes 40 rfl) rfl (Nat.le_of_ble_eq_true rfl) rfl ?_
            refine zr_iinc (pc := 73) (j := 4) (v := (v4 + (1 : Int32))) (lo2 := [(4, .int (v4 + (1 : Int32))), (3, .int (v3 + (0 : Int32))), (0, .ref (zq_ad G 69)), (1, .int a1), (2, .int a2)]) (zq_d eX11_votes 41 rfl) rfl (by rw [zc_i1]) (Nat.le_of_ble_eq_true rfl) rfl ?_
            refine zr_goto (pc := 76) 23 (zq_d eX11_votes 42 rfl) (by decide) ?_
            exact zr_lo [2, 3, 4, 1, 0] rfl (hrc23_1 (v3 + (0 : Int32)) (v4 + (1 : Int32)))
      have hlrc23_1 := zr_loop (P := fun (rc23_1 : Int32 → Int32 → Option Int32) => ∀ (v3 : Int32) (v4 : Int32), zq_V G YX11_votes (3, 0, 0) (zq_ei zq_shM z X) 0 0 23 [(0, .ref (zq_ad G 69)), (1, .int a1), (2, .int a2), (3, .int v3), (4, .int v4)] [] zq_shM z X (rc23_1 v3 v4)) (fun _ _ => none) (b_X11_votes_23 N X a1 a2) (fun _ _ => zr_none) hbrc23_1 N
      exact zr_lo [2, 3, 4, 1, 0] rfl (hlrc23_1 (0 : Int32) (0 : Int32))
    · refine zr_iconst (pc := 16) (zq_d eX11_votes 8 rfl) zc_im1 ?_
      exact zr_ireturn (pc := 17) (zq_d eX11_votes 9 rfl) rfl rfl (Nat.zero_le _) (Nat.zero_le _)
def f_X11_spoken (N : Nat) (X : zq_M) (a1 : Int32) (a2 : Int32) : Option (Int32 × zq_M) :=
  if ¬ a1 = (-1 : Int32) then ((f_X11_within N X a1 (0 : Int32) ((zq_shl (1 : Int32) (X.1 69 0)) - (1 : Int32))).bind (fun v1 => if v1 = 0 then (some ((-2 : Int32), X)) else ((f_X11_ones N X a1).bind (fun v2 => if ¬ (zq_irem v2 (2 : Int32)) = 0 then ((f_X11_isPerson N X a2).bind (fun v3 => if v3 = 0 then (some ((-1 : Int32), X)) else ((f_X11_has N X a1 a2).bind (fun v4 => if ¬ v4 = 0 then (if ¬ (X.1 69 36) = (12 : Int32) then (zq_ck (X.1 69 36) 12 (zq_b (zq_u1 X 93 (zq_ix (X.1 69 36)) a1) (fun X5 => zq_ck (X5.1 69 36) 12 (zq_b (zq_u1 X5 94 (zq_ix (X5.1 69 36)) a2) (fun X6 => zq_b (zq_u1 X6 69 36 ((X6.1 69 36) + (1 : Int32))) (fun X7 => some ((X7.1 69 36), X7))))))) else (some ((-4 : Int32), X))) else (some ((-1 : Int32), X)))))) else (some ((-2 : Int32), X)))))) else (zq_b (zq_u1 X 69 36 (0 : Int32)) (fun X8 => some ((0 : Int32), X8)))
set_option maxRecDepth 20000 in
set_option maxHeartbeats 8000000 in
theorem s_X11_spoken (G : zq_G) (N z : Nat) (X : zq_M) (a1 : Int32) (a2 : Int32) : zq_V G YX11_spoken (3, 0, 0) (zq_si zq_shM z) 0 0 0 (lv_args 0 [.ref (zq_ad G 69), .int a1, .int a2]) [] zq_shM z X (f_X11_spoken N X a1 a2) := by
  unfold f_X11_spoken
  refine zr_lo (l2 := [(0, .ref (zq_ad G 69)), (1, .int a1), (2, .int a2)]) [0, 1, 2] rfl ?_
  refine zr_iload_n (pc := 0) (zq_d eX11_spoken 0 rfl) 1 rfl rfl ?_
  refine zr_iconst (pc := 1) (zq_d eX11_spoken 1 rfl) zc_im1 ?_
  refine zr_icmp_ne (pc := 2) 12 (zq_d eX11_spoken 2 rfl) (by decide) (fun _ => ?_) (fun _ => ?_)
  · refine zr_aload_n (pc := 12) (zq_d eX11_spoken 8 rfl) 0 rfl rfl ?_
    refine zr_iload_n (pc := 13) (zq_d eX11_spoken 9 rfl) 1 rfl rfl ?_
    refine zr_iconst (pc := 14) (zq_d eX11_spoken 10 rfl) zc_i0 ?_
    refine zr_iconst (pc := 15) (zq_d eX11_spoken 11 rfl) zc_i1 ?_
    refine zr_aload_n (pc := 16) (zq_d eX11_spoken 12 rfl) 0 rfl rfl ?_
    refine zr_getI (pc := 17) (zq_d eX11_spoken 13 rfl) zf_RX11_7 km_69_0 ?_
    refine zr_ishl (pc := 20) (zq_d eX11_spoken 14 rfl) ?_
    refine zr_iconst (pc := 21) (zq_d eX11_spoken 15 rfl) zc_i1 ?_
    refine zr_isub (pc := 22) (zq_d eX11_spoken 16 rfl) ?_
    refine zr_Vi (pc := 23) [_, _, _] (zq_d eX11_spoken 17 rfl) (s_X11_within G N z X _ _ _) zd_X11_within zl_RX11_217 om_69 rfl rfl rfl rfl (Nat.le_of_ble_eq_true rfl) (Nat.le_of_ble_eq_true rfl) (Nat.le_of_ble_eq_true rfl) ⟨Nat.le_refl _, Nat.le_refl _⟩ (fun v1 => ?_)
    refine zr_if_eq (pc := 26) 39 (zq_d eX11_spoken 18 rfl) (by decide) (fun _ => ?_) (fun _ => ?_)
    · refine zr_bipush (pc := 39) (zq_d eX11_spoken 25 rfl) zc_bm2 ?_
      exact zr_ireturn (pc := 41) (zq_d eX11_spoken 26 rfl) rfl rfl (Nat.zero_le _) (Nat.zero_le _)
    · refine zr_aload_n (pc := 29) (zq_d eX11_spoken 19 rfl) 0 rfl rfl ?_
      refine zr_iload_n (pc := 30) (zq_d eX11_spoken 20 rfl) 1 rfl rfl ?_
      refine zr_Vi (pc := 31) [_] (zq_d eX11_spoken 21 rfl) (s_X11_ones G N z X _) zd_X11_ones zl_RX11_395 om_69 rfl rfl rfl rfl (Nat.le_of_ble_eq_true rfl) (Nat.le_of_ble_eq_true rfl) (Nat.le_of_ble_eq_true rfl) ⟨Nat.le_refl _, Nat.le_refl _⟩ (fun v2 => ?_)
      refine zr_iconst (pc := 34) (zq_d eX11_spoken 22 rfl) zc_i2 ?_
      refine zr_iremk (pc := 35) (zq_d eX11_spoken 23 rfl) (by decide) ?_
      refine zr_if_ne (pc := 36) 42 (zq_d eX11_spoken 24 rfl) (by decide) (fun _ => ?_) (fun _ => ?_)
      · refine zr_aload_n (pc := 42) (zq_d eX11_spoken 27 rfl) 0 rfl rfl ?_
        refine zr_iload_n (pc := 43) (zq_d eX11_spoken 28 rfl) 2 rfl rfl ?_
        refine zr_Vi (pc := 44) [_] (zq_d eX11_spoken 29 rfl) (s_X11_isPerson G N z X _) zd_X11_isPerson zl_RX11_249 om_69 rfl rfl rfl rfl (Nat.le_of_ble_eq_true rfl) (Nat.le_of_ble_eq_true rfl) (Nat.le_of_ble_eq_true rfl) ⟨Nat.le_refl _, Nat.le_refl _⟩ (fun v3 => ?_)
        refine zr_if_eq (pc := 47) 59 (zq_d eX11_spoken 30 rfl) (by decide) (fun _ => ?_) (fun _ => ?_)
        · refine zr_iconst (pc := 59) (zq_d eX11_spoken 36 rfl) zc_im1 ?_
          exact zr_ireturn (pc := 60) (zq_d eX11_spoken 37 rfl) rfl rfl (Nat.zero_le _) (Nat.zero_le _)
        · refine zr_aload_n (pc := 50) (zq_d eX11_spoken 31 rfl) 0 rfl rfl ?_
          refine zr_iload_n (pc := 51) (zq_d eX11_spoken 32 rfl) 1 rfl rfl ?_
          refine zr_iload_n (pc := 52) (zq_d eX11_spoken 33 rfl) 2 rfl rfl ?_
          refine zr_Vi (pc := 53) [_, _] (zq_d eX11_spoken 34 rfl) (s_X11_has G N z X _ _) zd_X11_has zl_RX11_331 om_69 rfl rfl rfl rfl (Nat.le_of_ble_eq_true rfl) (Nat.le_of_ble_eq_true rfl) (Nat.le_of_ble_eq_true rfl) ⟨Nat.le_refl _, Nat.le_refl _⟩ (fun v4 => ?_)
          refine zr_if_ne (pc := 56) 61 (zq_d eX11_spoken 35 rfl) (by decide) (fun _ => ?_) (fun _ => ?_)
          · refine zr_aload_n (pc := 61) (zq_d eX11_spoken 38 rfl) 0 rfl rfl ?_
            refine zr_getI (pc := 62) (zq_d eX11_spoken 39 rfl) zf_RX11_121 km_69_36 ?_
            refine zr_bipush (pc := 65) (zq_d eX11_spoken 40 rfl) zc_b12 ?_
            refine zr_icmp_ne (pc := 67) 73 (zq_d eX11_spoken 41 rfl) (by decide) (fun _ => ?_) (fun _ => ?_)
            · refine zr_aload_n (pc := 73) (zq_d eX11_spoken 44 rfl) 0 rfl rfl ?_
              refine zr_getC (pc := 74) (zq_d eX11_spoken 45 rfl) zf_RX11_124 km_69_37 ?_
              refine zr_aload_n (pc := 77) (zq_d eX11_spoken 46 rfl) 0 rfl rfl ?_
              refine zr_getI (pc := 78) (zq_d eX11_spoken 47 rfl) zf_RX11_121 km_69_36 ?_
              refine zr_iload_n (pc := 81) (zq_d eX11_spoken 48 rfl) 1 rfl rfl ?_
              refine zr_iast (pc := 82) (zq_d eX11_spoken 49 rfl) am_93 (fun X5 => ?_)
              refine zr_aload_n (pc := 83) (zq_d eX11_spoken 50 rfl) 0 rfl rfl ?_
              refine zr_getC (pc := 84) (zq_d eX11_spoken 51 rfl) zf_RX11_127 km_69_38 ?_
              refine zr_aload_n (pc := 87) (zq_d eX11_spoken 52 rfl) 0 rfl rfl ?_
              refine zr_getI (pc := 88) (zq_d eX11_spoken 53 rfl) zf_RX11_121 km_69_36 ?_
              refine zr_iload_n (pc := 91) (zq_d eX11_spoken 54 rfl) 2 rfl rfl ?_
              refine zr_iast (pc := 92) (zq_d eX11_spoken 55 rfl) am_94 (fun X6 => ?_)
              refine zr_aload_n (pc := 93) (zq_d eX11_spoken 56 rfl) 0 rfl rfl ?_
              refine zr_dup (pc := 94) (zq_d eX11_spoken 57 rfl) rfl ?_
              refine zr_getI (pc := 95) (zq_d eX11_spoken 58 rfl) zf_RX11_121 km_69_36 ?_
              refine zr_iconst (pc := 98) (zq_d eX11_spoken 59 rfl) zc_i1 ?_
              refine zr_iadd (pc := 99) (zq_d eX11_spoken 60 rfl) ?_
              refine zr_putI (pc := 100) (zq_d eX11_spoken 61 rfl) zf_RX11_121 km_69_36 zn_11_36 (fun X7 => ?_)
              refine zr_aload_n (pc := 103) (zq_d eX11_spoken 62 rfl) 0 rfl rfl ?_
              refine zr_getI (pc := 104) (zq_d eX11_spoken 63 rfl) zf_RX11_121 km_69_36 ?_
              exact zr_ireturn (pc := 107) (zq_d eX11_spoken 64 rfl) rfl rfl (Nat.zero_le _) (Nat.zero_le _)
            · refine zr_bipush (pc := 70) (zq_d eX11_spoken 42 rfl) zc_bm4 ?_
              exact zr_ireturn (pc := 72) (zq_d eX11_spoken 43 rfl) rfl rfl (Nat.zero_le _) (Nat.zero_le _)
          · refine zr_iconst (pc := 59) (zq_d eX11_spoken 36 rfl) zc_im1 ?_
            exact zr_ireturn (pc := 60) (zq_d eX11_spoken 37 rfl) rfl rfl (Nat.zero_le _) (Nat.zero_le _)
      · refine zr_bipush (pc := 39) (zq_d eX11_spoken 25 rfl) zc_bm2 ?_
        exact zr_ireturn (pc := 41) (zq_d eX11_spoken 26 rfl) rfl rfl (Nat.zero_le _) (Nat.zero_le _)
  · refine zr_aload_n (pc := 5) (zq_d eX11_spoken 3 rfl) 0 rfl rfl ?_
    refine zr_iconst (pc := 6) (zq_d eX11_spoken 4 rfl) zc_i0 ?_
    refine zr_putI (pc := 7) (zq_d eX11_spoken 5 rfl) zf_RX11_121 km_69_36 zn_11_36 (fun X8 => ?_)
    refine zr_iconst (pc := 10) (zq_d eX11_spoken 6 rfl) zc_i0 ?_
    exact zr_ireturn (pc := 11) (zq_d eX11_spoken 7 rfl) rfl rfl (Nat.zero_le _) (Nat.zero_le _)
def b_X11_layOrder_7 (N : Nat) (rc7_1 : Int32 → Int32 → Int32 → zq_M → Option (Int32 × zq_M)) (v1 : Int32) (v2 : Int32) (v3 : Int32) (X4 : zq_M) : Option (Int32 × zq_M) :=
  if (X4.1 69 0) ≤ v3 then (some ((1 : Int32), X4)) else (zq_dv (X4.1 69 0) (zq_ck v3 5 (zq_b (zq_u1 X4 95 (zq_ix v3) (zq_irem v1 (X4.1 69 0))) (fun X5 => zq_dv (X5.1 69 0) (zq_ck v3 5 ((f_X11_has N X5 v2 (X5.1 95 (zq_ix v3))).bind (fun v6 => if v6 = 0 then (zq_ck v3 5 (zq_b (v2 ||| (zq_shl (1 : Int32) (X5.1 95 (zq_ix v3)))) (fun v7 => rc7_1 (v1 / (X5.1 69 0)) v7 (v3 + (1 : Int32)) X5))) else (some ((0 : Int32), X5)))))))))
def f_X11_layOrder (N : Nat) (X : zq_M) (a1 : Int32) : Option (Int32 × zq_M) :=
  zq_loop (fun _ _ _ _ => none) (b_X11_layOrder_7 N) N a1 (0 : Int32) (0 : Int32) X
set_option maxRecDepth 20000 in
set_option maxHeartbeats 8000000 in
theorem s_X11_layOrder (G : zq_G) (N z : Nat) (X : zq_M) (a1 : Int32) : zq_V G YX11_layOrder (2, 0, 0) (zq_si zq_shM z) 0 0 0 (lv_args 0 [.ref (zq_ad G 69), .int a1]) [] zq_shM z X (f_X11_layOrder N X a1) := by
  unfold f_X11_layOrder
  refine zr_lo (l2 := [(0, .ref (zq_ad G 69)), (1, .int a1)]) [0, 1] rfl ?_
  refine zr_iload_n (pc := 0) (zq_d eX11_layOrder 0 rfl) 1 rfl rfl ?_
  refine zr_istore_n (pc := 1) (lo2 := [(2, .int a1), (0, .ref (zq_ad G 69)), (1, .int a1)]) (zq_d eX11_layOrder 1 rfl) rfl (Nat.le_of_ble_eq_true rfl) rfl ?_
  refine zr_iconst (pc := 2) (zq_d eX11_layOrder 2 rfl) zc_i0 ?_
  refine zr_istore_n (pc := 3) (lo2 := [(3, .int (0 : Int32)), (2, .int a1), (0, .ref (zq_ad G 69)), (1, .int a1)]) (zq_d eX11_layOrder 3 rfl) rfl (Nat.le_of_ble_eq_true rfl) rfl ?_
  refine zr_iconst (pc := 4) (zq_d eX11_layOrder 4 rfl) zc_i0 ?_
  refine zr_istore (pc := 5) (lo2 := [(4, .int (0 : Int32)), (3, .int (0 : Int32)), (2, .int a1), (0, .ref (zq_ad G 69)), (1, .int a1)]) (zq_d eX11_layOrder 5 rfl) (Nat.le_of_ble_eq_true rfl) rfl ?_
  have hbrc7_1 : ∀ rc7_1 : Int32 → Int32 → Int32 → zq_M → Option (Int32 × zq_M), (∀ (v1 : Int32) (v2 : Int32) (v3 : Int32) (X4 : zq_M), zq_V G YX11_layOrder (2, 0, 0) (zq_si zq_shM z) 0 0 7 [(0, .ref (zq_ad G 69)), (2, .int v1), (3, .int v2), (4, .int v3)] [] zq_shM z X4 (rc7_1 v1 v2 v3 X4)) → ∀ (v1 : Int32) (v2 : Int32) (v3 : Int32) (X4 : zq_M), zq_V G YX11_layOrder (2, 0, 0) (zq_si zq_shM z) 0 0 7 [(0, .ref (zq_ad G 69)), (2, .int v1), (3, .int v2), (4, .int v3)] [] zq_shM z X4 (b_X11_layOrder_7 N rc7_1 v1 v2 v3 X4) := by
    intro rc7_1 hrc7_1 v1 v2 v3 X4
    unfold b_X11_layOrder_7
    refine zr_iload (pc := 7) (zq_d eX11_layOrder 6 rfl) 3 rfl ?_
    refine zr_aload_n (pc := 9) (zq_d eX11_layOrder 7 rfl) 0 rfl rfl ?_
    refine zr_getI (pc := 10) (zq_d eX11_layOrder 8 rfl) zf_RX11_7 km_69_0 ?_
    refine zr_icmp_ge (pc := 13) 71 (zq_d eX11_layOrder 9 rfl) (by decide) (fun _ => ?_) (fun _ => ?_)
    · refine zr_iconst (pc := 71) (zq_d eX11_layOrder 44 rfl) zc_i1 ?_
      exact zr_zreturn (pc := 72) (zq_d eX11_layOrder 45 rfl) rfl rfl rfl (Nat.zero_le _) (Nat.zero_le _)
    · refine zr_aload_n (pc := 16) (zq_d eX11_layOrder 10 rfl) 0 rfl rfl ?_
      refine zr_getC (pc := 17) (zq_d eX11_layOrder 11 rfl) zf_RX11_130 km_69_39 ?_
      refine zr_iload (pc := 20) (zq_d eX11_layOrder 12 rfl) 3 rfl ?_
      refine zr_iload_n (pc := 22) (zq_d eX11_layOrder 13 rfl) 1 rfl rfl ?_
      refine zr_aload_n (pc := 23) (zq_d eX11_layOrder 14 rfl) 0 rfl rfl ?_
      refine zr_getI (pc := 24) (zq_d eX11_layOrder 15 rfl) zf_RX11_7 km_69_0 ?_
      refine zr_irem (pc := 27) (zq_d eX11_layOrder 16 rfl) ?_
      refine zr_iast (pc := 28) (zq_d eX11_layOrder 17 rfl) am_95 (fun X5 => ?_)
      refine zr_iload_n (pc := 29) (zq_d eX11_layOrder 18 rfl) 1 rfl rfl ?_
      refine zr_aload_n (pc := 30) (zq_d eX11_layOrder 19 rfl) 0 rfl rfl ?_
      refine zr_getI (pc := 31) (zq_d eX11_layOrder 20 rfl) zf_RX11_7 km_69_0 ?_
      refine zr_idiv (pc := 34) (zq_d eX11_layOrder 21 rfl) ?_
      refine zr_istore_n (pc := 35) (lo2 := [(2, .int (v1 / (X5.1 69 0))), (0, .ref (zq_ad G 69)), (3, .int v2), (4, .int v3)]) (zq_d eX11_layOrder 22 rfl) rfl (Nat.le_of_ble_eq_true rfl) rfl ?_
      refine zr_aload_n (pc := 36) (zq_d eX11_layOrder 23 rfl) 1 rfl rfl ?_
      refine zr_iload_n (pc := 37) (zq_d eX11_layOrder 24 rfl) 2 rfl rfl ?_
      refine zr_aload_n (pc := 38) (zq_d eX11_layOrder 25 rfl) 1 rfl rfl ?_
      refine zr_getC (pc := 39) (zq_d eX11_layOrder 26 rfl) zf_RX11_130 km_69_39 ?_
      refine zr_iload (pc := 42) (zq_d eX11_layOrder 27 rfl) 3 rfl ?_
      refine zr_iald (pc := 44) (zq_d eX11_layOrder 28 rfl) am_95 ?_
      refine zr_Vi (pc := 45) [_, _] (zq_d eX11_layOrder 29 rfl) (s_X11_has G N z X5 _ _) zd_X11_has zl_RX11_331 om_69 rfl rfl rfl rfl (Nat.le_of_ble_eq_true rfl) (Nat.le_of_ble_eq_true rfl) (Nat.le_of_ble_eq_true rfl) ⟨Nat.le_refl _, Nat.le_refl _⟩ (fun v6 => ?_)
      refine zr_if_eq (pc := 48) 53 (zq_d eX11_layOrder 30 rfl) (by decide) (fun _ => ?_) (fun _ => ?_)
      · refine zr_iload_n (pc := 53) (zq_d eX11_layOrder 33 rfl) 2 rfl rfl ?_
        refine zr_iconst (pc := 54) (zq_d eX11_layOrder 34 rfl) zc_i1 ?_
        refine zr_aload_n (pc := 55) (zq_d eX11_layOrder 35 rfl) 1 rfl rfl ?_
        refine zr_getC (pc := 56) (zq_d eX11_layOrder 36 rfl) zf_RX11_130 km_69_39 ?_
        refine zr_iload (pc := 59) (zq_d eX11_layOrder 37 rfl) 3 rfl ?_
        refine zr_iald (pc := 61) (zq_d eX11_layOrder 38 rfl) am_95 ?_
        refine zr_ishl (pc := 62) (zq_d eX11_layOrder 39 rfl) ?_
        refine zr_ior (pc := 63) (zq_d eX11_layOrder 40 rfl) ?_
        refine zr_nm (fun v7 => ?_)
        refine zr_istore_n (pc := 64) (lo2 := [(3, .int v7), (2, .int (v1 / (X5.1 69 0))), (0, .ref (zq_ad G 69)), (4, .int v3)]) (zq_d eX11_layOrder 41 rfl) rfl (Nat.le_of_ble_eq_true rfl) rfl ?_
        refine zr_iinc (pc := 65) (j := 3) (v := (v3 + (1 : Int32))) (lo2 := [(4, .int (v3 + (1 : Int32))), (3, .int v7), (2, .int (v1 / (X5.1 69 0))), (0, .ref (zq_ad G 69))]) (zq_d eX11_layOrder 42 rfl) rfl (by rw [zc_i1]) (Nat.le_of_ble_eq_true rfl) rfl ?_
        refine zr_goto (pc := 68) 7 (zq_d eX11_layOrder 43 rfl) (by decide) ?_
        exact zr_lo [3, 2, 1, 0] rfl (hrc7_1 (v1 / (X5.1 69 0)) v7 (v3 + (1 : Int32)) X5)
      · refine zr_iconst (pc := 51) (zq_d eX11_layOrder 31 rfl) zc_i0 ?_
        exact zr_zreturn (pc := 52) (zq_d eX11_layOrder 32 rfl) rfl rfl rfl (Nat.zero_le _) (Nat.zero_le _)
  have hlrc7_1 := zr_loop (P := fun (rc7_1 : Int32 → Int32 → Int32 → zq_M → Option (Int32 × zq_M)) => ∀ (v1 : Int32) (v2 : Int32) (v3 : Int32) (X4 : zq_M), zq_V G YX11_layOrder (2, 0, 0) (zq_si zq_shM z) 0 0 7 [(0, .ref (zq_ad G 69)), (2, .int v1), (3, .int v2), (4, .int v3)] [] zq_shM z X4 (rc7_1 v1 v2 v3 X4)) (fun _ _ _ _ => none) (b_X11_layOrder_7 N) (fun _ _ _ _ => zr_none) hbrc7_1 N
  exact zr_lo [3, 2, 1, 0] rfl (hlrc7_1 a1 (0 : Int32) (0 : Int32) X)
def k_X11_goesWithRows_70_3 (N : Nat) (X : zq_M) (v1 : Int32) (rc2_1 : Int32 → Option Int32) (v2 : Int32)  : Option Int32 :=
  zq_ck v1 12 ((f_X11_ones N X (X.1 93 (zq_ix v1))).bind (fun v4 => if (((2 : Int32) * v2) + (1 : Int32)) = v4 then (rc2_1 (v1 + (1 : Int32))) else (some (0 : Int32))))
def b_X11_goesWithRows_14 (N : Nat) (X : zq_M) (v1 : Int32) (rc2_1 : Int32 → Option Int32) (rc14_2 : Int32 → Int32 → Option Int32) (v2 : Int32) (v3 : Int32) : Option Int32 :=
  if (X.1 69 0) ≤ v3 then (k_X11_goesWithRows_70_3 N X v1 rc2_1 v2) else (zq_ck v1 12 ((f_X11_has N X (X.1 93 (zq_ix v1)) v3).bind (fun v5 => if v5 = 0 then (rc14_2 (v2 + (0 : Int32)) (v3 + (1 : Int32))) else (zq_ck v3 5 (zq_ck v1 12 (zq_ck (X.1 94 (zq_ix v1)) 5 (if (X.1 95 (zq_ix (X.1 94 (zq_ix v1)))) ≤ (X.1 95 (zq_ix v3)) then (rc14_2 (v2 + (0 : Int32)) (v3 + (1 : Int32))) else (rc14_2 (v2 + (1 : Int32)) (v3 + (1 : Int32))))))))))
def b_X11_goesWithRows_2 (N : Nat) (X : zq_M) (rc2_1 : Int32 → Option Int32) (v1 : Int32) : Option Int32 :=
  if (X.1 69 36) ≤ v1 then (some (1 : Int32)) else (zq_loop (fun _ _ => none) (b_X11_goesWithRows_14 N X v1 rc2_1) N (0 : Int32) (0 : Int32))
def f_X11_goesWithRows (N : Nat) (X : zq_M)  : Option Int32 :=
  zq_loop (fun _ => none) (b_X11_goesWithRows_2 N X) N (0 : Int32)
set_option maxRecDepth 20000 in
set_option maxHeartbeats 8000000 in
theorem s_X11_goesWithRows (G : zq_G) (N z : Nat) (X : zq_M)  : zq_V G YX11_goesWithRows (2, 0, 0) (zq_ei zq_shM z X) 0 0 0 (lv_args 0 [.ref (zq_ad G 69)]) [] zq_shM z X (f_X11_goesWithRows N X ) := by
  unfold f_X11_goesWithRows
  refine zr_lo (l2 := [(0, .ref (zq_ad G 69))]) [0] rfl ?_
  refine zr_iconst (pc := 0) (zq_d eX11_goesWithRows 0 rfl) zc_i0 ?_
  refine zr_istore_n (pc := 1) (lo2 := [(1, .int (0 : Int32)), (0, .ref (zq_ad G 69))]) (zq_d eX11_goesWithRows 1 rfl) rfl (Nat.le_of_ble_eq_true rfl) rfl ?_
  have hbrc2_1 : ∀ rc2_1 : Int32 → Option Int32, (∀ (v1 : Int32), zq_V G YX11_goesWithRows (2, 0, 0) (zq_ei zq_shM z X) 0 0 2 [(0, .ref (zq_ad G 69)), (1, .int v1)] [] zq_shM z X (rc2_1 v1)) → ∀ (v1 : Int32), zq_V G YX11_goesWithRows (2, 0, 0) (zq_ei zq_shM z X) 0 0 2 [(0, .ref (zq_ad G 69)), (1, .int v1)] [] zq_shM z X (b_X11_goesWithRows_2 N X rc2_1 v1) := by
    intro rc2_1 hrc2_1 v1
    unfold b_X11_goesWithRows_2
    refine zr_iload_n (pc := 2) (zq_d eX11_goesWithRows 2 rfl) 1 rfl rfl ?_
    refine zr_aload_n (pc := 3) (zq_d eX11_goesWithRows 3 rfl) 0 rfl rfl ?_
    refine zr_getI (pc := 4) (zq_d eX11_goesWithRows 4 rfl) zf_RX11_121 km_69_36 ?_
    refine zr_icmp_ge (pc := 7) 96 (zq_d eX11_goesWithRows 5 rfl) (by decide) (fun _ => ?_) (fun _ => ?_)
    · refine zr_iconst (pc := 96) (zq_d eX11_goesWithRows 58 rfl) zc_i1 ?_
      exact zr_zreturn (pc := 97) (zq_d eX11_goesWithRows 59 rfl) rfl rfl rfl (Nat.zero_le _) (Nat.zero_le _)
    · refine zr_iconst (pc := 10) (zq_d eX11_goesWithRows 6 rfl) zc_i0 ?_
      refine zr_istore_n (pc := 11) (lo2 := [(2, .int (0 : Int32)), (0, .ref (zq_ad G 69)), (1, .int v1)]) (zq_d eX11_goesWithRows 7 rfl) rfl (Nat.le_of_ble_eq_true rfl) rfl ?_
      refine zr_iconst (pc := 12) (zq_d eX11_goesWithRows 8 rfl) zc_i0 ?_
      refine zr_istore_n (pc := 13) (lo2 := [(3, .int (0 : Int32)), (2, .int (0 : Int32)), (0, .ref (zq_ad G 69)), (1, .int v1)]) (zq_d eX11_goesWithRows 9 rfl) rfl (Nat.le_of_ble_eq_true rfl) rfl ?_
      have hbrc14_2 : ∀ rc14_2 : Int32 → Int32 → Option Int32, (∀ (v2 : Int32) (v3 : Int32), zq_V G YX11_goesWithRows (2, 0, 0) (zq_ei zq_shM z X) 0 0 14 [(0, .ref (zq_ad G 69)), (1, .int v1), (2, .int v2), (3, .int v3)] [] zq_shM z X (rc14_2 v2 v3)) → ∀ (v2 : Int32) (v3 : Int32), zq_V G YX11_goesWithRows (2, 0, 0) (zq_ei zq_shM z X) 0 0 14 [(0, .ref (zq_ad G 69)), (1, .int v1), (2, .int v2), (3, .int v3)] [] zq_shM z X (b_X11_goesWithRows_14 N X v1 rc2_1 rc14_2 v2 v3) := by
        intro rc14_2 hrc14_2 v2 v3
        unfold b_X11_goesWithRows_14
        refine zr_iload_n (pc := 14) (zq_d eX11_goesWithRows 10 rfl) 3 rfl rfl ?_
        refine zr_aload_n (pc := 15) (zq_d eX11_goesWithRows 11 rfl) 0 rfl rfl ?_
        refine zr_getI (pc := 16) (zq_d eX11_goesWithRows 12 rfl) zf_RX11_7 km_69_0 ?_
        refine zr_icmp_ge (pc := 19) 70 (zq_d eX11_goesWithRows 13 rfl) (by decide) (fun _ => ?_) (fun _ => ?_)
        · unfold k_X11_goesWithRows_70_3
          refine zr_iconst (pc := 70) (zq_d eX11_goesWithRows 42 rfl) zc_i2 ?_
          refine zr_iload_n (pc := 71) (zq_d eX11_goesWithRows 43 rfl) 2 rfl rfl ?_
          refine zr_imul (pc := 72) (zq_d eX11_goesWithRows 44 rfl) ?_
          refine zr_iconst (pc := 73) (zq_d eX11_goesWithRows 45 rfl) zc_i1 ?_
          refine zr_iadd (pc := 74) (zq_d eX11_goesWithRows 46 rfl) ?_
          refine zr_aload_n (pc := 75) (zq_d eX11_goesWithRows 47 rfl) 0 rfl rfl ?_
          refine zr_aload_n (pc := 76) (zq_d eX11_goesWithRows 48 rfl) 0 rfl rfl ?_
          refine zr_getC (pc := 77) (zq_d eX11_goesWithRows 49 rfl) zf_RX11_124 km_69_37 ?_
          refine zr_iload_n (pc := 80) (zq_d eX11_goesWithRows 50 rfl) 1 rfl rfl ?_
          refine zr_iald (pc := 81) (zq_d eX11_goesWithRows 51 rfl) am_93 ?_
          refine zr_Vi (pc := 82) [_] (zq_d eX11_goesWithRows 52 rfl) (s_X11_ones G N z X _) zd_X11_ones zl_RX11_395 om_69 rfl rfl rfl rfl (Nat.le_of_ble_eq_true rfl) (Nat.le_of_ble_eq_true rfl) (Nat.le_of_ble_eq_true rfl) ⟨Nat.le_refl _, Nat.le_refl _⟩ (fun v4 => ?_)
          refine zr_icmp_eq (pc := 85) 90 (zq_d eX11_goesWithRows 53 rfl) (by decide) (fun _ => ?_) (fun _ => ?_)
          · refine zr_iinc (pc := 90) (j := 1) (v := (v1 + (1 : Int32))) (lo2 := [(1, .int (v1 + (1 : Int32))), (0, .ref (zq_ad G 69)), (2, .int v2), (3, .int v3)]) (zq_d eX11_goesWithRows 56 rfl) rfl (by rw [zc_i1]) (Nat.le_of_ble_eq_true rfl) rfl ?_
            refine zr_goto (pc := 93) 2 (zq_d eX11_goesWithRows 57 rfl) (by decide) ?_
            exact zr_lo [1, 0] rfl (hrc2_1 (v1 + (1 : Int32)))
          · refine zr_iconst (pc := 88) (zq_d eX11_goesWithRows 54 rfl) zc_i0 ?_
            exact zr_zreturn (pc := 89) (zq_d eX11_goesWithRows 55 rfl) rfl rfl rfl (Nat.zero_le _) (Nat.zero_le _)
        · refine zr_iload_n (pc := 22) (zq_d eX11_goesWithRows 14 rfl) 2 rfl rfl ?_
          refine zr_aload_n (pc := 23) (zq_d eX11_goesWithRows 15 rfl) 0 rfl rfl ?_
          refine zr_aload_n (pc := 24) (zq_d eX11_goesWithRows 16 rfl) 0 rfl rfl ?_
          refine zr_getC (pc := 25) (zq_d eX11_goesWithRows 17 rfl) zf_RX11_124 km_69_37 ?_
          refine zr_iload_n (pc := 28) (zq_d eX11_goesWithRows 18 rfl) 1 rfl rfl ?_
          refine zr_iald (pc := 29) (zq_d eX11_goesWithRows 19 rfl) am_93 ?_
          refine zr_iload_n (pc := 30) (zq_d eX11_goesWithRows 20 rfl) 3 rfl rfl ?_
          refine zr_Vi (pc := 31) [_, _] (zq_d eX11_goesWithRows 21 rfl) (s_X11_has G N z X _ _) zd_X11_has zl_RX11_331 om_69 rfl rfl rfl rfl (Nat.le_of_ble_eq_true rfl) (Nat.le_of_ble_eq_true rfl) (Nat.le_of_ble_eq_true rfl) ⟨Nat.le_refl _, Nat.le_refl _⟩ (fun v5 => ?_)
          refine zr_if_eq (pc := 34) 61 (zq_d eX11_goesWithRows 22 rfl) (by decide) (fun _ => ?_) (fun _ => ?_)
          · refine zr_iconst (pc := 61) (zq_d eX11_goesWithRows 37 rfl) zc_i0 ?_
            refine zr_iadd (pc := 62) (zq_d eX11_goesWithRows 38 rfl) ?_
            refine zr_istore_n (pc := 63) (lo2 := [(2, .int (v2 + (0 : Int32))), (0, .ref (zq_ad G 69)), (1, .int v1), (3, .int v3)]) (zq_d eX11_goesWithRows 39 rfl) rfl (Nat.le_of_ble_eq_true rfl) rfl ?_
            refine zr_iinc (pc := 64) (j := 3) (v := (v3 + (1 : Int32))) (lo2 := [(3, .int (v3 + (1 : Int32))), (2, .int (v2 + (0 : Int32))), (0, .ref (zq_ad G 69)), (1, .int v1)]) (zq_d eX11_goesWithRows 40 rfl) rfl (by rw [zc_i1]) (Nat.le_of_ble_eq_true rfl) rfl ?_
            refine zr_goto (pc := 67) 14 (zq_d eX11_goesWithRows 41 rfl) (by decide) ?_
            exact zr_lo [2, 3, 1, 0] rfl (hrc14_2 (v2 + (0 : Int32)) (v3 + (1 : Int32)))
          · refine zr_aload_n (pc := 37) (zq_d eX11_goesWithRows 23 rfl) 0 rfl rfl ?_
            refine zr_getC (pc := 38) (zq_d eX11_goesWithRows 24 rfl) zf_RX11_130 km_69_39 ?_
            refine zr_iload_n (pc := 41) (zq_d eX11_goesWithRows 25 rfl) 3 rfl rfl ?_
            refine zr_iald (pc := 42) (zq_d eX11_goesWithRows 26 rfl) am_95 ?_
            refine zr_aload_n (pc := 43) (zq_d eX11_goesWithRows 27 rfl) 0 rfl rfl ?_
            refine zr_getC (pc := 44) (zq_d eX11_goesWithRows 28 rfl) zf_RX11_130 km_69_39 ?_
            refine zr_aload_n (pc := 47) (zq_d eX11_goesWithRows 29 rfl) 0 rfl rfl ?_
            refine zr_getC (pc := 48) (zq_d eX11_goesWithRows 30 rfl) zf_RX11_127 km_69_38 ?_
            refine zr_iload_n (pc := 51) (zq_d eX11_goesWithRows 31 rfl) 1 rfl rfl ?_
            refine zr_iald (pc := 52) (zq_d eX11_goesWithRows 32 rfl) am_94 ?_
            refine zr_iald (pc := 53) (zq_d eX11_goesWithRows 33 rfl) am_95 ?_
            refine zr_icmp_ge (pc := 54) 61 (zq_d eX11_goesWithRows 34 rfl) (by decide) (fun _ => ?_) (fun _ => ?_)
            · refine zr_iconst (pc := 61) (zq_d eX11_goesWithRows 37 rfl) zc_i0 ?_
              refine zr_iadd (pc := 62) (zq_d eX11_goesWithRows 38 rfl) ?_
              refine zr_istore_n (pc := 63) (lo2 := [(2, .int (v2 + (0 : Int32))), (0, .ref (zq_ad G 69)), (1, .int v1), (3, .int v3)]) (zq_d eX11_goesWithRows 39 rfl) rfl (Nat.le_of_ble_eq_true rfl) rfl ?_
              refine zr_iinc (pc := 64) (j := 3) (v := (v3 + (1 : Int32))) (lo2 := [(3, .int (v3 + (1 : Int32))), (2, .int (v2 + (0 : Int32))), (0, .ref (zq_ad G 69)), (1, .int v1)]) (zq_d eX11_goesWithRows 40 rfl) rfl (by rw [zc_i1]) (Nat.le_of_ble_eq_true rfl) rfl ?_
              refine zr_goto (pc := 67) 14 (zq_d eX11_goesWithRows 41 rfl) (by decide) ?_
              exact zr_lo [2, 3, 1, 0] rfl (hrc14_2 (v2 + (0 : Int32)) (v3 + (1 : Int32)))
            · refine zr_iconst (pc := 57) (zq_d eX11_goesWithRows 35 rfl) zc_i1 ?_
              refine zr_goto (pc := 58) 62 (zq_d eX11_goesWithRows 36 rfl) (by decide) ?_
              refine zr_iadd (pc := 62) (zq_d eX11_goesWithRows 38 rfl) ?_
              refine zr_istore_n (pc := 63) (lo2 := [(2, .int (v2 + (1 : Int32))), (0, .ref (zq_ad G 69)), (1, .int v1), (3, .int v3)]) (zq_d eX11_goesWithRows 39 rfl) rfl (Nat.le_of_ble_eq_true rfl) rfl ?_
              refine zr_iinc (pc := 64) (j := 3) (v := (v3 + (1 : Int32))) (lo2 := [(3, .int (v3 + (1 : Int32))), (2, .int (v2 + (1 : Int32))), (0, .ref (zq_ad G 69)), (1, .int v1)]) (zq_d eX11_goesWithRows 40 rfl) rfl (by rw [zc_i1]) (Nat.le_of_ble_eq_true rfl) rfl ?_
              refine zr_goto (pc := 67) 14 (zq_d eX11_goesWithRows 41 rfl) (by decide) ?_
              exact zr_lo [2, 3, 1, 0] rfl (hrc14_2 (v2 + (1 : Int32)) (v3 + (1 : Int32)))
      have hlrc14_2 := zr_loop (P := fun (rc14_2 : Int32 → Int32 → Option Int32) => ∀ (v2 : Int32) (v3 : Int32), zq_V G YX11_goesWithRows (2, 0, 0) (zq_ei zq_shM z X) 0 0 14 [(0, .ref (zq_ad G 69)), (1, .int v1), (2, .int v2), (3, .int v3)] [] zq_shM z X (rc14_2 v2 v3)) (fun _ _ => none) (b_X11_goesWithRows_14 N X v1 rc2_1) (fun _ _ => zr_none) hbrc14_2 N
      exact zr_lo [2, 3, 1, 0] rfl (hlrc14_2 (0 : Int32) (0 : Int32))
  have hlrc2_1 := zr_loop (P := fun (rc2_1 : Int32 → Option Int32) => ∀ (v1 : Int32), zq_V G YX11_goesWithRows (2, 0, 0) (zq_ei zq_shM z X) 0 0 2 [(0, .ref (zq_ad G 69)), (1, .int v1)] [] zq_shM z X (rc2_1 v1)) (fun _ => none) (b_X11_goesWithRows_2 N X) (fun _ => zr_none) hbrc2_1 N
  exact zr_lo [1, 0] rfl (hlrc2_1 (0 : Int32))
def b_X11_fits_39 (N : Nat) (v1 : Int32) (rc39_2 : Int32 → Int32 → zq_M → Option (Int32 × zq_M)) (v3 : Int32) (v4 : Int32) (X5 : zq_M) : Option (Int32 × zq_M) :=
  if v1 ≤ v4 then (some (v3, X5)) else ((f_X11_layOrder N X5 v4).bind (zq_p (fun v6 X7 => if v6 = 0 then (rc39_2 (v3 + (0 : Int32)) (v4 + (1 : Int32)) X7) else ((f_X11_goesWithRows N X7).bind (fun v8 => if v8 = 0 then (rc39_2 (v3 + (0 : Int32)) (v4 + (1 : Int32)) X7) else (rc39_2 (v3 + (1 : Int32)) (v4 + (1 : Int32)) X7))))))
def k_X11_fits_35_3 (N : Nat) (X : zq_M) (v1 : Int32)  : Option (Int32 × zq_M) :=
  zq_loop (fun _ _ _ => none) (b_X11_fits_39 N v1) N (0 : Int32) (0 : Int32) X
def b_X11_fits_14 (N : Nat) (X : zq_M) (rc14_1 : Int32 → Int32 → Option (Int32 × zq_M)) (v1 : Int32) (v2 : Int32) : Option (Int32 × zq_M) :=
  if (X.1 69 0) ≤ v2 then (k_X11_fits_35_3 N X v1) else (rc14_1 (v1 * (X.1 69 0)) (v2 + (1 : Int32)))
def f_X11_fits (N : Nat) (X : zq_M)  : Option (Int32 × zq_M) :=
  if ¬ (X.1 69 0) = 0 then (zq_loop (fun _ _ => none) (b_X11_fits_14 N X) N (1 : Int32) (0 : Int32)) else (some ((-5 : Int32), X))
set_option maxRecDepth 20000 in
set_option maxHeartbeats 8000000 in
theorem s_X11_fits (G : zq_G) (N z : Nat) (X : zq_M)  : zq_V G YX11_fits (3, 0, 0) (zq_si zq_shM z) 0 0 0 (lv_args 0 [.ref (zq_ad G 69)]) [] zq_shM z X (f_X11_fits N X ) := by
  unfold f_X11_fits
  refine zr_lo (l2 := [(0, .ref (zq_ad G 69))]) [0] rfl ?_
  refine zr_aload_n (pc := 0) (zq_d eX11_fits 0 rfl) 0 rfl rfl ?_
  refine zr_getI (pc := 1) (zq_d eX11_fits 1 rfl) zf_RX11_7 km_69_0 ?_
  refine zr_if_ne (pc := 4) 10 (zq_d eX11_fits 2 rfl) (by decide) (fun _ => ?_) (fun _ => ?_)
  · refine zr_iconst (pc := 10) (zq_d eX11_fits 5 rfl) zc_i1 ?_
    refine zr_istore_n (pc := 11) (lo2 := [(1, .int (1 : Int32)), (0, .ref (zq_ad G 69))]) (zq_d eX11_fits 6 rfl) rfl (Nat.le_of_ble_eq_true rfl) rfl ?_
    refine zr_iconst (pc := 12) (zq_d eX11_fits 7 rfl) zc_i0 ?_
    refine zr_istore_n (pc := 13) (lo2 := [(2, .int (0 : Int32)), (1, .int (1 : Int32)), (0, .ref (zq_ad G 69))]) (zq_d eX11_fits 8 rfl) rfl (Nat.le_of_ble_eq_true rfl) rfl ?_
    have hbrc14_1 : ∀ rc14_1 : Int32 → Int32 → Option (Int32 × zq_M), (∀ (v1 : Int32) (v2 : Int32), zq_V G YX11_fits (3, 0, 0) (zq_si zq_shM z) 0 0 14 [(0, .ref (zq_ad G 69)), (1, .int v1), (2, .int v2)] [] zq_shM z X (rc14_1 v1 v2)) → ∀ (v1 : Int32) (v2 : Int32), zq_V G YX11_fits (3, 0, 0) (zq_si zq_shM z) 0 0 14 [(0, .ref (zq_ad G 69)), (1, .int v1), (2, .int v2)] [] zq_shM z X (b_X11_fits_14 N X rc14_1 v1 v2) := by
      intro rc14_1 hrc14_1 v1 v2
      unfold b_X11_fits_14
      refine zr_iload_n (pc := 14) (zq_d eX11_fits 9 rfl) 2 rfl rfl ?_
      refine zr_aload_n (pc := 15) (zq_d eX11_fits 10 rfl) 0 rfl rfl ?_
      refine zr_getI (pc := 16) (zq_d eX11_fits 11 rfl) zf_RX11_7 km_69_0 ?_
      refine zr_icmp_ge (pc := 19) 35 (zq_d eX11_fits 12 rfl) (by decide) (fun _ => ?_) (fun _ => ?_)
      · unfold k_X11_fits_35_3
        refine zr_iconst (pc := 35) (zq_d eX11_fits 20 rfl) zc_i0 ?_
        refine zr_istore_n (pc := 36) (lo2 := [(2, .int (0 : Int32)), (0, .ref (zq_ad G 69)), (1, .int v1)]) (zq_d eX11_fits 21 rfl) rfl (Nat.le_of_ble_eq_true rfl) rfl ?_
        refine zr_iconst (pc := 37) (zq_d eX11_fits 22 rfl) zc_i0 ?_
        refine zr_istore_n (pc := 38) (lo2 := [(3, .int (0 : Int32)), (2, .int (0 : Int32)), (0, .ref (zq_ad G 69)), (1, .int v1)]) (zq_d eX11_fits 23 rfl) rfl (Nat.le_of_ble_eq_true rfl) rfl ?_
        have hbrc39_2 : ∀ rc39_2 : Int32 → Int32 → zq_M → Option (Int32 × zq_M), (∀ (v3 : Int32) (v4 : Int32) (X5 : zq_M), zq_V G YX11_fits (3, 0, 0) (zq_si zq_shM z) 0 0 39 [(0, .ref (zq_ad G 69)), (1, .int v1), (2, .int v3), (3, .int v4)] [] zq_shM z X5 (rc39_2 v3 v4 X5)) → ∀ (v3 : Int32) (v4 : Int32) (X5 : zq_M), zq_V G YX11_fits (3, 0, 0) (zq_si zq_shM z) 0 0 39 [(0, .ref (zq_ad G 69)), (1, .int v1), (2, .int v3), (3, .int v4)] [] zq_shM z X5 (b_X11_fits_39 N v1 rc39_2 v3 v4 X5) := by
          intro rc39_2 hrc39_2 v3 v4 X5
          unfold b_X11_fits_39
          refine zr_iload_n (pc := 39) (zq_d eX11_fits 24 rfl) 3 rfl rfl ?_
          refine zr_iload_n (pc := 40) (zq_d eX11_fits 25 rfl) 1 rfl rfl ?_
          refine zr_icmp_ge (pc := 41) 73 (zq_d eX11_fits 26 rfl) (by decide) (fun _ => ?_) (fun _ => ?_)
          · refine zr_iload_n (pc := 73) (zq_d eX11_fits 42 rfl) 2 rfl rfl ?_
            exact zr_ireturn (pc := 74) (zq_d eX11_fits 43 rfl) rfl rfl (Nat.zero_le _) (Nat.zero_le _)
          · refine zr_iload_n (pc := 44) (zq_d eX11_fits 27 rfl) 2 rfl rfl ?_
            refine zr_aload_n (pc := 45) (zq_d eX11_fits 28 rfl) 0 rfl rfl ?_
            refine zr_iload_n (pc := 46) (zq_d eX11_fits 29 rfl) 3 rfl rfl ?_
            refine zr_Wsi (pc := 47) [_] (zq_d eX11_fits 30 rfl) (s_X11_layOrder G N z X5 _) zd_X11_layOrder zl_RX11_398 om_69 rfl rfl rfl rfl (Nat.le_of_ble_eq_true rfl) (Nat.le_of_ble_eq_true rfl) (Nat.le_of_ble_eq_true rfl) ⟨Nat.le_refl _, Nat.le_refl _⟩ (fun v6 X7 => ?_)
            refine zr_if_eq (pc := 50) 64 (zq_d eX11_fits 31 rfl) (by decide) (fun _ => ?_) (fun _ => ?_)
            · refine zr_iconst (pc := 64) (zq_d eX11_fits 37 rfl) zc_i0 ?_
              refine zr_iadd (pc := 65) (zq_d eX11_fits 38 rfl) ?_
              refine zr_istore_n (pc := 66) (lo2 := [(2, .int (v3 + (0 : Int32))), (0, .ref (zq_ad G 69)), (1, .int v1), (3, .int v4)]) (zq_d eX11_fits 39 rfl) rfl (Nat.le_of_ble_eq_true rfl) rfl ?_
              refine zr_iinc (pc := 67) (j := 3) (v := (v4 + (1 : Int32))) (lo2 := [(3, .int (v4 + (1 : Int32))), (2, .int (v3 + (0 : Int32))), (0, .ref (zq_ad G 69)), (1, .int v1)]) (zq_d eX11_fits 40 rfl) rfl (by rw [zc_i1]) (Nat.le_of_ble_eq_true rfl) rfl ?_
              refine zr_goto (pc := 70) 39 (zq_d eX11_fits 41 rfl) (by decide) ?_
              exact zr_lo [2, 3, 1, 0] rfl (hrc39_2 (v3 + (0 : Int32)) (v4 + (1 : Int32)) X7)
            · refine zr_aload_n (pc := 53) (zq_d eX11_fits 32 rfl) 0 rfl rfl ?_
              refine zr_Vi (pc := 54) [] (zq_d eX11_fits 33 rfl) (s_X11_goesWithRows G N z X7 ) zd_X11_goesWithRows zl_RX11_401 om_69 rfl rfl rfl rfl (Nat.le_of_ble_eq_true rfl) (Nat.le_of_ble_eq_true rfl) (Nat.le_of_ble_eq_true rfl) ⟨Nat.le_refl _, Nat.le_refl _⟩ (fun v8 => ?_)
              refine zr_if_eq (pc := 57) 64 (zq_d eX11_fits 34 rfl) (by decide) (fun _ => ?_) (fun _ => ?_)
              · refine zr_iconst (pc := 64) (zq_d eX11_fits 37 rfl) zc_i0 ?_
                refine zr_iadd (pc := 65) (zq_d eX11_fits 38 rfl) ?_
                refine zr_istore_n (pc := 66) (lo2 := [(2, .int (v3 + (0 : Int32))), (0, .ref (zq_ad G 69)), (1, .int v1), (3, .int v4)]) (zq_d eX11_fits 39 rfl) rfl (Nat.le_of_ble_eq_true rfl) rfl ?_
                refine zr_iinc (pc := 67) (j := 3) (v := (v4 + (1 : Int32))) (lo2 := [(3, .int (v4 + (1 : Int32))), (2, .int (v3 + (0 : Int32))), (0, .ref (zq_ad G 69)), (1, .int v1)]) (zq_d eX11_fits 40 rfl) rfl (by rw [zc_i1]) (Nat.le_of_ble_eq_true rfl) rfl ?_
                refine zr_goto (pc := 70) 39 (zq_d eX11_fits 41 rfl) (by decide) ?_
                exact zr_lo [2, 3, 1, 0] rfl (hrc39_2 (v3 + (0 : Int32)) (v4 + (1 : Int32)) X7)
              · refine zr_iconst (pc := 60) (zq_d eX11_fits 35 rfl) zc_i1 ?_
                refine zr_goto (pc := 61) 65 (zq_d eX11_fits 36 rfl) (by decide) ?_
                refine zr_iadd (pc := 65) (zq_d eX11_fits 38 rfl) ?_
                refine zr_istore_n (pc := 66) (lo2 := [(2, .int (v3 + (1 : Int32))), (0, .ref (zq_ad G 69)), (1, .int v1), (3, .int v4)]) (zq_d eX11_fits 39 rfl) rfl (Nat.le_of_ble_eq_true rfl) rfl ?_
                refine zr_iinc (pc := 67) (j := 3) (v := (v4 + (1 : Int32))) (lo2 := [(3, .int (v4 + (1 : Int32))), (2, .int (v3 + (1 : Int32))), (0, .ref (zq_ad G 69)), (1, .int v1)]) (zq_d eX11_fits 40 rfl) rfl (by rw [zc_i1]) (Nat.le_of_ble_eq_true rfl) rfl ?_
                refine zr_goto (pc := 70) 39 (zq_d eX11_fits 41 rfl) (by decide) ?_
                exact zr_lo [2, 3, 1, 0] rfl (hrc39_2 (v3 + (1 : Int32)) (v4 + (1 : Int32)) X7)
        have hlrc39_2 := zr_loop (P := fun (rc39_2 : Int32 → Int32 → zq_M → Option (Int32 × zq_M)) => ∀ (v3 : Int32) (v4 : Int32) (X5 : zq_M), zq_V G YX11_fits (3, 0, 0) (zq_si zq_shM z) 0 0 39 [(0, .ref (zq_ad G 69)), (1, .int v1), (2, .int v3), (3, .int v4)] [] zq_shM z X5 (rc39_2 v3 v4 X5)) (fun _ _ _ => none) (b_X11_fits_39 N v1) (fun _ _ _ => zr_none) hbrc39_2 N
        exact zr_lo [2, 3, 1, 0] rfl (hlrc39_2 (0 : Int32) (0 : Int32) X)
      · refine zr_iload_n (pc := 22) (zq_d eX11_fits 13 rfl) 1 rfl rfl ?_
        refine zr_aload_n (pc := 23) (zq_d eX11_fits 14 rfl) 0 rfl rfl ?_
        refine zr_getI (pc := 24) (zq_d eX11_fits 15 rfl) zf_RX11_7 km_69_0 ?_
        refine zr_imul (pc := 27) (zq_d eX11_fits 16 rfl) ?_
        refine zr_istore_n (pc := 28) (lo2 := [(1, .int (v1 * (X.1 69 0))), (0, .ref (zq_ad G 69)), (2, .int v2)]) (zq_d eX11_fits 17 rfl) rfl (Nat.le_of_ble_eq_true rfl) rfl ?_
        refine zr_iinc (pc := 29) (j := 2) (v := (v2 + (1 : Int32))) (lo2 := [(2, .int (v2 + (1 : Int32))), (1, .int (v1 * (X.1 69 0))), (0, .ref (zq_ad G 69))]) (zq_d eX11_fits 18 rfl) rfl (by rw [zc_i1]) (Nat.le_of_ble_eq_true rfl) rfl ?_
        refine zr_goto (pc := 32) 14 (zq_d eX11_fits 19 rfl) (by decide) ?_
        exact zr_lo [2, 1, 0] rfl (hrc14_1 (v1 * (X.1 69 0)) (v2 + (1 : Int32)))
    have hlrc14_1 := zr_loop (P := fun (rc14_1 : Int32 → Int32 → Option (Int32 × zq_M)) => ∀ (v1 : Int32) (v2 : Int32), zq_V G YX11_fits (3, 0, 0) (zq_si zq_shM z) 0 0 14 [(0, .ref (zq_ad G 69)), (1, .int v1), (2, .int v2)] [] zq_shM z X (rc14_1 v1 v2)) (fun _ _ => none) (b_X11_fits_14 N X) (fun _ _ => zr_none) hbrc14_1 N
    exact zr_lo [2, 1, 0] rfl (hlrc14_1 (1 : Int32) (0 : Int32))
  · refine zr_bipush (pc := 7) (zq_d eX11_fits 3 rfl) zc_bm5 ?_
    exact zr_ireturn (pc := 9) (zq_d eX11_fits 4 rfl) rfl rfl (Nat.zero_le _) (Nat.zero_le _)
def b_X11_divisor_6  (rc6_1 : Int64 → Int64 → Option Int64) (w1 : Int64) (w2 : Int64) : Option Int64 :=
  if (lg_cmp w2 (0 : Int64)) = 0 then (some w1) else (zq_dw w2 (rc6_1 w2 (zq_lrem w1 w2)))
def f_X11_divisor (N : Nat) (X : zq_M) (a1 : Int64) (a2 : Int64) : Option Int64 :=
  zq_loop (fun _ _ => none) (b_X11_divisor_6) N a1 a2
set_option maxRecDepth 20000 in
set_option maxHeartbeats 8000000 in
theorem s_X11_divisor (G : zq_G) (N z : Nat) (X : zq_M) (a1 : Int64) (a2 : Int64) : zq_V G YX11_divisor (1, 0, 0) (zq_el zq_shM z X) 0 0 0 (lv_args 0 [.ref (zq_ad G 69), .long a1, .long a2]) [] zq_shM z X (f_X11_divisor N X a1 a2) := by
  unfold f_X11_divisor
  refine zr_lo (l2 := [(1, .long a1), (3, .long a2)]) [1, 2] rfl ?_
  refine zr_lload_n (pc := 0) (zq_d eX11_divisor 0 rfl) 0 rfl rfl ?_
  refine zr_lstore (pc := 1) (lo2 := [(5, .long a1), (1, .long a1), (3, .long a2)]) (zq_d eX11_divisor 1 rfl) (Nat.le_of_ble_eq_true rfl) rfl ?_
  refine zr_lload_n (pc := 3) (zq_d eX11_divisor 2 rfl) 2 rfl rfl ?_
  refine zr_lstore (pc := 4) (lo2 := [(7, .long a2), (5, .long a1), (1, .long a1), (3, .long a2)]) (zq_d eX11_divisor 3 rfl) (Nat.le_of_ble_eq_true rfl) rfl ?_
  have hbrc6_1 : ∀ rc6_1 : Int64 → Int64 → Option Int64, (∀ (w1 : Int64) (w2 : Int64), zq_V G YX11_divisor (1, 0, 0) (zq_el zq_shM z X) 0 0 6 [(5, .long w1), (7, .long w2)] [] zq_shM z X (rc6_1 w1 w2)) → ∀ (w1 : Int64) (w2 : Int64), zq_V G YX11_divisor (1, 0, 0) (zq_el zq_shM z X) 0 0 6 [(5, .long w1), (7, .long w2)] [] zq_shM z X (b_X11_divisor_6 rc6_1 w1 w2) := by
    intro rc6_1 hrc6_1 w1 w2
    unfold b_X11_divisor_6
    refine zr_lload (pc := 6) (zq_d eX11_divisor 4 rfl) 1 rfl ?_
    refine zr_lconst (pc := 8) (v := 0) (zq_d eX11_divisor 5 rfl) rfl ?_
    refine zr_lcmp (pc := 9) (zq_d eX11_divisor 6 rfl) ?_
    refine zr_if_eq (pc := 10) 31 (zq_d eX11_divisor 7 rfl) (by decide) (fun _ => ?_) (fun _ => ?_)
    · refine zr_lload (pc := 31) (zq_d eX11_divisor 17 rfl) 0 rfl ?_
      exact zr_lreturn (pc := 33) (zq_d eX11_divisor 18 rfl) rfl rfl (Nat.zero_le _) (Nat.zero_le _)
    · refine zr_lload (pc := 13) (zq_d eX11_divisor 8 rfl) 0 rfl ?_
      refine zr_lload (pc := 15) (zq_d eX11_divisor 9 rfl) 1 rfl ?_
      refine zr_lrem (pc := 17) (zq_d eX11_divisor 10 rfl) ?_
      refine zr_lstore (pc := 18) (lo2 := [(9, .long (zq_lrem w1 w2)), (5, .long w1), (7, .long w2)]) (zq_d eX11_divisor 11 rfl) (Nat.le_of_ble_eq_true rfl) rfl ?_
      refine zr_lload (pc := 20) (zq_d eX11_divisor 12 rfl) 2 rfl ?_
      refine zr_lstore (pc := 22) (lo2 := [(5, .long w2), (9, .long (zq_lrem w1 w2)), (7, .long w2)]) (zq_d eX11_divisor 13 rfl) (Nat.le_of_ble_eq_true rfl) rfl ?_
      refine zr_lload (pc := 24) (zq_d eX11_divisor 14 rfl) 1 rfl ?_
      refine zr_lstore (pc := 26) (lo2 := [(7, .long (zq_lrem w1 w2)), (5, .long w2), (9, .long (zq_lrem w1 w2))]) (zq_d eX11_divisor 15 rfl) (Nat.le_of_ble_eq_true rfl) rfl ?_
      refine zr_goto (pc := 28) 6 (zq_d eX11_divisor 16 rfl) (by decide) ?_
      exact zr_lo [1, 0] rfl (hrc6_1 w2 (zq_lrem w1 w2))
  have hlrc6_1 := zr_loop (P := fun (rc6_1 : Int64 → Int64 → Option Int64) => ∀ (w1 : Int64) (w2 : Int64), zq_V G YX11_divisor (1, 0, 0) (zq_el zq_shM z X) 0 0 6 [(5, .long w1), (7, .long w2)] [] zq_shM z X (rc6_1 w1 w2)) (fun _ _ => none) (b_X11_divisor_6) (fun _ _ => zr_none) hbrc6_1 N
  exact zr_lo [1, 0] rfl (hlrc6_1 a1 a2)
def b_X11_waysFrom_15 (N : Nat) (X : zq_M) (a1 : Int32) (v2 : Int32) (rc4_1 : Int32 → Int32 → Option Int32) (rc15_2 : Int32 → Int32 → Option Int32) (v3 : Int32) (v4 : Int32) : Option Int32 :=
  if (4 : Int32) ≤ v4 then (rc4_1 v3 (v2 + (1 : Int32))) else ((f_X11_mayCome N X a1 v2 v4).bind (fun v5 => if v5 = 0 then (rc15_2 (v3 + (0 : Int32)) (v4 + (1 : Int32))) else (rc15_2 (v3 + (1 : Int32)) (v4 + (1 : Int32)))))
def b_X11_waysFrom_4 (N : Nat) (X : zq_M) (a1 : Int32) (rc4_1 : Int32 → Int32 → Option Int32) (v1 : Int32) (v2 : Int32) : Option Int32 :=
  if (X.1 69 0) ≤ v2 then (some v1) else (zq_loop (fun _ _ => none) (b_X11_waysFrom_15 N X a1 v2 rc4_1) N v1 (0 : Int32))
def f_X11_waysFrom (N : Nat) (X : zq_M) (a1 : Int32) : Option Int32 :=
  zq_loop (fun _ _ => none) (b_X11_waysFrom_4 N X a1) N (0 : Int32) (0 : Int32)
set_option maxRecDepth 20000 in
set_option maxHeartbeats 8000000 in
theorem s_X11_waysFrom (G : zq_G) (N z : Nat) (X : zq_M) (a1 : Int32) : zq_V G YX11_waysFrom (5, 0, 0) (zq_ei zq_shM z X) 0 0 0 (lv_args 0 [.ref (zq_ad G 69), .int a1]) [] zq_shM z X (f_X11_waysFrom N X a1) := by
  unfold f_X11_waysFrom
  refine zr_lo (l2 := [(0, .ref (zq_ad G 69)), (1, .int a1)]) [0, 1] rfl ?_
  refine zr_iconst (pc := 0) (zq_d eX11_waysFrom 0 rfl) zc_i0 ?_
  refine zr_istore_n (pc := 1) (lo2 := [(2, .int (0 : Int32)), (0, .ref (zq_ad G 69)), (1, .int a1)]) (zq_d eX11_waysFrom 1 rfl) rfl (Nat.le_of_ble_eq_true rfl) rfl ?_
  refine zr_iconst (pc := 2) (zq_d eX11_waysFrom 2 rfl) zc_i0 ?_
  refine zr_istore_n (pc := 3) (lo2 := [(3, .int (0 : Int32)), (2, .int (0 : Int32)), (0, .ref (zq_ad G 69)), (1, .int a1)]) (zq_d eX11_waysFrom 3 rfl) rfl (Nat.le_of_ble_eq_true rfl) rfl ?_
  have hbrc4_1 : ∀ rc4_1 : Int32 → Int32 → Option Int32, (∀ (v1 : Int32) (v2 : Int32), zq_V G YX11_waysFrom (5, 0, 0) (zq_ei zq_shM z X) 0 0 4 [(0, .ref (zq_ad G 69)), (1, .int a1), (2, .int v1), (3, .int v2)] [] zq_shM z X (rc4_1 v1 v2)) → ∀ (v1 : Int32) (v2 : Int32), zq_V G YX11_waysFrom (5, 0, 0) (zq_ei zq_shM z X) 0 0 4 [(0, .ref (zq_ad G 69)), (1, .int a1), (2, .int v1), (3, .int v2)] [] zq_shM z X (b_X11_waysFrom_4 N X a1 rc4_1 v1 v2) := by
    intro rc4_1 hrc4_1 v1 v2
    unfold b_X11_waysFrom_4
    refine zr_iload_n (pc := 4) (zq_d eX11_waysFrom 4 rfl) 3 rfl rfl ?_
    refine zr_aload_n (pc := 5) (zq_d eX11_waysFrom 5 rfl) 0 rfl rfl ?_
    refine zr_getI (pc := 6) (zq_d eX11_waysFrom 6 rfl) zf_RX11_7 km_69_0 ?_
    refine zr_icmp_ge (pc := 9) 52 (zq_d eX11_waysFrom 7 rfl) (by decide) (fun _ => ?_) (fun _ => ?_)
    · refine zr_iload_n (pc := 52) (zq_d eX11_waysFrom 29 rfl) 2 rfl rfl ?_
      exact zr_ireturn (pc := 53) (zq_d eX11_waysFrom 30 rfl) rfl rfl (Nat.zero_le _) (Nat.zero_le _)
    · refine zr_iconst (pc := 12) (zq_d eX11_waysFrom 8 rfl) zc_i0 ?_
      refine zr_istore (pc := 13) (lo2 := [(4, .int (0 : Int32)), (0, .ref (zq_ad G 69)), (1, .int a1), (2, .int v1), (3, .int v2)]) (zq_d eX11_waysFrom 9 rfl) (Nat.le_of_ble_eq_true rfl) rfl ?_
      have hbrc15_2 : ∀ rc15_2 : Int32 → Int32 → Option Int32, (∀ (v3 : Int32) (v4 : Int32), zq_V G YX11_waysFrom (5, 0, 0) (zq_ei zq_shM z X) 0 0 15 [(0, .ref (zq_ad G 69)), (1, .int a1), (2, .int v3), (3, .int v2), (4, .int v4)] [] zq_shM z X (rc15_2 v3 v4)) → ∀ (v3 : Int32) (v4 : Int32), zq_V G YX11_waysFrom (5, 0, 0) (zq_ei zq_shM z X) 0 0 15 [(0, .ref (zq_ad G 69)), (1, .int a1), (2, .int v3), (3, .int v2), (4, .int v4)] [] zq_shM z X (b_X11_waysFrom_15 N X a1 v2 rc4_1 rc15_2 v3 v4) := by
        intro rc15_2 hrc15_2 v3 v4
        unfold b_X11_waysFrom_15
        refine zr_iload (pc := 15) (zq_d eX11_waysFrom 10 rfl) 4 rfl ?_
        refine zr_iconst (pc := 17) (zq_d eX11_waysFrom 11 rfl) zc_i4 ?_
        refine zr_icmp_ge (pc := 18) 46 (zq_d eX11_waysFrom 12 rfl) (by decide) (fun _ => ?_) (fun _ => ?_)
        · refine zr_iinc (pc := 46) (j := 3) (v := (v2 + (1 : Int32))) (lo2 := [(3, .int (v2 + (1 : Int32))), (0, .ref (zq_ad G 69)), (1, .int a1), (2, .int v3), (4, .int v4)]) (zq_d eX11_waysFrom 27 rfl) rfl (by rw [zc_i1]) (Nat.le_of_ble_eq_true rfl) rfl ?_
          refine zr_goto (pc := 49) 4 (zq_d eX11_waysFrom 28 rfl) (by decide) ?_
          exact zr_lo [1, 2, 3, 0] rfl (hrc4_1 v3 (v2 + (1 : Int32)))
        · refine zr_iload_n (pc := 21) (zq_d eX11_waysFrom 13 rfl) 2 rfl rfl ?_
          refine zr_aload_n (pc := 22) (zq_d eX11_waysFrom 14 rfl) 0 rfl rfl ?_
          refine zr_iload_n (pc := 23) (zq_d eX11_waysFrom 15 rfl) 1 rfl rfl ?_
          refine zr_iload_n (pc := 24) (zq_d eX11_waysFrom 16 rfl) 3 rfl rfl ?_
          refine zr_iload (pc := 25) (zq_d eX11_waysFrom 17 rfl) 4 rfl ?_
          refine zr_Vi (pc := 27) [_, _, _] (zq_d eX11_waysFrom 18 rfl) (s_X11_mayCome G N z X _ _ _) zd_X11_mayCome zl_RX11_343 om_69 rfl rfl rfl rfl (Nat.le_of_ble_eq_true rfl) (Nat.le_of_ble_eq_true rfl) (Nat.le_of_ble_eq_true rfl) ⟨Nat.le_refl _, Nat.le_refl _⟩ (fun v5 => ?_)
          refine zr_if_eq (pc := 30) 37 (zq_d eX11_waysFrom 19 rfl) (by decide) (fun _ => ?_) (fun _ => ?_)
          · refine zr_iconst (pc := 37) (zq_d eX11_waysFrom 22 rfl) zc_i0 ?_
            refine zr_iadd (pc := 38) (zq_d eX11_waysFrom 23 rfl) ?_
            refine zr_istore_n (pc := 39) (lo2 := [(2, .int (v3 + (0 : Int32))), (0, .ref (zq_ad G 69)), (1, .int a1), (3, .int v2), (4, .int v4)]) (zq_d eX11_waysFrom 24 rfl) rfl (Nat.le_of_ble_eq_true rfl) rfl ?_
            refine zr_iinc (pc := 40) (j := 4) (v := (v4 + (1 : Int32))) (lo2 := [(4, .int (v4 + (1 : Int32))), (2, .int (v3 + (0 : Int32))), (0, .ref (zq_ad G 69)), (1, .int a1), (3, .int v2)]) (zq_d eX11_waysFrom 25 rfl) rfl (by rw [zc_i1]) (Nat.le_of_ble_eq_true rfl) rfl ?_
            refine zr_goto (pc := 43) 15 (zq_d eX11_waysFrom 26 rfl) (by decide) ?_
            exact zr_lo [2, 3, 1, 4, 0] rfl (hrc15_2 (v3 + (0 : Int32)) (v4 + (1 : Int32)))
          · refine zr_iconst (pc := 33) (zq_d eX11_waysFrom 20 rfl) zc_i1 ?_
            refine zr_goto (pc := 34) 38 (zq_d eX11_waysFrom 21 rfl) (by decide) ?_
            refine zr_iadd (pc := 38) (zq_d eX11_waysFrom 23 rfl) ?_
            refine zr_istore_n (pc := 39) (lo2 := [(2, .int (v3 + (1 : Int32))), (0, .ref (zq_ad G 69)), (1, .int a1), (3, .int v2), (4, .int v4)]) (zq_d eX11_waysFrom 24 rfl) rfl (Nat.le_of_ble_eq_true rfl) rfl ?_
            refine zr_iinc (pc := 40) (j := 4) (v := (v4 + (1 : Int32))) (lo2 := [(4, .int (v4 + (1 : Int32))), (2, .int (v3 + (1 : Int32))), (0, .ref (zq_ad G 69)), (1, .int a1), (3, .int v2)]) (zq_d eX11_waysFrom 25 rfl) rfl (by rw [zc_i1]) (Nat.le_of_ble_eq_true rfl) rfl ?_
            refine zr_goto (pc := 43) 15 (zq_d eX11_waysFrom 26 rfl) (by decide) ?_
            exact zr_lo [2, 3, 1, 4, 0] rfl (hrc15_2 (v3 + (1 : Int32)) (v4 + (1 : Int32)))
      have hlrc15_2 := zr_loop (P := fun (rc15_2 : Int32 → Int32 → Option Int32) => ∀ (v3 : Int32) (v4 : Int32), zq_V G YX11_waysFrom (5, 0, 0) (zq_ei zq_shM z X) 0 0 15 [(0, .ref (zq_ad G 69)), (1, .int a1), (2, .int v3), (3, .int v2), (4, .int v4)] [] zq_shM z X (rc15_2 v3 v4)) (fun _ _ => none) (b_X11_waysFrom_15 N X a1 v2 rc4_1) (fun _ _ => zr_none) hbrc15_2 N
      exact zr_lo [1, 2, 3, 4, 0] rfl (hlrc15_2 v1 (0 : Int32))
  have hlrc4_1 := zr_loop (P := fun (rc4_1 : Int32 → Int32 → Option Int32) => ∀ (v1 : Int32) (v2 : Int32), zq_V G YX11_waysFrom (5, 0, 0) (zq_ei zq_shM z X) 0 0 4 [(0, .ref (zq_ad G 69)), (1, .int a1), (2, .int v1), (3, .int v2)] [] zq_shM z X (rc4_1 v1 v2)) (fun _ _ => none) (b_X11_waysFrom_4 N X a1) (fun _ _ => zr_none) hbrc4_1 N
  exact zr_lo [2, 3, 1, 0] rfl (hlrc4_1 (0 : Int32) (0 : Int32))
def b_X11_speaksBehind_18 (N : Nat) (X : zq_M) (a1 : Int32) (a2 : Int32) (a3 : Int32) (v2 : Int32) (rc6_1 : Int32 → Int32 → Option Int32) (rc18_2 : Int32 → Int32 → Option Int32) (v3 : Int32) (v4 : Int32) : Option Int32 :=
  if (4 : Int32) ≤ v4 then (rc6_1 v3 (v2 + (1 : Int32))) else ((f_X11_mayCome N X a1 v2 v4).bind (fun v5 => if v5 = 0 then (rc18_2 (v3 + (0 : Int32)) (v4 + (1 : Int32))) else ((f_X11_moved N X a1 v2 v4).bind (fun v6 => (f_X11_maySpeak N X v6 a2 (a3 + (1 : Int32))).bind (fun v7 => if v7 = 0 then (rc18_2 (v3 + (0 : Int32)) (v4 + (1 : Int32))) else (rc18_2 (v3 + (1 : Int32)) (v4 + (1 : Int32))))))))
def b_X11_speaksBehind_6 (N : Nat) (X : zq_M) (a1 : Int32) (a2 : Int32) (a3 : Int32) (rc6_1 : Int32 → Int32 → Option Int32) (v1 : Int32) (v2 : Int32) : Option Int32 :=
  if (X.1 69 0) ≤ v2 then (some v1) else (zq_loop (fun _ _ => none) (b_X11_speaksBehind_18 N X a1 a2 a3 v2 rc6_1) N v1 (0 : Int32))
def f_X11_speaksBehind (N : Nat) (X : zq_M) (a1 : Int32) (a2 : Int32) (a3 : Int32) : Option Int32 :=
  zq_loop (fun _ _ => none) (b_X11_speaksBehind_6 N X a1 a2 a3) N (0 : Int32) (0 : Int32)
set_option maxRecDepth 20000 in
set_option maxHeartbeats 8000000 in
theorem s_X11_speaksBehind (G : zq_G) (N z : Nat) (X : zq_M) (a1 : Int32) (a2 : Int32) (a3 : Int32) : zq_V G YX11_speaksBehind (5, 0, 0) (zq_ei zq_shM z X) 0 0 0 (lv_args 0 [.ref (zq_ad G 69), .int a1, .int a2, .int a3]) [] zq_shM z X (f_X11_speaksBehind N X a1 a2 a3) := by
  unfold f_X11_speaksBehind
  refine zr_lo (l2 := [(0, .ref (zq_ad G 69)), (1, .int a1), (2, .int a2), (3, .int a3)]) [0, 1, 2, 3] rfl ?_
  refine zr_iconst (pc := 0) (zq_d eX11_speaksBehind 0 rfl) zc_i0 ?_
  refine zr_istore (pc := 1) (lo2 := [(4, .int (0 : Int32)), (0, .ref (zq_ad G 69)), (1, .int a1), (2, .int a2), (3, .int a3)]) (zq_d eX11_speaksBehind 1 rfl) (Nat.le_of_ble_eq_true rfl) rfl ?_
  refine zr_iconst (pc := 3) (zq_d eX11_speaksBehind 2 rfl) zc_i0 ?_
  refine zr_istore (pc := 4) (lo2 := [(5, .int (0 : Int32)), (4, .int (0 : Int32)), (0, .ref (zq_ad G 69)), (1, .int a1), (2, .int a2), (3, .int a3)]) (zq_d eX11_speaksBehind 3 rfl) (Nat.le_of_ble_eq_true rfl) rfl ?_
  have hbrc6_1 : ∀ rc6_1 : Int32 → Int32 → Option Int32, (∀ (v1 : Int32) (v2 : Int32), zq_V G YX11_speaksBehind (5, 0, 0) (zq_ei zq_shM z X) 0 0 6 [(0, .ref (zq_ad G 69)), (1, .int a1), (2, .int a2), (3, .int a3), (4, .int v1), (5, .int v2)] [] zq_shM z X (rc6_1 v1 v2)) → ∀ (v1 : Int32) (v2 : Int32), zq_V G YX11_speaksBehind (5, 0, 0) (zq_ei zq_shM z X) 0 0 6 [(0, .ref (zq_ad G 69)), (1, .int a1), (2, .int a2), (3, .int a3), (4, .int v1), (5, .int v2)] [] zq_shM z X (b_X11_speaksBehind_6 N X a1 a2 a3 rc6_1 v1 v2) := by
    intro rc6_1 hrc6_1 v1 v2
    unfold b_X11_speaksBehind_6
    refine zr_iload (pc := 6) (zq_d eX11_speaksBehind 4 rfl) 5 rfl ?_
    refine zr_aload_n (pc := 8) (zq_d eX11_speaksBehind 5 rfl) 0 rfl rfl ?_
    refine zr_getI (pc := 9) (zq_d eX11_speaksBehind 6 rfl) zf_RX11_7 km_69_0 ?_
    refine zr_icmp_ge (pc := 12) 78 (zq_d eX11_speaksBehind 7 rfl) (by decide) (fun _ => ?_) (fun _ => ?_)
    · refine zr_iload (pc := 78) (zq_d eX11_speaksBehind 41 rfl) 4 rfl ?_
      exact zr_ireturn (pc := 80) (zq_d eX11_speaksBehind 42 rfl) rfl rfl (Nat.zero_le _) (Nat.zero_le _)
    · refine zr_iconst (pc := 15) (zq_d eX11_speaksBehind 8 rfl) zc_i0 ?_
      refine zr_istore (pc := 16) (lo2 := [(6, .int (0 : Int32)), (0, .ref (zq_ad G 69)), (1, .int a1), (2, .int a2), (3, .int a3), (4, .int v1), (5, .int v2)]) (zq_d eX11_speaksBehind 9 rfl) (Nat.le_of_ble_eq_true rfl) rfl ?_
      have hbrc18_2 : ∀ rc18_2 : Int32 → Int32 → Option Int32, (∀ (v3 : Int32) (v4 : Int32), zq_V G YX11_speaksBehind (5, 0, 0) (zq_ei zq_shM z X) 0 0 18 [(0, .ref (zq_ad G 69)), (1, .int a1), (2, .int a2), (3, .int a3), (4, .int v3), (5, .int v2), (6, .int v4)] [] zq_shM z X (rc18_2 v3 v4)) → ∀ (v3 : Int32) (v4 : Int32), zq_V G YX11_speaksBehind (5, 0, 0) (zq_ei zq_shM z X) 0 0 18 [(0, .ref (zq_ad G 69)), (1, .int a1), (2, .int a2), (3, .int a3), (4, .int v3), (5, .int v2), (6, .int v4)] [] zq_shM z X (b_X11_speaksBehind_18 N X a1 a2 a3 v2 rc6_1 rc18_2 v3 v4) := by
        intro rc18_2 hrc18_2 v3 v4
        unfold b_X11_speaksBehind_18
        refine zr_iload (pc := 18) (zq_d eX11_speaksBehind 10 rfl) 6 rfl ?_
        refine zr_iconst (pc := 20) (zq_d eX11_speaksBehind 11 rfl) zc_i4 ?_
        refine zr_icmp_ge (pc := 21) 72 (zq_d eX11_speaksBehind 12 rfl) (by decide) (fun _ => ?_) (fun _ => ?_)
        · refine zr_iinc (pc := 72) (j := 5) (v := (v2 + (1 : Int32))) (lo2 := [(5, .int (v2 + (1 : Int32))), (0, .ref (zq_ad G 69)), (1, .int a1), (2, .int a2), (3, .int a3), (4, .int v3), (6, .int v4)]) (zq_d eX11_speaksBehind 39 rfl) rfl (by rw [zc_i1]) (Nat.le_of_ble_eq_true rfl) rfl ?_
          refine zr_goto (pc := 75) 6 (zq_d eX11_speaksBehind 40 rfl) (by decide) ?_
          exact zr_lo [1, 2, 3, 4, 5, 0] rfl (hrc6_1 v3 (v2 + (1 : Int32)))
        · refine zr_iload (pc := 24) (zq_d eX11_speaksBehind 13 rfl) 4 rfl ?_
          refine zr_aload_n (pc := 26) (zq_d eX11_speaksBehind 14 rfl) 0 rfl rfl ?_
          refine zr_iload_n (pc := 27) (zq_d eX11_speaksBehind 15 rfl) 1 rfl rfl ?_
          refine zr_iload (pc := 28) (zq_d eX11_speaksBehind 16 rfl) 5 rfl ?_
          refine zr_iload (pc := 30) (zq_d eX11_speaksBehind 17 rfl) 6 rfl ?_
          refine zr_Vi (pc := 32) [_, _, _] (zq_d eX11_speaksBehind 18 rfl) (s_X11_mayCome G N z X _ _ _) zd_X11_mayCome zl_RX11_343 om_69 rfl rfl rfl rfl (Nat.le_of_ble_eq_true rfl) (Nat.le_of_ble_eq_true rfl) (Nat.le_of_ble_eq_true rfl) ⟨Nat.le_refl _, Nat.le_refl _⟩ (fun v5 => ?_)
          refine zr_if_eq (pc := 35) 62 (zq_d eX11_speaksBehind 19 rfl) (by decide) (fun _ => ?_) (fun _ => ?_)
          · refine zr_iconst (pc := 62) (zq_d eX11_speaksBehind 34 rfl) zc_i0 ?_
            refine zr_iadd (pc := 63) (zq_d eX11_speaksBehind 35 rfl) ?_
            refine zr_istore (pc := 64) (lo2 := [(4, .int (v3 + (0 : Int32))), (0, .ref (zq_ad G 69)), (1, .int a1), (2, .int a2), (3, .int a3), (5, .int v2), (6, .int v4)]) (zq_d eX11_speaksBehind 36 rfl) (Nat.le_of_ble_eq_true rfl) rfl ?_
            refine zr_iinc (pc := 66) (j := 6) (v := (v4 + (1 : Int32))) (lo2 := [(6, .int (v4 + (1 : Int32))), (4, .int (v3 + (0 : Int32))), (0, .ref (zq_ad G 69)), (1, .int a1), (2, .int a2), (3, .int a3), (5, .int v2)]) (zq_d eX11_speaksBehind 37 rfl) rfl (by rw [zc_i1]) (Nat.le_of_ble_eq_true rfl) rfl ?_
            refine zr_goto (pc := 69) 18 (zq_d eX11_speaksBehind 38 rfl) (by decide) ?_
            exact zr_lo [2, 3, 4, 5, 1, 6, 0] rfl (hrc18_2 (v3 + (0 : Int32)) (v4 + (1 : Int32)))
          · refine zr_aload_n (pc := 38) (zq_d eX11_speaksBehind 20 rfl) 0 rfl rfl ?_
            refine zr_aload_n (pc := 39) (zq_d eX11_speaksBehind 21 rfl) 0 rfl rfl ?_
            refine zr_iload_n (pc := 40) (zq_d eX11_speaksBehind 22 rfl) 1 rfl rfl ?_
            refine zr_iload (pc := 41) (zq_d eX11_speaksBehind 23 rfl) 5 rfl ?_
            refine zr_iload (pc := 43) (zq_d eX11_speaksBehind 24 rfl) 6 rfl ?_
            refine zr_Vi (pc := 45) [_, _, _] (zq_d eX11_speaksBehind 25 rfl) (s_X11_moved G N z X _ _ _) zd_X11_moved zl_RX11_229 om_69 rfl rfl rfl rfl (Nat.le_of_ble_eq_true rfl) (Nat.le_of_ble_eq_true rfl) (Nat.le_of_ble_eq_true rfl) ⟨Nat.le_refl _, Nat.le_refl _⟩ (fun v6 => ?_)
            refine zr_iload_n (pc := 48) (zq_d eX11_speaksBehind 26 rfl) 2 rfl rfl ?_
            refine zr_iload_n (pc := 49) (zq_d eX11_speaksBehind 27 rfl) 3 rfl rfl ?_
            refine zr_iconst (pc := 50) (zq_d eX11_speaksBehind 28 rfl) zc_i1 ?_
            refine zr_iadd (pc := 51) (zq_d eX11_speaksBehind 29 rfl) ?_
            refine zr_Vi (pc := 52) [_, _, _] (zq_d eX11_speaksBehind 30 rfl) (s_X11_maySpeak G N z X _ _ _) zd_X11_maySpeak zl_RX11_256 om_69 rfl rfl rfl rfl (Nat.le_of_ble_eq_true rfl) (Nat.le_of_ble_eq_true rfl) (Nat.le_of_ble_eq_true rfl) ⟨Nat.le_refl _, Nat.le_refl _⟩ (fun v7 => ?_)
            refine zr_if_eq (pc := 55) 62 (zq_d eX11_speaksBehind 31 rfl) (by decide) (fun _ => ?_) (fun _ => ?_)
            · refine zr_iconst (pc := 62) (zq_d eX11_speaksBehind 34 rfl) zc_i0 ?_
              refine zr_iadd (pc := 63) (zq_d eX11_speaksBehind 35 rfl) ?_
              refine zr_istore (pc := 64) (lo2 := [(4, .int (v3 + (0 : Int32))), (0, .ref (zq_ad G 69)), (1, .int a1), (2, .int a2), (3, .int a3), (5, .int v2), (6, .int v4)]) (zq_d eX11_speaksBehind 36 rfl) (Nat.le_of_ble_eq_true rfl) rfl ?_
              refine zr_iinc (pc := 66) (j := 6) (v := (v4 + (1 : Int32))) (lo2 := [(6, .int (v4 + (1 : Int32))), (4, .int (v3 + (0 : Int32))), (0, .ref (zq_ad G 69)), (1, .int a1), (2, .int a2), (3, .int a3), (5, .int v2)]) (zq_d eX11_speaksBehind 37 rfl) rfl (by rw [zc_i1]) (Nat.le_of_ble_eq_true rfl) rfl ?_
              refine zr_goto (pc := 69) 18 (zq_d eX11_speaksBehind 38 rfl) (by decide) ?_
              exact zr_lo [2, 3, 4, 5, 1, 6, 0] rfl (hrc18_2 (v3 + (0 : Int32)) (v4 + (1 : Int32)))
            · refine zr_iconst (pc := 58) (zq_d eX11_speaksBehind 32 rfl) zc_i1 ?_
              refine zr_goto (pc := 59) 63 (zq_d eX11_speaksBehind 33 rfl) (by decide) ?_
              refine zr_iadd (pc := 63) (zq_d eX11_speaksBehind 35 rfl) ?_
              refine zr_istore (pc := 64) (lo2 := [(4, .int (v3 + (1 : Int32))), (0, .ref (zq_ad G 69)), (1, .int a1), (2, .int a2), (3, .int a3), (5, .int v2), (6, .int v4)]) (zq_d eX11_speaksBehind 36 rfl) (Nat.le_of_ble_eq_true rfl) rfl ?_
              refine zr_iinc (pc := 66) (j := 6) (v := (v4 + (1 : Int32))) (lo2 := [(6, .int (v4 + (1 : Int32))), (4, .int (v3 + (1 : Int32))), (0, .ref (zq_ad G 69)), (1, .int a1), (2, .int a2), (3, .int a3), (5, .int v2)]) (zq_d eX11_speaksBehind 37 rfl) rfl (by rw [zc_i1]) (Nat.le_of_ble_eq_true rfl) rfl ?_
              refine zr_goto (pc := 69) 18 (zq_d eX11_speaksBehind 38 rfl) (by decide) ?_
              exact zr_lo [2, 3, 4, 5, 1, 6, 0] rfl (hrc18_2 (v3 + (1 : Int32)) (v4 + (1 : Int32)))
      have hlrc18_2 := zr_loop (P := fun (rc18_2 : Int32 → Int32 → Option Int32) => ∀ (v3 : Int32) (v4 : Int32), zq_V G YX11_speaksBehind (5, 0, 0) (zq_ei zq_shM z X) 0 0 18 [(0, .ref (zq_ad G 69)), (1, .int a1), (2, .int a2), (3, .int a3), (4, .int v3), (5, .int v2), (6, .int v4)] [] zq_shM z X (rc18_2 v3 v4)) (fun _ _ => none) (b_X11_speaksBehind_18 N X a1 a2 a3 v2 rc6_1) (fun _ _ => zr_none) hbrc18_2 N
      exact zr_lo [1, 2, 3, 4, 5, 6, 0] rfl (hlrc18_2 v1 (0 : Int32))
  have hlrc6_1 := zr_loop (P := fun (rc6_1 : Int32 → Int32 → Option Int32) => ∀ (v1 : Int32) (v2 : Int32), zq_V G YX11_speaksBehind (5, 0, 0) (zq_ei zq_shM z X) 0 0 6 [(0, .ref (zq_ad G 69)), (1, .int a1), (2, .int a2), (3, .int a3), (4, .int v1), (5, .int v2)] [] zq_shM z X (rc6_1 v1 v2)) (fun _ _ => none) (b_X11_speaksBehind_6 N X a1 a2 a3) (fun _ _ => zr_none) hbrc6_1 N
  exact zr_lo [2, 3, 4, 5, 1, 0] rfl (hlrc6_1 (0 : Int32) (0 : Int32))
