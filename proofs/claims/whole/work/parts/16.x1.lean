def b_X1_saidIn_54 (N : Nat) (j : Nat) (a1 : Int32) (X2 : zq_M) (rc54_2 : Int32 → Int32 → Option (Int32 × zq_M)) (v3 : Int32) (v4 : Int32) : Option (Int32 × zq_M) :=
  (f_X5_everybody N j X2 1).bind (fun v5 => if v5 < v4 then (some (v3, X2)) else (zq_ck a1 1024 (if ¬ ((zq_shr (X2.1 46 (zq_ix a1)) v4) &&& (1 : Int32)) = (1 : Int32) then (rc54_2 v3 (v4 + (1 : Int32))) else ((f_X1_knowingThen N j X2 v4).bind (fun v6 => rc54_2 (v3 ||| (zq_shl (1 : Int32) v6)) (v4 + (1 : Int32)))))))
def k_X1_saidIn_50_3 (N : Nat) (j : Nat) (a1 : Int32) (X2 : zq_M)  : Option (Int32 × zq_M) :=
  zq_loop (fun _ _ => none) (b_X1_saidIn_54 N j a1 X2) N (0 : Int32) (0 : Int32)
def b_X1_saidIn_2 (N : Nat) (j : Nat) (a1 : Int32) (rc2_1 : Int32 → zq_M → Option (Int32 × zq_M)) (v1 : Int32) (X2 : zq_M) : Option (Int32 × zq_M) :=
  if (3 : Int32) ≤ v1 then (k_X1_saidIn_50_3 N j a1 X2) else ((f_X6_whoIsAt N j X2 a1 v1).bind (fun v7 => zq_ck v1 3 (zq_b (zq_u1 X2 49 (zq_ix v1) v7) (fun X8 => zq_ck v1 3 (zq_ck ((v1 * (32 : Int32)) + (X8.1 49 (zq_ix v1))) 96 (zq_ck v1 3 (zq_b (zq_u1 X8 50 (zq_ix v1) (X8.1 48 (zq_ix ((v1 * (32 : Int32)) + (X8.1 49 (zq_ix v1)))))) (fun X9 => rc2_1 (v1 + (1 : Int32)) X9))))))))
def f_X1_saidIn (N j : Nat) (X : zq_M) (a1 : Int32) : Option (Int32 × zq_M) :=
  zq_loop (fun _ _ => none) (b_X1_saidIn_2 N j a1) N (0 : Int32) X
set_option maxRecDepth 20000 in
set_option maxHeartbeats 8000000 in
theorem s_X1_saidIn (G : zq_G) (N z j : Nat) (X : zq_M) (a1 : Int32) : zq_V G YX1_saidIn (2, 0, 0) (zq_si (zq_shX j) z) 0 0 0 (lv_args 0 [.ref (zq_ad G 45), .int a1]) [] (zq_shX j) z X (f_X1_saidIn N j X a1) := by
  unfold f_X1_saidIn
  refine zr_lo (l2 := [(0, .ref (zq_ad G 45)), (1, .int a1)]) [0, 1] rfl ?_
  refine zr_iconst (pc := 0) (zq_d eX1_saidIn 0 rfl) zc_i0 ?_
  refine zr_istore_n (pc := 1) (lo2 := [(2, .int (0 : Int32)), (0, .ref (zq_ad G 45)), (1, .int a1)]) (zq_d eX1_saidIn 1 rfl) rfl (Nat.le_of_ble_eq_true rfl) rfl ?_
  have hbrc2_1 : ∀ rc2_1 : Int32 → zq_M → Option (Int32 × zq_M), (∀ (v1 : Int32) (X2 : zq_M), zq_V G YX1_saidIn (2, 0, 0) (zq_si (zq_shX j) z) 0 0 2 [(0, .ref (zq_ad G 45)), (1, .int a1), (2, .int v1)] [] (zq_shX j) z X2 (rc2_1 v1 X2)) → ∀ (v1 : Int32) (X2 : zq_M), zq_V G YX1_saidIn (2, 0, 0) (zq_si (zq_shX j) z) 0 0 2 [(0, .ref (zq_ad G 45)), (1, .int a1), (2, .int v1)] [] (zq_shX j) z X2 (b_X1_saidIn_2 N j a1 rc2_1 v1 X2) := by
    intro rc2_1 hrc2_1 v1 X2
    unfold b_X1_saidIn_2
    refine zr_iload_n (pc := 2) (zq_d eX1_saidIn 2 rfl) 2 rfl rfl ?_
    refine zr_iconst (pc := 3) (zq_d eX1_saidIn 3 rfl) zc_i3 ?_
    refine zr_icmp_ge (pc := 4) 50 (zq_d eX1_saidIn 4 rfl) (by decide) (fun _ => ?_) (fun _ => ?_)
    · unfold k_X1_saidIn_50_3
      refine zr_iconst (pc := 50) (zq_d eX1_saidIn 31 rfl) zc_i0 ?_
      refine zr_istore_n (pc := 51) (lo2 := [(2, .int (0 : Int32)), (0, .ref (zq_ad G 45)), (1, .int a1)]) (zq_d eX1_saidIn 32 rfl) rfl (Nat.le_of_ble_eq_true rfl) rfl ?_
      refine zr_iconst (pc := 52) (zq_d eX1_saidIn 33 rfl) zc_i0 ?_
      refine zr_istore_n (pc := 53) (lo2 := [(3, .int (0 : Int32)), (2, .int (0 : Int32)), (0, .ref (zq_ad G 45)), (1, .int a1)]) (zq_d eX1_saidIn 34 rfl) rfl (Nat.le_of_ble_eq_true rfl) rfl ?_
      have hbrc54_2 : ∀ rc54_2 : Int32 → Int32 → Option (Int32 × zq_M), (∀ (v3 : Int32) (v4 : Int32), zq_V G YX1_saidIn (2, 0, 0) (zq_si (zq_shX j) z) 0 0 54 [(0, .ref (zq_ad G 45)), (1, .int a1), (2, .int v3), (3, .int v4)] [] (zq_shX j) z X2 (rc54_2 v3 v4)) → ∀ (v3 : Int32) (v4 : Int32), zq_V G YX1_saidIn (2, 0, 0) (zq_si (zq_shX j) z) 0 0 54 [(0, .ref (zq_ad G 45)), (1, .int a1), (2, .int v3), (3, .int v4)] [] (zq_shX j) z X2 (b_X1_saidIn_54 N j a1 X2 rc54_2 v3 v4) := by
        intro rc54_2 hrc54_2 v3 v4
        unfold b_X1_saidIn_54
        refine zr_iload_n (pc := 54) (zq_d eX1_saidIn 35 rfl) 3 rfl rfl ?_
        refine zr_aload_n (pc := 55) (zq_d eX1_saidIn 36 rfl) 0 rfl rfl ?_
        refine zr_getC (pc := 56) (zq_d eX1_saidIn 37 rfl) zf_RX1_29 (kx_45_0 j) ?_
        refine zr_getC (pc := 59) (zq_d eX1_saidIn 38 rfl) zf_RX1_33 (kx_35_0 j) ?_
        refine zr_Vi (pc := 62) [] (zq_d eX1_saidIn 39 rfl) (s_X5_everybody G N z j X2 1 (zsc_1 j)) zd_X5_everybody zl_RX1_88 (ox_1 j) rfl rfl rfl rfl (Nat.le_of_ble_eq_true rfl) (Nat.le_of_ble_eq_true rfl) (Nat.le_of_ble_eq_true rfl) ⟨Nat.le_refl _, Nat.le_refl _⟩ (fun v5 => ?_)
        refine zr_icmp_gt (pc := 65) 98 (zq_d eX1_saidIn 40 rfl) (by decide) (fun _ => ?_) (fun _ => ?_)
        · refine zr_iload_n (pc := 98) (zq_d eX1_saidIn 61 rfl) 2 rfl rfl ?_
          exact zr_ireturn (pc := 99) (zq_d eX1_saidIn 62 rfl) rfl rfl (Nat.zero_le _) (Nat.zero_le _)
        · refine zr_aload_n (pc := 68) (zq_d eX1_saidIn 41 rfl) 0 rfl rfl ?_
          refine zr_getC (pc := 69) (zq_d eX1_saidIn 42 rfl) zf_RX1_11 (kx_45_1 j) ?_
          refine zr_iload_n (pc := 72) (zq_d eX1_saidIn 43 rfl) 1 rfl rfl ?_
          refine zr_iald (pc := 73) (zq_d eX1_saidIn 44 rfl) (ax_46 j) ?_
          refine zr_iload_n (pc := 74) (zq_d eX1_saidIn 45 rfl) 3 rfl rfl ?_
          refine zr_ishr (pc := 75) (zq_d eX1_saidIn 46 rfl) ?_
          refine zr_iconst (pc := 76) (zq_d eX1_saidIn 47 rfl) zc_i1 ?_
          refine zr_iand (pc := 77) (zq_d eX1_saidIn 48 rfl) ?_
          refine zr_iconst (pc := 78) (zq_d eX1_saidIn 49 rfl) zc_i1 ?_
          refine zr_icmp_ne (pc := 79) 92 (zq_d eX1_saidIn 50 rfl) (by decide) (fun _ => ?_) (fun _ => ?_)
          · refine zr_iinc (pc := 92) (j := 3) (v := (v4 + (1 : Int32))) (lo2 := [(3, .int (v4 + (1 : Int32))), (0, .ref (zq_ad G 45)), (1, .int a1), (2, .int v3)]) (zq_d eX1_saidIn 59 rfl) rfl (by rw [zc_i1]) (Nat.le_of_ble_eq_true rfl) rfl ?_
            refine zr_goto (pc := 95) 54 (zq_d eX1_saidIn 60 rfl) (by decide) ?_
            exact zr_lo [1, 2, 3, 0] rfl (hrc54_2 v3 (v4 + (1 : Int32)))
          · refine zr_iload_n (pc := 82) (zq_d eX1_saidIn 51 rfl) 2 rfl rfl ?_
            refine zr_iconst (pc := 83) (zq_d eX1_saidIn 52 rfl) zc_i1 ?_
            refine zr_aload_n (pc := 84) (zq_d eX1_saidIn 53 rfl) 0 rfl rfl ?_
            refine zr_iload_n (pc := 85) (zq_d eX1_saidIn 54 rfl) 3 rfl rfl ?_
            refine zr_Vi (pc := 86) [_] (zq_d eX1_saidIn 55 rfl) (s_X1_knowingThen G N z j X2 _) zd_X1_knowingThen zl_RX1_101 (ox_45 j) rfl rfl rfl rfl (Nat.le_of_ble_eq_true rfl) (Nat.le_of_ble_eq_true rfl) (Nat.le_of_ble_eq_true rfl) ⟨Nat.le_refl _, Nat.le_refl _⟩ (fun v6 => ?_)
            refine zr_ishl (pc := 89) (zq_d eX1_saidIn 56 rfl) ?_
            refine zr_ior (pc := 90) (zq_d eX1_saidIn 57 rfl) ?_
            refine zr_istore_n (pc := 91) (lo2 := [(2, .int (v3 ||| (zq_shl (1 : Int32) v6))), (0, .ref (zq_ad G 45)), (1, .int a1), (3, .int v4)]) (zq_d eX1_saidIn 58 rfl) rfl (Nat.le_of_ble_eq_true rfl) rfl ?_
            refine zr_iinc (pc := 92) (j := 3) (v := (v4 + (1 : Int32))) (lo2 := [(3, .int (v4 + (1 : Int32))), (2, .int (v3 ||| (zq_shl (1 : Int32) v6))), (0, .ref (zq_ad G 45)), (1, .int a1)]) (zq_d eX1_saidIn 59 rfl) rfl (by rw [zc_i1]) (Nat.le_of_ble_eq_true rfl) rfl ?_
            refine zr_goto (pc := 95) 54 (zq_d eX1_saidIn 60 rfl) (by decide) ?_
            exact zr_lo [2, 3, 1, 0] rfl (hrc54_2 (v3 ||| (zq_shl (1 : Int32) v6)) (v4 + (1 : Int32)))
      have hlrc54_2 := zr_loop (P := fun (rc54_2 : Int32 → Int32 → Option (Int32 × zq_M)) => ∀ (v3 : Int32) (v4 : Int32), zq_V G YX1_saidIn (2, 0, 0) (zq_si (zq_shX j) z) 0 0 54 [(0, .ref (zq_ad G 45)), (1, .int a1), (2, .int v3), (3, .int v4)] [] (zq_shX j) z X2 (rc54_2 v3 v4)) (fun _ _ => none) (b_X1_saidIn_54 N j a1 X2) (fun _ _ => zr_none) hbrc54_2 N
      exact zr_lo [2, 3, 1, 0] rfl (hlrc54_2 (0 : Int32) (0 : Int32))
    · refine zr_aload_n (pc := 7) (zq_d eX1_saidIn 5 rfl) 0 rfl rfl ?_
      refine zr_getC (pc := 8) (zq_d eX1_saidIn 6 rfl) zf_RX1_23 (kx_45_4 j) ?_
      refine zr_iload_n (pc := 11) (zq_d eX1_saidIn 7 rfl) 2 rfl rfl ?_
      refine zr_aload_n (pc := 12) (zq_d eX1_saidIn 8 rfl) 0 rfl rfl ?_
      refine zr_getC (pc := 13) (zq_d eX1_saidIn 9 rfl) zf_RX1_29 (kx_45_0 j) ?_
      refine zr_iload_n (pc := 16) (zq_d eX1_saidIn 10 rfl) 1 rfl rfl ?_
      refine zr_iload_n (pc := 17) (zq_d eX1_saidIn 11 rfl) 2 rfl rfl ?_
      refine zr_Vi (pc := 18) [_, _] (zq_d eX1_saidIn 12 rfl) (s_X6_whoIsAt G N z j X2 _ _) zd_X6_whoIsAt zl_RX1_97 (ox_35 j) rfl rfl rfl rfl (Nat.le_of_ble_eq_true rfl) (Nat.le_of_ble_eq_true rfl) (Nat.le_of_ble_eq_true rfl) ⟨Nat.le_refl _, Nat.le_refl _⟩ (fun v7 => ?_)
      refine zr_iast (pc := 21) (zq_d eX1_saidIn 13 rfl) (ax_49 j) (fun X8 => ?_)
      refine zr_aload_n (pc := 22) (zq_d eX1_saidIn 14 rfl) 0 rfl rfl ?_
      refine zr_getC (pc := 23) (zq_d eX1_saidIn 15 rfl) zf_RX1_26 (kx_45_5 j) ?_
      refine zr_iload_n (pc := 26) (zq_d eX1_saidIn 16 rfl) 2 rfl rfl ?_
      refine zr_aload_n (pc := 27) (zq_d eX1_saidIn 17 rfl) 0 rfl rfl ?_
      refine zr_getC (pc := 28) (zq_d eX1_saidIn 18 rfl) zf_RX1_20 (kx_45_3 j) ?_
      refine zr_iload_n (pc := 31) (zq_d eX1_saidIn 19 rfl) 2 rfl rfl ?_
      refine zr_bipush (pc := 32) (zq_d eX1_saidIn 20 rfl) zc_b32 ?_
      refine zr_imul (pc := 34) (zq_d eX1_saidIn 21 rfl) ?_
      refine zr_aload_n (pc := 35) (zq_d eX1_saidIn 22 rfl) 0 rfl rfl ?_
      refine zr_getC (pc := 36) (zq_d eX1_saidIn 23 rfl) zf_RX1_23 (kx_45_4 j) ?_
      refine zr_iload_n (pc := 39) (zq_d eX1_saidIn 24 rfl) 2 rfl rfl ?_
      refine zr_iald (pc := 40) (zq_d eX1_saidIn 25 rfl) (ax_49 j) ?_
      refine zr_iadd (pc := 41) (zq_d eX1_saidIn 26 rfl) ?_
      refine zr_iald (pc := 42) (zq_d eX1_saidIn 27 rfl) (ax_48 j) ?_
      refine zr_iast (pc := 43) (zq_d eX1_saidIn 28 rfl) (ax_50 j) (fun X9 => ?_)
      refine zr_iinc (pc := 44) (j := 2) (v := (v1 + (1 : Int32))) (lo2 := [(2, .int (v1 + (1 : Int32))), (0, .ref (zq_ad G 45)), (1, .int a1)]) (zq_d eX1_saidIn 29 rfl) rfl (by rw [zc_i1]) (Nat.le_of_ble_eq_true rfl) rfl ?_
      refine zr_goto (pc := 47) 2 (zq_d eX1_saidIn 30 rfl) (by decide) ?_
      exact zr_lo [1, 2, 0] rfl (hrc2_1 (v1 + (1 : Int32)) X9)
  have hlrc2_1 := zr_loop (P := fun (rc2_1 : Int32 → zq_M → Option (Int32 × zq_M)) => ∀ (v1 : Int32) (X2 : zq_M), zq_V G YX1_saidIn (2, 0, 0) (zq_si (zq_shX j) z) 0 0 2 [(0, .ref (zq_ad G 45)), (1, .int a1), (2, .int v1)] [] (zq_shX j) z X2 (rc2_1 v1 X2)) (fun _ _ => none) (b_X1_saidIn_2 N j a1) (fun _ _ => zr_none) hbrc2_1 N
  exact zr_lo [1, 2, 0] rfl (hlrc2_1 (0 : Int32) X)
def b_X1_sayAll_4 (N : Nat) (j : Nat) (a1 : Int32) (rc4_1 : Int32 → Int32 → zq_M → Option (Int32 × zq_M)) (v1 : Int32) (v2 : Int32) (X3 : zq_M) : Option (Int32 × zq_M) :=
  if (X3.1 45 6) ≤ v2 then (zq_gz v1 (some (v1, X3))) else (zq_ck v2 1024 (if (X3.1 46 (zq_ix v2)) = 0 then (rc4_1 v1 (v2 + (1 : Int32)) X3) else ((f_X1_saidIn N j X3 v2).bind (zq_p (fun v4 X5 => zq_ck v2 1024 (zq_b (zq_u1 X5 46 (zq_ix v2) v4) (fun X6 => zq_ck v2 1024 (if ((X6.1 46 (zq_ix v2)) &&& a1) = 0 then (rc4_1 (v1 ||| (0 : Int32)) (v2 + (1 : Int32)) X6) else (rc4_1 (v1 ||| (1 : Int32)) (v2 + (1 : Int32)) X6)))))))))
def f_X1_sayAll (N j : Nat) (X : zq_M) (a1 : Int32) : Option (Int32 × zq_M) :=
  zq_loop (fun _ _ _ => none) (b_X1_sayAll_4 N j a1) N (0 : Int32) (0 : Int32) X
set_option maxRecDepth 20000 in
set_option maxHeartbeats 8000000 in
theorem s_X1_sayAll (G : zq_G) (N z j : Nat) (X : zq_M) (a1 : Int32) : zq_V G YX1_sayAll (3, 0, 0) (zq_si (zq_shX j) z) 0 0 0 (lv_args 0 [.ref (zq_ad G 45), .int a1]) [] (zq_shX j) z X (f_X1_sayAll N j X a1) := by
  unfold f_X1_sayAll
  refine zr_lo (l2 := [(0, .ref (zq_ad G 45)), (1, .int a1)]) [0, 1] rfl ?_
  refine zr_iconst (pc := 0) (zq_d eX1_sayAll 0 rfl) zc_i0 ?_
  refine zr_istore_n (pc := 1) (lo2 := [(2, .int (0 : Int32)), (0, .ref (zq_ad G 45)), (1, .int a1)]) (zq_d eX1_sayAll 1 rfl) rfl (Nat.le_of_ble_eq_true rfl) rfl ?_
  refine zr_iconst (pc := 2) (zq_d eX1_sayAll 2 rfl) zc_i0 ?_
  refine zr_istore_n (pc := 3) (lo2 := [(3, .int (0 : Int32)), (2, .int (0 : Int32)), (0, .ref (zq_ad G 45)), (1, .int a1)]) (zq_d eX1_sayAll 3 rfl) rfl (Nat.le_of_ble_eq_true rfl) rfl ?_
  have hbrc4_1 : ∀ rc4_1 : Int32 → Int32 → zq_M → Option (Int32 × zq_M), (∀ (v1 : Int32) (v2 : Int32) (X3 : zq_M), zq_V G YX1_sayAll (3, 0, 0) (zq_si (zq_shX j) z) 0 0 4 [(0, .ref (zq_ad G 45)), (1, .int a1), (2, .int v1), (3, .int v2)] [] (zq_shX j) z X3 (rc4_1 v1 v2 X3)) → ∀ (v1 : Int32) (v2 : Int32) (X3 : zq_M), zq_V G YX1_sayAll (3, 0, 0) (zq_si (zq_shX j) z) 0 0 4 [(0, .ref (zq_ad G 45)), (1, .int a1), (2, .int v1), (3, .int v2)] [] (zq_shX j) z X3 (b_X1_sayAll_4 N j a1 rc4_1 v1 v2 X3) := by
    intro rc4_1 hrc4_1 v1 v2 X3
    unfold b_X1_sayAll_4
    refine zr_iload_n (pc := 4) (zq_d eX1_sayAll 4 rfl) 3 rfl rfl ?_
    refine zr_aload_n (pc := 5) (zq_d eX1_sayAll 5 rfl) 0 rfl rfl ?_
    refine zr_getI (pc := 6) (zq_d eX1_sayAll 6 rfl) zf_RX1_43 (kx_45_6 j) ?_
    refine zr_icmp_ge (pc := 9) 57 (zq_d eX1_sayAll 7 rfl) (by decide) (fun _ => ?_) (fun _ => ?_)
    · refine zr_iload_n (pc := 57) (zq_d eX1_sayAll 35 rfl) 2 rfl rfl ?_
      exact zr_zreturnG (pc := 58) (zq_d eX1_sayAll 36 rfl) rfl rfl (Nat.zero_le _) (Nat.zero_le _)
    · refine zr_aload_n (pc := 12) (zq_d eX1_sayAll 8 rfl) 0 rfl rfl ?_
      refine zr_getC (pc := 13) (zq_d eX1_sayAll 9 rfl) zf_RX1_11 (kx_45_1 j) ?_
      refine zr_iload_n (pc := 16) (zq_d eX1_sayAll 10 rfl) 3 rfl rfl ?_
      refine zr_iald (pc := 17) (zq_d eX1_sayAll 11 rfl) (ax_46 j) ?_
      refine zr_if_eq (pc := 18) 51 (zq_d eX1_sayAll 12 rfl) (by decide) (fun _ => ?_) (fun _ => ?_)
      · refine zr_iinc (pc := 51) (j := 3) (v := (v2 + (1 : Int32))) (lo2 := [(3, .int (v2 + (1 : Int32))), (0, .ref (zq_ad G 45)), (1, .int a1), (2, .int v1)]) (zq_d eX1_sayAll 33 rfl) rfl (by rw [zc_i1]) (Nat.le_of_ble_eq_true rfl) rfl ?_
        refine zr_goto (pc := 54) 4 (zq_d eX1_sayAll 34 rfl) (by decide) ?_
        exact zr_lo [1, 2, 3, 0] rfl (hrc4_1 v1 (v2 + (1 : Int32)) X3)
      · refine zr_aload_n (pc := 21) (zq_d eX1_sayAll 13 rfl) 0 rfl rfl ?_
        refine zr_getC (pc := 22) (zq_d eX1_sayAll 14 rfl) zf_RX1_11 (kx_45_1 j) ?_
        refine zr_iload_n (pc := 25) (zq_d eX1_sayAll 15 rfl) 3 rfl rfl ?_
        refine zr_aload_n (pc := 26) (zq_d eX1_sayAll 16 rfl) 0 rfl rfl ?_
        refine zr_iload_n (pc := 27) (zq_d eX1_sayAll 17 rfl) 3 rfl rfl ?_
        refine zr_Wsi (pc := 28) [_] (zq_d eX1_sayAll 18 rfl) (s_X1_saidIn G N z j X3 _) zd_X1_saidIn zl_RX1_84 (ox_45 j) rfl rfl rfl rfl (Nat.le_of_ble_eq_true rfl) (Nat.le_of_ble_eq_true rfl) (Nat.le_of_ble_eq_true rfl) ⟨Nat.le_refl _, Nat.le_refl _⟩ (fun v4 X5 => ?_)
        refine zr_iast (pc := 31) (zq_d eX1_sayAll 19 rfl) (ax_46 j) (fun X6 => ?_)
        refine zr_iload_n (pc := 32) (zq_d eX1_sayAll 20 rfl) 2 rfl rfl ?_
        refine zr_aload_n (pc := 33) (zq_d eX1_sayAll 21 rfl) 0 rfl rfl ?_
        refine zr_getC (pc := 34) (zq_d eX1_sayAll 22 rfl) zf_RX1_11 (kx_45_1 j) ?_
        refine zr_iload_n (pc := 37) (zq_d eX1_sayAll 23 rfl) 3 rfl rfl ?_
        refine zr_iald (pc := 38) (zq_d eX1_sayAll 24 rfl) (ax_46 j) ?_
        refine zr_iload_n (pc := 39) (zq_d eX1_sayAll 25 rfl) 1 rfl rfl ?_
        refine zr_iand (pc := 40) (zq_d eX1_sayAll 26 rfl) ?_
        refine zr_if_eq (pc := 41) 48 (zq_d eX1_sayAll 27 rfl) (by decide) (fun _ => ?_) (fun _ => ?_)
        · refine zr_iconst (pc := 48) (zq_d eX1_sayAll 30 rfl) zc_i0 ?_
          refine zr_ior (pc := 49) (zq_d eX1_sayAll 31 rfl) ?_
          refine zr_istore_n (pc := 50) (lo2 := [(2, .int (v1 ||| (0 : Int32))), (0, .ref (zq_ad G 45)), (1, .int a1), (3, .int v2)]) (zq_d eX1_sayAll 32 rfl) rfl (Nat.le_of_ble_eq_true rfl) rfl ?_
          refine zr_iinc (pc := 51) (j := 3) (v := (v2 + (1 : Int32))) (lo2 := [(3, .int (v2 + (1 : Int32))), (2, .int (v1 ||| (0 : Int32))), (0, .ref (zq_ad G 45)), (1, .int a1)]) (zq_d eX1_sayAll 33 rfl) rfl (by rw [zc_i1]) (Nat.le_of_ble_eq_true rfl) rfl ?_
          refine zr_goto (pc := 54) 4 (zq_d eX1_sayAll 34 rfl) (by decide) ?_
          exact zr_lo [2, 3, 1, 0] rfl (hrc4_1 (v1 ||| (0 : Int32)) (v2 + (1 : Int32)) X6)
        · refine zr_iconst (pc := 44) (zq_d eX1_sayAll 28 rfl) zc_i1 ?_
          refine zr_goto (pc := 45) 49 (zq_d eX1_sayAll 29 rfl) (by decide) ?_
          refine zr_ior (pc := 49) (zq_d eX1_sayAll 31 rfl) ?_
          refine zr_istore_n (pc := 50) (lo2 := [(2, .int (v1 ||| (1 : Int32))), (0, .ref (zq_ad G 45)), (1, .int a1), (3, .int v2)]) (zq_d eX1_sayAll 32 rfl) rfl (Nat.le_of_ble_eq_true rfl) rfl ?_
          refine zr_iinc (pc := 51) (j := 3) (v := (v2 + (1 : Int32))) (lo2 := [(3, .int (v2 + (1 : Int32))), (2, .int (v1 ||| (1 : Int32))), (0, .ref (zq_ad G 45)), (1, .int a1)]) (zq_d eX1_sayAll 33 rfl) rfl (by rw [zc_i1]) (Nat.le_of_ble_eq_true rfl) rfl ?_
          refine zr_goto (pc := 54) 4 (zq_d eX1_sayAll 34 rfl) (by decide) ?_
          exact zr_lo [2, 3, 1, 0] rfl (hrc4_1 (v1 ||| (1 : Int32)) (v2 + (1 : Int32)) X6)
  have hlrc4_1 := zr_loop (P := fun (rc4_1 : Int32 → Int32 → zq_M → Option (Int32 × zq_M)) => ∀ (v1 : Int32) (v2 : Int32) (X3 : zq_M), zq_V G YX1_sayAll (3, 0, 0) (zq_si (zq_shX j) z) 0 0 4 [(0, .ref (zq_ad G 45)), (1, .int a1), (2, .int v1), (3, .int v2)] [] (zq_shX j) z X3 (rc4_1 v1 v2 X3)) (fun _ _ _ => none) (b_X1_sayAll_4 N j a1) (fun _ _ _ => zr_none) hbrc4_1 N
  exact zr_lo [2, 3, 1, 0] rfl (hlrc4_1 (0 : Int32) (0 : Int32) X)
def j_X1_fewestTill_57 (N : Nat) (j : Nat) (a2 : Int32) (v5 : Int32) (rc43_1 : Int32 → zq_M → Option (Int32 × zq_M)) (X7 : zq_M) : Option (Int32 × zq_M) :=
  (f_X1_tellSpeakers N j X7 v5).bind (fun X8 => (f_X1_sayAll N j X8 a2).bind (zq_p (fun v9 X10 => if v9 = 0 then (rc43_1 (v5 + (1 : Int32)) X10) else (some (v5, X10)))))
def b_X1_fewestTill_43 (N : Nat) (j : Nat) (a2 : Int32) (rc43_1 : Int32 → zq_M → Option (Int32 × zq_M)) (v5 : Int32) (X6 : zq_M) : Option (Int32 × zq_M) :=
  if (6 : Int32) < v5 then (some ((-5 : Int32), X6)) else (if v5 ≤ 0 then (j_X1_fewestTill_57 N j a2 v5 rc43_1 X6) else ((f_X1_goOn N j X6).bind (fun X11 => j_X1_fewestTill_57 N j a2 v5 rc43_1 X11)))
def f_X1_fewestTill (N j : Nat) (X : zq_M) (a1 : Int32) (a2 : Int32) : Option (Int32 × zq_M) :=
  zq_b (zq_u1 X 45 6 (zq_shl (1 : Int32) ((2 : Int32) * (X.1 1 0)))) (fun X1 => (f_J7_fill_53178 N (zq_shX j) X1 46 1024 (0 : Int32)).bind (fun X2 => (f_X6_packedNow N j X2).bind (fun v3 => zq_ck v3 1024 (zq_b (zq_u1 X2 46 (zq_ix v3) (zq_shl (1 : Int32) a1)) (fun X4 => zq_loop (fun _ _ => none) (b_X1_fewestTill_43 N j a2) N (0 : Int32) X4)))))
set_option maxRecDepth 20000 in
set_option maxHeartbeats 8000000 in
theorem s_X1_fewestTill (G : zq_G) (N z j : Nat) (X : zq_M) (a1 : Int32) (a2 : Int32) : zq_V G YX1_fewestTill (6, 0, 0) (zq_si (zq_shX j) z) 0 0 0 (lv_args 0 [.ref (zq_ad G 45), .int a1, .int a2]) [] (zq_shX j) z X (f_X1_fewestTill N j X a1 a2) := by
  unfold f_X1_fewestTill
  refine zr_lo (l2 := [(0, .ref (zq_ad G 45)), (1, .int a1), (2, .int a2)]) [0, 1, 2] rfl ?_
  refine zr_aload_n (pc := 0) (zq_d eX1_fewestTill 0 rfl) 0 rfl rfl ?_
  refine zr_iconst (pc := 1) (zq_d eX1_fewestTill 1 rfl) zc_i1 ?_
  refine zr_iconst (pc := 2) (zq_d eX1_fewestTill 2 rfl) zc_i2 ?_
  refine zr_aload_n (pc := 3) (zq_d eX1_fewestTill 3 rfl) 0 rfl rfl ?_
  refine zr_getC (pc := 4) (zq_d eX1_fewestTill 4 rfl) zf_RX1_29 (kx_45_0 j) ?_
  refine zr_getC (pc := 7) (zq_d eX1_fewestTill 5 rfl) zf_RX1_33 (kx_35_0 j) ?_
  refine zr_getI (pc := 10) (zq_d eX1_fewestTill 6 rfl) zf_RX1_37 (kx_1_0 j) ?_
  refine zr_imul (pc := 13) (zq_d eX1_fewestTill 7 rfl) ?_
  refine zr_ishl (pc := 14) (zq_d eX1_fewestTill 8 rfl) ?_
  refine zr_putI (pc := 15) (zq_d eX1_fewestTill 9 rfl) zf_RX1_43 (kx_45_6 j) zn_1_6 (fun X1 => ?_)
  refine zr_aload_n (pc := 18) (zq_d eX1_fewestTill 10 rfl) 0 rfl rfl ?_
  refine zr_getC (pc := 19) (zq_d eX1_fewestTill 11 rfl) zf_RX1_11 (kx_45_1 j) ?_
  refine zr_iconst (pc := 22) (zq_d eX1_fewestTill 12 rfl) zc_i0 ?_
  refine zr_Sv (pc := 23) [_, _] (zq_d eX1_fewestTill 13 rfl) (s_J7_fill_53178 G N z (zq_shX j) X1 46 1024 (ax_46 j) _) zd_J7_fill_53178 zl_RX1_46 rfl rfl (Nat.le_of_ble_eq_true rfl) (Nat.le_of_ble_eq_true rfl) (Nat.le_of_ble_eq_true rfl) ⟨Nat.le_refl _, Nat.le_refl _⟩ (fun X2 => ?_)
  refine zr_aload_n (pc := 26) (zq_d eX1_fewestTill 14 rfl) 0 rfl rfl ?_
  refine zr_getC (pc := 27) (zq_d eX1_fewestTill 15 rfl) zf_RX1_11 (kx_45_1 j) ?_
  refine zr_aload_n (pc := 30) (zq_d eX1_fewestTill 16 rfl) 0 rfl rfl ?_
  refine zr_getC (pc := 31) (zq_d eX1_fewestTill 17 rfl) zf_RX1_29 (kx_45_0 j) ?_
  refine zr_Vi (pc := 34) [] (zq_d eX1_fewestTill 18 rfl) (s_X6_packedNow G N z j X2 ) zd_X6_packedNow zl_RX1_52 (ox_35 j) rfl rfl rfl rfl (Nat.le_of_ble_eq_true rfl) (Nat.le_of_ble_eq_true rfl) (Nat.le_of_ble_eq_true rfl) ⟨Nat.le_refl _, Nat.le_refl _⟩ (fun v3 => ?_)
  refine zr_iconst (pc := 37) (zq_d eX1_fewestTill 19 rfl) zc_i1 ?_
  refine zr_iload_n (pc := 38) (zq_d eX1_fewestTill 20 rfl) 1 rfl rfl ?_
  refine zr_ishl (pc := 39) (zq_d eX1_fewestTill 21 rfl) ?_
  refine zr_iast (pc := 40) (zq_d eX1_fewestTill 22 rfl) (ax_46 j) (fun X4 => ?_)
  refine zr_iconst (pc := 41) (zq_d eX1_fewestTill 23 rfl) zc_i0 ?_
  refine zr_istore_n (pc := 42) (lo2 := [(3, .int (0 : Int32)), (0, .ref (zq_ad G 45)), (1, .int a1), (2, .int a2)]) (zq_d eX1_fewestTill 24 rfl) rfl (Nat.le_of_ble_eq_true rfl) rfl ?_
  have hbrc43_1 : ∀ rc43_1 : Int32 → zq_M → Option (Int32 × zq_M), (∀ (v5 : Int32) (X6 : zq_M), zq_V G YX1_fewestTill (6, 0, 0) (zq_si (zq_shX j) z) 0 0 43 [(0, .ref (zq_ad G 45)), (2, .int a2), (3, .int v5)] [] (zq_shX j) z X6 (rc43_1 v5 X6)) → ∀ (v5 : Int32) (X6 : zq_M), zq_V G YX1_fewestTill (6, 0, 0) (zq_si (zq_shX j) z) 0 0 43 [(0, .ref (zq_ad G 45)), (2, .int a2), (3, .int v5)] [] (zq_shX j) z X6 (b_X1_fewestTill_43 N j a2 rc43_1 v5 X6) := by
    intro rc43_1 hrc43_1 v5 X6
    unfold b_X1_fewestTill_43
    refine zr_iload_n (pc := 43) (zq_d eX1_fewestTill 25 rfl) 2 rfl rfl ?_
    refine zr_bipush (pc := 44) (zq_d eX1_fewestTill 26 rfl) zc_b6 ?_
    refine zr_icmp_gt (pc := 46) 78 (zq_d eX1_fewestTill 27 rfl) (by decide) (fun _ => ?_) (fun _ => ?_)
    · refine zr_bipush (pc := 78) (zq_d eX1_fewestTill 43 rfl) zc_bm5 ?_
      exact zr_ireturn (pc := 80) (zq_d eX1_fewestTill 44 rfl) rfl rfl (Nat.zero_le _) (Nat.zero_le _)
    · refine zr_iload_n (pc := 49) (zq_d eX1_fewestTill 28 rfl) 2 rfl rfl ?_
      have hj57_2 : ∀ (X7 : zq_M), zq_V G YX1_fewestTill (6, 0, 0) (zq_si (zq_shX j) z) 0 0 57 [(0, .ref (zq_ad G 45)), (2, .int a2), (3, .int v5)] [] (zq_shX j) z X7 (j_X1_fewestTill_57 N j a2 v5 rc43_1 X7) := by
        intro X7
        unfold j_X1_fewestTill_57
        refine zr_aload_n (pc := 57) (zq_d eX1_fewestTill 32 rfl) 0 rfl rfl ?_
        refine zr_iload_n (pc := 58) (zq_d eX1_fewestTill 33 rfl) 2 rfl rfl ?_
        refine zr_Vv (pc := 59) [_] (zq_d eX1_fewestTill 34 rfl) (s_X1_tellSpeakers G N z j X7 _) zd_X1_tellSpeakers zl_RX1_59 (ox_45 j) rfl rfl rfl rfl (Nat.le_of_ble_eq_true rfl) (Nat.le_of_ble_eq_true rfl) (Nat.le_of_ble_eq_true rfl) ⟨Nat.le_refl _, Nat.le_refl _⟩ (fun X8 => ?_)
        refine zr_aload_n (pc := 62) (zq_d eX1_fewestTill 35 rfl) 0 rfl rfl ?_
        refine zr_iload_n (pc := 63) (zq_d eX1_fewestTill 36 rfl) 1 rfl rfl ?_
        refine zr_Wsi (pc := 64) [_] (zq_d eX1_fewestTill 37 rfl) (s_X1_sayAll G N z j X8 _) zd_X1_sayAll zl_RX1_63 (ox_45 j) rfl rfl rfl rfl (Nat.le_of_ble_eq_true rfl) (Nat.le_of_ble_eq_true rfl) (Nat.le_of_ble_eq_true rfl) ⟨Nat.le_refl _, Nat.le_refl _⟩ (fun v9 X10 => ?_)
        refine zr_if_eq (pc := 67) 72 (zq_d eX1_fewestTill 38 rfl) (by decide) (fun _ => ?_) (fun _ => ?_)
        · refine zr_iinc (pc := 72) (j := 2) (v := (v5 + (1 : Int32))) (lo2 := [(3, .int (v5 + (1 : Int32))), (0, .ref (zq_ad G 45)), (2, .int a2)]) (zq_d eX1_fewestTill 41 rfl) rfl (by rw [zc_i1]) (Nat.le_of_ble_eq_true rfl) rfl ?_
          refine zr_goto (pc := 75) 43 (zq_d eX1_fewestTill 42 rfl) (by decide) ?_
          exact zr_lo [1, 2, 0] rfl (hrc43_1 (v5 + (1 : Int32)) X10)
        · refine zr_iload_n (pc := 70) (zq_d eX1_fewestTill 39 rfl) 2 rfl rfl ?_
          exact zr_ireturn (pc := 71) (zq_d eX1_fewestTill 40 rfl) rfl rfl (Nat.zero_le _) (Nat.zero_le _)
      refine zr_if_le (pc := 50) 57 (zq_d eX1_fewestTill 29 rfl) (by decide) (fun _ => ?_) (fun _ => ?_)
      · exact zr_lo [0, 1, 2] rfl (hj57_2 X6)
      · refine zr_aload_n (pc := 53) (zq_d eX1_fewestTill 30 rfl) 0 rfl rfl ?_
        refine zr_Vv (pc := 54) [] (zq_d eX1_fewestTill 31 rfl) (s_X1_goOn G N z j X6 ) zd_X1_goOn zl_RX1_56 (ox_45 j) rfl rfl rfl rfl (Nat.le_of_ble_eq_true rfl) (Nat.le_of_ble_eq_true rfl) (Nat.le_of_ble_eq_true rfl) ⟨Nat.le_refl _, Nat.le_refl _⟩ (fun X11 => ?_)
        exact zr_lo [0, 1, 2] rfl (hj57_2 X11)
  have hlrc43_1 := zr_loop (P := fun (rc43_1 : Int32 → zq_M → Option (Int32 × zq_M)) => ∀ (v5 : Int32) (X6 : zq_M), zq_V G YX1_fewestTill (6, 0, 0) (zq_si (zq_shX j) z) 0 0 43 [(0, .ref (zq_ad G 45)), (2, .int a2), (3, .int v5)] [] (zq_shX j) z X6 (rc43_1 v5 X6)) (fun _ _ => none) (b_X1_fewestTill_43 N j a2) (fun _ _ => zr_none) hbrc43_1 N
  exact zr_lo [1, 3, 0] rfl (hlrc43_1 (0 : Int32) X4)
def f_X2_forget (N j : Nat) (X : zq_M) (h : Nat) : Option zq_M :=
  zq_b (zq_u1 X h 0 (0 : Int32)) (fun X1 => zq_b (zq_u1 X1 h 5 (0 : Int32)) (fun X2 => zq_b (zq_u1 X2 h 6 (0 : Int32)) (fun X3 => some X3)))
set_option maxRecDepth 20000 in
set_option maxHeartbeats 8000000 in
theorem s_X2_forget (G : zq_G) (N z j : Nat) (X : zq_M) (h : Nat) (gh : zq_ho (zq_shX j) h = true) : zq_V G YX2_forget (1, 0, 0) (zq_sv (zq_shX j) z) 0 0 0 (lv_args 0 [.ref (zq_ad G h)]) [] (zq_shX j) z X (f_X2_forget N j X h) := by
  unfold f_X2_forget
  refine zr_lo (l2 := [(0, .ref (zq_ad G h))]) [0] rfl ?_
  refine zr_aload_n (pc := 0) (zq_d eX2_forget 0 rfl) 0 rfl rfl ?_
  refine zr_iconst (pc := 1) (zq_d eX2_forget 1 rfl) zc_i0 ?_
  refine zr_putI (pc := 2) (zq_d eX2_forget 2 rfl) zf_RX2_24 (zq_ho_k0 gh) zn_2_0 (fun X1 => ?_)
  refine zr_aload_n (pc := 5) (zq_d eX2_forget 3 rfl) 0 rfl rfl ?_
  refine zr_iconst (pc := 6) (zq_d eX2_forget 4 rfl) zc_i0 ?_
  refine zr_putI (pc := 7) (zq_d eX2_forget 5 rfl) zf_RX2_28 (zq_ho_k5 gh) zn_2_5 (fun X2 => ?_)
  refine zr_aload_n (pc := 10) (zq_d eX2_forget 6 rfl) 0 rfl rfl ?_
  refine zr_iconst (pc := 11) (zq_d eX2_forget 7 rfl) zc_i0 ?_
  refine zr_putI (pc := 12) (zq_d eX2_forget 8 rfl) zf_RX2_31 (zq_ho_k6 gh) zn_2_6 (fun X3 => ?_)
  exact zr_vreturn (pc := 15) (zq_d eX2_forget 9 rfl) rfl rfl (Nat.zero_le _) (Nat.zero_le _)
def f_X2_addStep (N j : Nat) (X : zq_M) (h : Nat) (a1 : Int32) : Option zq_M :=
  if (100 : Int32) ≤ (X.1 h 5) then (some X) else (zq_ck (X.1 h 5) 100 (zq_b (zq_u1 X (h + 4) (zq_ix (X.1 h 5)) a1) (fun X1 => zq_b (zq_u1 X1 h 5 ((X1.1 h 5) + (1 : Int32))) (fun X2 => some X2))))
set_option maxRecDepth 20000 in
set_option maxHeartbeats 8000000 in
theorem s_X2_addStep (G : zq_G) (N z j : Nat) (X : zq_M) (h : Nat) (gh : zq_ho (zq_shX j) h = true) (a1 : Int32) : zq_V G YX2_addStep (1, 0, 0) (zq_sv (zq_shX j) z) 0 0 0 (lv_args 0 [.ref (zq_ad G h), .int a1]) [] (zq_shX j) z X (f_X2_addStep N j X h a1) := by
  unfold f_X2_addStep
  refine zr_lo (l2 := [(0, .ref (zq_ad G h)), (1, .int a1)]) [0, 1] rfl ?_
  refine zr_aload_n (pc := 0) (zq_d eX2_addStep 0 rfl) 0 rfl rfl ?_
  refine zr_getI (pc := 1) (zq_d eX2_addStep 1 rfl) zf_RX2_28 (zq_ho_k5 gh) ?_
  refine zr_bipush (pc := 4) (zq_d eX2_addStep 2 rfl) zc_b100 ?_
  refine zr_icmp_ge (pc := 6) 29 (zq_d eX2_addStep 3 rfl) (by decide) (fun _ => ?_) (fun _ => ?_)
  · exact zr_vreturn (pc := 29) (zq_d eX2_addStep 16 rfl) rfl rfl (Nat.zero_le _) (Nat.zero_le _)
  · refine zr_aload_n (pc := 9) (zq_d eX2_addStep 4 rfl) 0 rfl rfl ?_
    refine zr_getC (pc := 10) (zq_d eX2_addStep 5 rfl) zf_RX2_21 (zq_ho_k4 gh) ?_
    refine zr_aload_n (pc := 13) (zq_d eX2_addStep 6 rfl) 0 rfl rfl ?_
    refine zr_getI (pc := 14) (zq_d eX2_addStep 7 rfl) zf_RX2_28 (zq_ho_k5 gh) ?_
    refine zr_iload_n (pc := 17) (zq_d eX2_addStep 8 rfl) 1 rfl rfl ?_
    refine zr_iast (pc := 18) (zq_d eX2_addStep 9 rfl) (zq_ho_a4 gh) (fun X1 => ?_)
    refine zr_aload_n (pc := 19) (zq_d eX2_addStep 10 rfl) 0 rfl rfl ?_
    refine zr_dup (pc := 20) (zq_d eX2_addStep 11 rfl) rfl ?_
    refine zr_getI (pc := 21) (zq_d eX2_addStep 12 rfl) zf_RX2_28 (zq_ho_k5 gh) ?_
    refine zr_iconst (pc := 24) (zq_d eX2_addStep 13 rfl) zc_i1 ?_
    refine zr_iadd (pc := 25) (zq_d eX2_addStep 14 rfl) ?_
    refine zr_putI (pc := 26) (zq_d eX2_addStep 15 rfl) zf_RX2_28 (zq_ho_k5 gh) zn_2_5 (fun X2 => ?_)
    exact zr_vreturn (pc := 29) (zq_d eX2_addStep 16 rfl) rfl rfl (Nat.zero_le _) (Nat.zero_le _)
def f_X2_addTest (N j : Nat) (X : zq_M) (h : Nat) (a1 : Int32) (a2 : Int32) (a3 : Int32) : Option zq_M :=
  (f_X2_addStep N j X h ((((a3 * (3 : Int32)) + a2) * (6 : Int32)) + a1)).bind (fun X1 => some X1)
set_option maxRecDepth 20000 in
set_option maxHeartbeats 8000000 in
theorem s_X2_addTest (G : zq_G) (N z j : Nat) (X : zq_M) (h : Nat) (gh : zq_ho (zq_shX j) h = true) (a1 : Int32) (a2 : Int32) (a3 : Int32) : zq_V G YX2_addTest (2, 0, 0) (zq_sv (zq_shX j) z) 0 0 0 (lv_args 0 [.ref (zq_ad G h), .int a1, .int a2, .int a3]) [] (zq_shX j) z X (f_X2_addTest N j X h a1 a2 a3) := by
  unfold f_X2_addTest
  refine zr_lo (l2 := [(0, .ref (zq_ad G h)), (1, .int a1), (2, .int a2), (3, .int a3)]) [0, 1, 2, 3] rfl ?_
  refine zr_aload_n (pc := 0) (zq_d eX2_addTest 0 rfl) 0 rfl rfl ?_
  refine zr_iload_n (pc := 1) (zq_d eX2_addTest 1 rfl) 3 rfl rfl ?_
  refine zr_iconst (pc := 2) (zq_d eX2_addTest 2 rfl) zc_i3 ?_
  refine zr_imul (pc := 3) (zq_d eX2_addTest 3 rfl) ?_
  refine zr_iload_n (pc := 4) (zq_d eX2_addTest 4 rfl) 2 rfl rfl ?_
  refine zr_iadd (pc := 5) (zq_d eX2_addTest 5 rfl) ?_
  refine zr_bipush (pc := 6) (zq_d eX2_addTest 6 rfl) zc_b6 ?_
  refine zr_imul (pc := 8) (zq_d eX2_addTest 7 rfl) ?_
  refine zr_iload_n (pc := 9) (zq_d eX2_addTest 8 rfl) 1 rfl rfl ?_
  refine zr_iadd (pc := 10) (zq_d eX2_addTest 9 rfl) ?_
  refine zr_Vv (pc := 11) [_] (zq_d eX2_addTest 10 rfl) (s_X2_addStep G N z j X h gh _) zd_X2_addStep zl_RX2_34 (zq_ho_s gh) rfl rfl rfl rfl (Nat.le_of_ble_eq_true rfl) (Nat.le_of_ble_eq_true rfl) (Nat.le_of_ble_eq_true rfl) ⟨Nat.le_refl _, Nat.le_refl _⟩ (fun X1 => ?_)
  exact zr_vreturn (pc := 14) (zq_d eX2_addTest 11 rfl) rfl rfl (Nat.zero_le _) (Nat.zero_le _)
def j_X2_addClause_52 (h : Nat) (a1 : Int32) (a2 : Int32) (X1 : zq_M) : Option zq_M :=
  if ¬ a1 = (3 : Int32) then (some X1) else (zq_b (zq_u1 X1 h 6 a2) (fun X2 => some X2))
def f_X2_addClause (N j : Nat) (X : zq_M) (h : Nat) (a1 : Int32) (a2 : Int32) : Option zq_M :=
  if (10 : Int32) ≤ (X.1 h 0) then (j_X2_addClause_52 h a1 a2 X) else (zq_ck (X.1 h 0) 10 (zq_b (zq_u1 X (h + 1) (zq_ix (X.1 h 0)) a1) (fun X3 => zq_ck (X3.1 h 0) 10 (zq_b (zq_u1 X3 (h + 2) (zq_ix (X3.1 h 0)) a2) (fun X4 => zq_ck (X4.1 h 0) 10 (zq_b (zq_u1 X4 (h + 3) (zq_ix (X4.1 h 0)) (X4.1 h 5)) (fun X5 => zq_b (zq_u1 X5 h 0 ((X5.1 h 0) + (1 : Int32))) (fun X6 => j_X2_addClause_52 h a1 a2 X6))))))))
set_option maxRecDepth 20000 in
set_option maxHeartbeats 8000000 in
theorem s_X2_addClause (G : zq_G) (N z j : Nat) (X : zq_M) (h : Nat) (gh : zq_ho (zq_shX j) h = true) (a1 : Int32) (a2 : Int32) : zq_V G YX2_addClause (1, 0, 0) (zq_sv (zq_shX j) z) 0 0 0 (lv_args 0 [.ref (zq_ad G h), .int a1, .int a2]) [] (zq_shX j) z X (f_X2_addClause N j X h a1 a2) := by
  unfold f_X2_addClause
  refine zr_lo (l2 := [(0, .ref (zq_ad G h)), (1, .int a1), (2, .int a2)]) [0, 1, 2] rfl ?_
  refine zr_aload_n (pc := 0) (zq_d eX2_addClause 0 rfl) 0 rfl rfl ?_
  refine zr_getI (pc := 1) (zq_d eX2_addClause 1 rfl) zf_RX2_24 (zq_ho_k0 gh) ?_
  refine zr_bipush (pc := 4) (zq_d eX2_addClause 2 rfl) zc_b10 ?_
  have hj52_1 : ∀ (X1 : zq_M), zq_V G YX2_addClause (1, 0, 0) (zq_sv (zq_shX j) z) 0 0 52 [(0, .ref (zq_ad G h)), (1, .int a1), (2, .int a2)] [] (zq_shX j) z X1 (j_X2_addClause_52 h a1 a2 X1) := by
    intro X1
    unfold j_X2_addClause_52
    refine zr_iload_n (pc := 52) (zq_d eX2_addClause 29 rfl) 1 rfl rfl ?_
    refine zr_iconst (pc := 53) (zq_d eX2_addClause 30 rfl) zc_i3 ?_
    refine zr_icmp_ne (pc := 54) 62 (zq_d eX2_addClause 31 rfl) (by decide) (fun _ => ?_) (fun _ => ?_)
    · exact zr_vreturn (pc := 62) (zq_d eX2_addClause 35 rfl) rfl rfl (Nat.zero_le _) (Nat.zero_le _)
    · refine zr_aload_n (pc := 57) (zq_d eX2_addClause 32 rfl) 0 rfl rfl ?_
      refine zr_iload_n (pc := 58) (zq_d eX2_addClause 33 rfl) 2 rfl rfl ?_
      refine zr_putI (pc := 59) (zq_d eX2_addClause 34 rfl) zf_RX2_31 (zq_ho_k6 gh) zn_2_6 (fun X2 => ?_)
      exact zr_vreturn (pc := 62) (zq_d eX2_addClause 35 rfl) rfl rfl (Nat.zero_le _) (Nat.zero_le _)
  refine zr_icmp_ge (pc := 6) 52 (zq_d eX2_addClause 3 rfl) (by decide) (fun _ => ?_) (fun _ => ?_)
  · exact zr_lo [0, 1, 2] rfl (hj52_1 X)
  · refine zr_aload_n (pc := 9) (zq_d eX2_addClause 4 rfl) 0 rfl rfl ?_
    refine zr_getC (pc := 10) (zq_d eX2_addClause 5 rfl) zf_RX2_9 (zq_ho_k1 gh) ?_
    refine zr_aload_n (pc := 13) (zq_d eX2_addClause 6 rfl) 0 rfl rfl ?_
    refine zr_getI (pc := 14) (zq_d eX2_addClause 7 rfl) zf_RX2_24 (zq_ho_k0 gh) ?_
    refine zr_iload_n (pc := 17) (zq_d eX2_addClause 8 rfl) 1 rfl rfl ?_
    refine zr_iast (pc := 18) (zq_d eX2_addClause 9 rfl) (zq_ho_a1 gh) (fun X3 => ?_)
    refine zr_aload_n (pc := 19) (zq_d eX2_addClause 10 rfl) 0 rfl rfl ?_
    refine zr_getC (pc := 20) (zq_d eX2_addClause 11 rfl) zf_RX2_15 (zq_ho_k2 gh) ?_
    refine zr_aload_n (pc := 23) (zq_d eX2_addClause 12 rfl) 0 rfl rfl ?_
    refine zr_getI (pc := 24) (zq_d eX2_addClause 13 rfl) zf_RX2_24 (zq_ho_k0 gh) ?_
    refine zr_iload_n (pc := 27) (zq_d eX2_addClause 14 rfl) 2 rfl rfl ?_
    refine zr_iast (pc := 28) (zq_d eX2_addClause 15 rfl) (zq_ho_a2 gh) (fun X4 => ?_)
    refine zr_aload_n (pc := 29) (zq_d eX2_addClause 16 rfl) 0 rfl rfl ?_
    refine zr_getC (pc := 30) (zq_d eX2_addClause 17 rfl) zf_RX2_18 (zq_ho_k3 gh) ?_
    refine zr_aload_n (pc := 33) (zq_d eX2_addClause 18 rfl) 0 rfl rfl ?_
    refine zr_getI (pc := 34) (zq_d eX2_addClause 19 rfl) zf_RX2_24 (zq_ho_k0 gh) ?_
    refine zr_aload_n (pc := 37) (zq_d eX2_addClause 20 rfl) 0 rfl rfl ?_
    refine zr_getI (pc := 38) (zq_d eX2_addClause 21 rfl) zf_RX2_28 (zq_ho_k5 gh) ?_
    refine zr_iast (pc := 41) (zq_d eX2_addClause 22 rfl) (zq_ho_a3 gh) (fun X5 => ?_)
    refine zr_aload_n (pc := 42) (zq_d eX2_addClause 23 rfl) 0 rfl rfl ?_
    refine zr_dup (pc := 43) (zq_d eX2_addClause 24 rfl) rfl ?_
    refine zr_getI (pc := 44) (zq_d eX2_addClause 25 rfl) zf_RX2_24 (zq_ho_k0 gh) ?_
    refine zr_iconst (pc := 47) (zq_d eX2_addClause 26 rfl) zc_i1 ?_
    refine zr_iadd (pc := 48) (zq_d eX2_addClause 27 rfl) ?_
    refine zr_putI (pc := 49) (zq_d eX2_addClause 28 rfl) zf_RX2_24 (zq_ho_k0 gh) zn_2_0 (fun X6 => ?_)
    exact zr_lo [0, 1, 2] rfl (hj52_1 X6)
def f_X2_testHolds (N j : Nat) (X : zq_M) (a1 : Int32) : Option Int32 :=
  zq_ck (zq_irem a1 (6 : Int32)) 6 (if (zq_irem (a1 / (6 : Int32)) (3 : Int32)) = (0 : Int32) then (if ((a1 / (6 : Int32)) / (3 : Int32)) ≤ (X.1 36 (zq_ix (zq_irem a1 (6 : Int32)))) then (some (0 : Int32)) else (some (1 : Int32))) else (if (zq_irem (a1 / (6 : Int32)) (3 : Int32)) = (1 : Int32) then (if ¬ (X.1 36 (zq_ix (zq_irem a1 (6 : Int32)))) = ((a1 / (6 : Int32)) / (3 : Int32)) then (some (0 : Int32)) else (some (1 : Int32))) else (if (X.1 36 (zq_ix (zq_irem a1 (6 : Int32)))) ≤ ((a1 / (6 : Int32)) / (3 : Int32)) then (some (0 : Int32)) else (some (1 : Int32)))))
set_option maxRecDepth 20000 in
set_option maxHeartbeats 8000000 in
theorem s_X2_testHolds (G : zq_G) (N z j : Nat) (X : zq_M) (a1 : Int32) : zq_V G YX2_testHolds (1, 0, 0) (zq_ei (zq_shX j) z X) 0 0 0 (lv_args 0 [.int a1, .ref (zq_ad G 36)]) [] (zq_shX j) z X (f_X2_testHolds N j X a1) := by
  unfold f_X2_testHolds
  refine zr_lo (l2 := [(0, .int a1), (1, .ref (zq_ad G 36))]) [0, 1] rfl ?_
  refine zr_aload_n (pc := 0) (zq_d eX2_testHolds 0 rfl) 1 rfl rfl ?_
  refine zr_iload_n (pc := 1) (zq_d eX2_testHolds 1 rfl) 0 rfl rfl ?_
  refine zr_bipush (pc := 2) (zq_d eX2_testHolds 2 rfl) zc_b6 ?_
  refine zr_iremk (pc := 4) (zq_d eX2_testHolds 3 rfl) (by decide) ?_
  refine zr_iald (pc := 5) (zq_d eX2_testHolds 4 rfl) (ax_36 j) ?_
  refine zr_istore_n (pc := 6) (lo2 := [(2, .int (X.1 36 (zq_ix (zq_irem a1 (6 : Int32))))), (0, .int a1), (1, .ref (zq_ad G 36))]) (zq_d eX2_testHolds 5 rfl) rfl (Nat.le_of_ble_eq_true rfl) rfl ?_
  refine zr_iload_n (pc := 7) (zq_d eX2_testHolds 6 rfl) 1 rfl rfl ?_
  refine zr_bipush (pc := 8) (zq_d eX2_testHolds 7 rfl) zc_b6 ?_
  refine zr_idivk (pc := 10) (zq_d eX2_testHolds 8 rfl) (by decide) ?_
  refine zr_iconst (pc := 11) (zq_d eX2_testHolds 9 rfl) zc_i3 ?_
  refine zr_idivk (pc := 12) (zq_d eX2_testHolds 10 rfl) (by decide) ?_
  refine zr_istore_n (pc := 13) (lo2 := [(3, .int ((a1 / (6 : Int32)) / (3 : Int32))), (2, .int (X.1 36 (zq_ix (zq_irem a1 (6 : Int32))))), (0, .int a1), (1, .ref (zq_ad G 36))]) (zq_d eX2_testHolds 11 rfl) rfl (Nat.le_of_ble_eq_true rfl) rfl ?_
  refine zr_iload_n (pc := 14) (zq_d eX2_testHolds 12 rfl) 2 rfl rfl ?_
  refine zr_bipush (pc := 15) (zq_d eX2_testHolds 13 rfl) zc_b6 ?_
  refine zr_idivk (pc := 17) (zq_d eX2_testHolds 14 rfl) (by decide) ?_
  refine zr_iconst (pc := 18) (zq_d eX2_testHolds 15 rfl) zc_i3 ?_
  refine zr_iremk (pc := 19) (zq_d eX2_testHolds 16 rfl) (by decide) ?_
  refine zr_cs (fun q1 => ?_) (fun q1 => ?_)
  · refine zr_lok (pc := 20) (n := 0) 48 (zq_d eX2_testHolds 17 rfl) q1 (by decide) (by decide) rfl (by decide) ?_
    refine zr_iload_n (pc := 48) (zq_d eX2_testHolds 18 rfl) 1 rfl rfl ?_
    refine zr_iload_n (pc := 49) (zq_d eX2_testHolds 19 rfl) 0 rfl rfl ?_
    refine zr_icmp_ge (pc := 50) 57 (zq_d eX2_testHolds 20 rfl) (by decide) (fun _ => ?_) (fun _ => ?_)
    · refine zr_iconst (pc := 57) (zq_d eX2_testHolds 23 rfl) zc_i0 ?_
      exact zr_zreturn (pc := 58) (zq_d eX2_testHolds 24 rfl) rfl rfl rfl (Nat.zero_le _) (Nat.zero_le _)
    · refine zr_iconst (pc := 53) (zq_d eX2_testHolds 21 rfl) zc_i1 ?_
      refine zr_goto (pc := 54) 58 (zq_d eX2_testHolds 22 rfl) (by decide) ?_
      exact zr_zreturn (pc := 58) (zq_d eX2_testHolds 24 rfl) rfl rfl rfl (Nat.zero_le _) (Nat.zero_le _)
  · refine zr_cs (fun q2 => ?_) (fun q2 => ?_)
    · refine zr_lok (pc := 20) (n := 1) 59 (zq_d eX2_testHolds 17 rfl) q2 (by decide) (by decide) rfl (by decide) ?_
      refine zr_iload_n (pc := 59) (zq_d eX2_testHolds 25 rfl) 1 rfl rfl ?_
      refine zr_iload_n (pc := 60) (zq_d eX2_testHolds 26 rfl) 0 rfl rfl ?_
      refine zr_icmp_ne (pc := 61) 68 (zq_d eX2_testHolds 27 rfl) (by decide) (fun _ => ?_) (fun _ => ?_)
      · refine zr_iconst (pc := 68) (zq_d eX2_testHolds 30 rfl) zc_i0 ?_
        exact zr_zreturn (pc := 69) (zq_d eX2_testHolds 31 rfl) rfl rfl rfl (Nat.zero_le _) (Nat.zero_le _)
      · refine zr_iconst (pc := 64) (zq_d eX2_testHolds 28 rfl) zc_i1 ?_
        refine zr_goto (pc := 65) 69 (zq_d eX2_testHolds 29 rfl) (by decide) ?_
        exact zr_zreturn (pc := 69) (zq_d eX2_testHolds 31 rfl) rfl rfl rfl (Nat.zero_le _) (Nat.zero_le _)
    · refine zr_lokD (pc := 20) 70 (zq_d eX2_testHolds 17 rfl) (by decide) (List.forall_mem_cons.mpr ⟨zq_nt (by decide) q1, List.forall_mem_cons.mpr ⟨zq_nt (by decide) q2, List.forall_mem_nil _⟩⟩) (by decide) ?_
      refine zr_iload_n (pc := 70) (zq_d eX2_testHolds 32 rfl) 1 rfl rfl ?_
      refine zr_iload_n (pc := 71) (zq_d eX2_testHolds 33 rfl) 0 rfl rfl ?_
      refine zr_icmp_le (pc := 72) 79 (zq_d eX2_testHolds 34 rfl) (by decide) (fun _ => ?_) (fun _ => ?_)
      · refine zr_iconst (pc := 79) (zq_d eX2_testHolds 37 rfl) zc_i0 ?_
        exact zr_zreturn (pc := 80) (zq_d eX2_testHolds 38 rfl) rfl rfl rfl (Nat.zero_le _) (Nat.zero_le _)
      · refine zr_iconst (pc := 75) (zq_d eX2_testHolds 35 rfl) zc_i1 ?_
        refine zr_goto (pc := 76) 80 (zq_d eX2_testHolds 36 rfl) (by decide) ?_
        exact zr_zreturn (pc := 80) (zq_d eX2_testHolds 38 rfl) rfl rfl rfl (Nat.zero_le _) (Nat.zero_le _)
def k_X2_holdsIn_115_2 (v2 : Int32)  : Option Int32 :=
  if ¬ (v2 &&& (1 : Int32)) = (1 : Int32) then (some (0 : Int32)) else (some (1 : Int32))
def b_X2_holdsIn_20 (N : Nat) (j : Nat) (X : zq_M) (h : Nat) (a1 : Int32) (rc20_1 : Int32 → Int32 → Option Int32) (v2 : Int32) (v3 : Int32) : Option Int32 :=
  zq_ck a1 10 (if (X.1 (h + 3) (zq_ix a1)) ≤ v3 then (k_X2_holdsIn_115_2 v2) else (zq_ck v3 100 (if ¬ (X.1 (h + 4) (zq_ix v3)) = (-1 : Int32) then (if ¬ (X.1 (h + 4) (zq_ix v3)) = (-2 : Int32) then (if ¬ (X.1 (h + 4) (zq_ix v3)) = (-3 : Int32) then ((f_X2_testHolds N j X (X.1 (h + 4) (zq_ix v3))).bind (fun v4 => if v4 = 0 then (rc20_1 ((zq_shl v2 (1 : Int32)) ||| (0 : Int32)) (v3 + (1 : Int32))) else (rc20_1 ((zq_shl v2 (1 : Int32)) ||| (1 : Int32)) (v3 + (1 : Int32))))) else (zq_b ((zq_shr v2 (1 : Int32)) ||| (v2 &&& (1 : Int32))) (fun v5 => rc20_1 v5 (v3 + (1 : Int32))))) else (zq_b ((zq_shr v2 (1 : Int32)) &&& (v2 ||| (-2 : Int32))) (fun v6 => rc20_1 v6 (v3 + (1 : Int32))))) else (rc20_1 (v2 ^^^ (1 : Int32)) (v3 + (1 : Int32))))))
def j_X2_holdsIn_18 (N : Nat) (j : Nat) (X : zq_M) (h : Nat) (a1 : Int32) (v1 : Int32) : Option Int32 :=
  zq_loop (fun _ _ => none) (b_X2_holdsIn_20 N j X h a1) N (0 : Int32) v1
def f_X2_holdsIn (N j : Nat) (X : zq_M) (h : Nat) (a1 : Int32) : Option Int32 :=
  if ¬ a1 = 0 then (zq_ck (a1 - (1 : Int32)) 10 (j_X2_holdsIn_18 N j X h a1 (X.1 (h + 3) (zq_ix (a1 - (1 : Int32)))))) else (j_X2_holdsIn_18 N j X h a1 (0 : Int32))
set_option maxRecDepth 20000 in
set_option maxHeartbeats 8000000 in
theorem s_X2_holdsIn (G : zq_G) (N z j : Nat) (X : zq_M) (h : Nat) (gh : zq_ho (zq_shX j) h = true) (a1 : Int32) : zq_V G YX2_holdsIn (2, 0, 0) (zq_ei (zq_shX j) z X) 0 0 0 (lv_args 0 [.ref (zq_ad G h), .int a1, .ref (zq_ad G 36)]) [] (zq_shX j) z X (f_X2_holdsIn N j X h a1) := by
  unfold f_X2_holdsIn
  refine zr_lo (l2 := [(0, .ref (zq_ad G h)), (1, .int a1), (2, .ref (zq_ad G 36))]) [0, 1, 2] rfl ?_
  refine zr_iconst (pc := 0) (zq_d eX2_holdsIn 0 rfl) zc_i0 ?_
  refine zr_istore_n (pc := 1) (lo2 := [(3, .int (0 : Int32)), (0, .ref (zq_ad G h)), (1, .int a1), (2, .ref (zq_ad G 36))]) (zq_d eX2_holdsIn 1 rfl) rfl (Nat.le_of_ble_eq_true rfl) rfl ?_
  refine zr_iload_n (pc := 2) (zq_d eX2_holdsIn 2 rfl) 2 rfl rfl ?_
  have hj18_3 : ∀ (v1 : Int32), zq_V G YX2_holdsIn (2, 0, 0) (zq_ei (zq_shX j) z X) 0 0 18 [(0, .ref (zq_ad G h)), (1, .int a1), (2, .ref (zq_ad G 36)), (3, .int (0 : Int32))] [.int v1] (zq_shX j) z X (j_X2_holdsIn_18 N j X h a1 v1) := by
    intro v1
    unfold j_X2_holdsIn_18
    refine zr_istore (pc := 18) (lo2 := [(4, .int v1), (0, .ref (zq_ad G h)), (1, .int a1), (2, .ref (zq_ad G 36)), (3, .int (0 : Int32))]) (zq_d eX2_holdsIn 12 rfl) (Nat.le_of_ble_eq_true rfl) rfl ?_
    have hbrc20_1 : ∀ rc20_1 : Int32 → Int32 → Option Int32, (∀ (v2 : Int32) (v3 : Int32), zq_V G YX2_holdsIn (2, 0, 0) (zq_ei (zq_shX j) z X) 0 0 20 [(0, .ref (zq_ad G h)), (1, .int a1), (2, .ref (zq_ad G 36)), (3, .int v2), (4, .int v3)] [] (zq_shX j) z X (rc20_1 v2 v3)) → ∀ (v2 : Int32) (v3 : Int32), zq_V G YX2_holdsIn (2, 0, 0) (zq_ei (zq_shX j) z X) 0 0 20 [(0, .ref (zq_ad G h)), (1, .int a1), (2, .ref (zq_ad G 36)), (3, .int v2), (4, .int v3)] [] (zq_shX j) z X (b_X2_holdsIn_20 N j X h a1 rc20_1 v2 v3) := by
      intro rc20_1 hrc20_1 v2 v3
      unfold b_X2_holdsIn_20
      refine zr_iload (pc := 20) (zq_d eX2_holdsIn 13 rfl) 4 rfl ?_
      refine zr_aload_n (pc := 22) (zq_d eX2_holdsIn 14 rfl) 0 rfl rfl ?_
      refine zr_getC (pc := 23) (zq_d eX2_holdsIn 15 rfl) zf_RX2_18 (zq_ho_k3 gh) ?_
      refine zr_iload_n (pc := 26) (zq_d eX2_holdsIn 16 rfl) 1 rfl rfl ?_
      refine zr_iald (pc := 27) (zq_d eX2_holdsIn 17 rfl) (zq_ho_a3 gh) ?_
      refine zr_icmp_ge (pc := 28) 115 (zq_d eX2_holdsIn 18 rfl) (by decide) (fun _ => ?_) (fun _ => ?_)
      · unfold k_X2_holdsIn_115_2
        refine zr_iload_n (pc := 115) (zq_d eX2_holdsIn 70 rfl) 3 rfl rfl ?_
        refine zr_iconst (pc := 116) (zq_d eX2_holdsIn 71 rfl) zc_i1 ?_
        refine zr_iand (pc := 117) (zq_d eX2_holdsIn 72 rfl) ?_
        refine zr_iconst (pc := 118) (zq_d eX2_holdsIn 73 rfl) zc_i1 ?_
        refine zr_icmp_ne (pc := 119) 126 (zq_d eX2_holdsIn 74 rfl) (by decide) (fun _ => ?_) (fun _ => ?_)
        · refine zr_iconst (pc := 126) (zq_d eX2_holdsIn 77 rfl) zc_i0 ?_
          exact zr_zreturn (pc := 127) (zq_d eX2_holdsIn 78 rfl) rfl rfl rfl (Nat.zero_le _) (Nat.zero_le _)
        · refine zr_iconst (pc := 122) (zq_d eX2_holdsIn 75 rfl) zc_i1 ?_
          refine zr_goto (pc := 123) 127 (zq_d eX2_holdsIn 76 rfl) (by decide) ?_
          exact zr_zreturn (pc := 127) (zq_d eX2_holdsIn 78 rfl) rfl rfl rfl (Nat.zero_le _) (Nat.zero_le _)
      · refine zr_aload_n (pc := 31) (zq_d eX2_holdsIn 19 rfl) 0 rfl rfl ?_
        refine zr_getC (pc := 32) (zq_d eX2_holdsIn 20 rfl) zf_RX2_21 (zq_ho_k4 gh) ?_
        refine zr_iload (pc := 35) (zq_d eX2_holdsIn 21 rfl) 4 rfl ?_
        refine zr_iald (pc := 37) (zq_d eX2_holdsIn 22 rfl) (zq_ho_a4 gh) ?_
        refine zr_istore (pc := 38) (lo2 := [(5, .int (X.1 (h + 4) (zq_ix v3))), (0, .ref (zq_ad G h)), (1, .int a1), (2, .ref (zq_ad G 36)), (3, .int v2), (4, .int v3)]) (zq_d eX2_holdsIn 23 rfl) (Nat.le_of_ble_eq_true rfl) rfl ?_
        refine zr_iload (pc := 40) (zq_d eX2_holdsIn 24 rfl) 0 rfl ?_
        refine zr_iconst (pc := 42) (zq_d eX2_holdsIn 25 rfl) zc_im1 ?_
        refine zr_icmp_ne (pc := 43) 53 (zq_d eX2_holdsIn 26 rfl) (by decide) (fun _ => ?_) (fun _ => ?_)
        · refine zr_iload (pc := 53) (zq_d eX2_holdsIn 32 rfl) 0 rfl ?_
          refine zr_bipush (pc := 55) (zq_d eX2_holdsIn 33 rfl) zc_bm2 ?_
          refine zr_icmp_ne (pc := 57) 72 (zq_d eX2_holdsIn 34 rfl) (by decide) (fun _ => ?_) (fun _ => ?_)
          · refine zr_iload (pc := 72) (zq_d eX2_holdsIn 44 rfl) 0 rfl ?_
            refine zr_bipush (pc := 74) (zq_d eX2_holdsIn 45 rfl) zc_bm3 ?_
            refine zr_icmp_ne (pc := 76) 90 (zq_d eX2_holdsIn 46 rfl) (by decide) (fun _ => ?_) (fun _ => ?_)
            · refine zr_iload_n (pc := 90) (zq_d eX2_holdsIn 56 rfl) 4 rfl rfl ?_
              refine zr_iconst (pc := 91) (zq_d eX2_holdsIn 57 rfl) zc_i1 ?_
              refine zr_ishl (pc := 92) (zq_d eX2_holdsIn 58 rfl) ?_
              refine zr_iload (pc := 93) (zq_d eX2_holdsIn 59 rfl) 0 rfl ?_
              refine zr_aload_n (pc := 95) (zq_d eX2_holdsIn 60 rfl) 3 rfl rfl ?_
              refine zr_Si (pc := 96) [_, _] (zq_d eX2_holdsIn 61 rfl) (s_X2_testHolds G N z j X _) zd_X2_testHolds zl_RX2_42 rfl rfl (Nat.le_of_ble_eq_true rfl) (Nat.le_of_ble_eq_true rfl) (Nat.le_of_ble_eq_true rfl) ⟨Nat.le_refl _, Nat.le_refl _⟩ (fun v4 => ?_)
              refine zr_if_eq (pc := 99) 106 (zq_d eX2_holdsIn 62 rfl) (by decide) (fun _ => ?_) (fun _ => ?_)
              · refine zr_iconst (pc := 106) (zq_d eX2_holdsIn 65 rfl) zc_i0 ?_
                refine zr_ior (pc := 107) (zq_d eX2_holdsIn 66 rfl) ?_
                refine zr_istore_n (pc := 108) (lo2 := [(3, .int ((zq_shl v2 (1 : Int32)) ||| (0 : Int32))), (5, .int (X.1 (h + 4) (zq_ix v3))), (0, .ref (zq_ad G h)), (1, .int a1), (2, .ref (zq_ad G 36)), (4, .int v3)]) (zq_d eX2_holdsIn 67 rfl) rfl (Nat.le_of_ble_eq_true rfl) rfl ?_
                refine zr_iinc (pc := 109) (j := 5) (v := (v3 + (1 : Int32))) (lo2 := [(4, .int (v3 + (1 : Int32))), (3, .int ((zq_shl v2 (1 : Int32)) ||| (0 : Int32))), (5, .int (X.1 (h + 4) (zq_ix v3))), (0, .ref (zq_ad G h)), (1, .int a1), (2, .ref (zq_ad G 36))]) (zq_d eX2_holdsIn 68 rfl) rfl (by rw [zc_i1]) (Nat.le_of_ble_eq_true rfl) rfl ?_
                refine zr_goto (pc := 112) 20 (zq_d eX2_holdsIn 69 rfl) (by decide) ?_
                exact zr_lo [3, 4, 5, 1, 0] rfl (hrc20_1 ((zq_shl v2 (1 : Int32)) ||| (0 : Int32)) (v3 + (1 : Int32)))
              · refine zr_iconst (pc := 102) (zq_d eX2_holdsIn 63 rfl) zc_i1 ?_
                refine zr_goto (pc := 103) 107 (zq_d eX2_holdsIn 64 rfl) (by decide) ?_
                refine zr_ior (pc := 107) (zq_d eX2_holdsIn 66 rfl) ?_
                refine zr_istore_n (pc := 108) (lo2 := [(3, .int ((zq_shl v2 (1 : Int32)) ||| (1 : Int32))), (5, .int (X.1 (h + 4) (zq_ix v3))), (0, .ref (zq_ad G h)), (1, .int a1), (2, .ref (zq_ad G 36)), (4, .int v3)]) (zq_d eX2_holdsIn 67 rfl) rfl (Nat.le_of_ble_eq_true rfl) rfl ?_
                refine zr_iinc (pc := 109) (j := 5) (v := (v3 + (1 : Int32))) (lo2 := [(4, .int (v3 + (1 : Int32))), (3, .int ((zq_shl v2 (1 : Int32)) ||| (1 : Int32))), (5, .int (X.1 (h + 4) (zq_ix v3))), (0, .ref (zq_ad G h)), (1, .int a1), (2, .ref (zq_ad G 36))]) (zq_d eX2_holdsIn 68 rfl) rfl (by rw [zc_i1]) (Nat.le_of_ble_eq_true rfl) rfl ?_
                refine zr_goto (pc := 112) 20 (zq_d eX2_holdsIn 69 rfl) (by decide) ?_
                exact zr_lo [3, 4, 5, 1, 0] rfl (hrc20_1 ((zq_shl v2 (1 : Int32)) ||| (1 : Int32)) (v3 + (1 : Int32)))
            · refine zr_iload_n (pc := 79) (zq_d eX2_holdsIn 47 rfl) 4 rfl rfl ?_
              refine zr_iconst (pc := 80) (zq_d eX2_holdsIn 48 rfl) zc_i1 ?_
              refine zr_ishr (pc := 81) (zq_d eX2_holdsIn 49 rfl) ?_
              refine zr_iload_n (pc := 82) (zq_d eX2_holdsIn 50 rfl) 4 rfl rfl ?_
              refine zr_iconst (pc := 83) (zq_d eX2_holdsIn 51 rfl) zc_i1 ?_
              refine zr_iand (pc := 84) (zq_d eX2_holdsIn 52 rfl) ?_
              refine zr_ior (pc := 85) (zq_d eX2_holdsIn 53 rfl) ?_
              refine zr_nm (fun v5 => ?_)
              refine zr_istore_n (pc := 86) (lo2 := [(3, .int v5), (5, .int (X.1 (h + 4) (zq_ix v3))), (0, .ref (zq_ad G h)), (1, .int a1), (2, .ref (zq_ad G 36)), (4, .int v3)]) (zq_d eX2_holdsIn 54 rfl) rfl (Nat.le_of_ble_eq_true rfl) rfl ?_
              refine zr_goto (pc := 87) 109 (zq_d eX2_holdsIn 55 rfl) (by decide) ?_
              refine zr_iinc (pc := 109) (j := 5) (v := (v3 + (1 : Int32))) (lo2 := [(4, .int (v3 + (1 : Int32))), (3, .int v5), (5, .int (X.1 (h + 4) (zq_ix v3))), (0, .ref (zq_ad G h)), (1, .int a1), (2, .ref (zq_ad G 36))]) (zq_d eX2_holdsIn 68 rfl) rfl (by rw [zc_i1]) (Nat.le_of_ble_eq_true rfl) rfl ?_
              refine zr_goto (pc := 112) 20 (zq_d eX2_holdsIn 69 rfl) (by decide) ?_
              exact zr_lo [3, 4, 5, 1, 0] rfl (hrc20_1 v5 (v3 + (1 : Int32)))
          · refine zr_iload_n (pc := 60) (zq_d eX2_holdsIn 35 rfl) 4 rfl rfl ?_
            refine zr_iconst (pc := 61) (zq_d eX2_holdsIn 36 rfl) zc_i1 ?_
            refine zr_ishr (pc := 62) (zq_d eX2_holdsIn 37 rfl) ?_
            refine zr_iload_n (pc := 63) (zq_d eX2_holdsIn 38 rfl) 4 rfl rfl ?_
            refine zr_bipush (pc := 64) (zq_d eX2_holdsIn 39 rfl) zc_bm2 ?_
            refine zr_ior (pc := 66) (zq_d eX2_holdsIn 40 rfl) ?_
            refine zr_iand (pc := 67) (zq_d eX2_holdsIn 41 rfl) ?_
            refine zr_nm (fun v6 => ?_)
            refine zr_istore_n (pc := 68) (lo2 := [(3, .int v6), (5, .int (X.1 (h + 4) (zq_ix v3))), (0, .ref (zq_ad G h)), (1, .int a1), (2, .ref (zq_ad G 36)), (4, .int v3)]) (zq_d eX2_holdsIn 42 rfl) rfl (Nat.le_of_ble_eq_true rfl) rfl ?_
            refine zr_goto (pc := 69) 109 (zq_d eX2_holdsIn 43 rfl) (by decide) ?_
            refine zr_iinc (pc := 109) (j := 5) (v := (v3 + (1 : Int32))) (lo2 := [(4, .int (v3 + (1 : Int32))), (3, .int v6), (5, .int (X.1 (h + 4) (zq_ix v3))), (0, .ref (zq_ad G h)), (1, .int a1), (2, .ref (zq_ad G 36))]) (zq_d eX2_holdsIn 68 rfl) rfl (by rw [zc_i1]) (Nat.le_of_ble_eq_true rfl) rfl ?_
            refine zr_goto (pc := 112) 20 (zq_d eX2_holdsIn 69 rfl) (by decide) ?_
            exact zr_lo [3, 4, 5, 1, 0] rfl (hrc20_1 v6 (v3 + (1 : Int32)))
        · refine zr_iload_n (pc := 46) (zq_d eX2_holdsIn 27 rfl) 4 rfl rfl ?_
          refine zr_iconst (pc := 47) (zq_d eX2_holdsIn 28 rfl) zc_i1 ?_
          refine zr_ixor (pc := 48) (zq_d eX2_holdsIn 29 rfl) ?_
          refine zr_istore_n (pc := 49) (lo2 := [(3, .int (v2 ^^^ (1 : Int32))), (5, .int (X.1 (h + 4) (zq_ix v3))), (0, .ref (zq_ad G h)), (1, .int a1), (2, .ref (zq_ad G 36)), (4, .int v3)]) (zq_d eX2_holdsIn 30 rfl) rfl (Nat.le_of_ble_eq_true rfl) rfl ?_
          refine zr_goto (pc := 50) 109 (zq_d eX2_holdsIn 31 rfl) (by decide) ?_
          refine zr_iinc (pc := 109) (j := 5) (v := (v3 + (1 : Int32))) (lo2 := [(4, .int (v3 + (1 : Int32))), (3, .int (v2 ^^^ (1 : Int32))), (5, .int (X.1 (h + 4) (zq_ix v3))), (0, .ref (zq_ad G h)), (1, .int a1), (2, .ref (zq_ad G 36))]) (zq_d eX2_holdsIn 68 rfl) rfl (by rw [zc_i1]) (Nat.le_of_ble_eq_true rfl) rfl ?_
          refine zr_goto (pc := 112) 20 (zq_d eX2_holdsIn 69 rfl) (by decide) ?_
          exact zr_lo [3, 4, 5, 1, 0] rfl (hrc20_1 (v2 ^^^ (1 : Int32)) (v3 + (1 : Int32)))
    have hlrc20_1 := zr_loop (P := fun (rc20_1 : Int32 → Int32 → Option Int32) => ∀ (v2 : Int32) (v3 : Int32), zq_V G YX2_holdsIn (2, 0, 0) (zq_ei (zq_shX j) z X) 0 0 20 [(0, .ref (zq_ad G h)), (1, .int a1), (2, .ref (zq_ad G 36)), (3, .int v2), (4, .int v3)] [] (zq_shX j) z X (rc20_1 v2 v3)) (fun _ _ => none) (b_X2_holdsIn_20 N j X h a1) (fun _ _ => zr_none) hbrc20_1 N
    exact zr_lo [1, 2, 3, 4, 0] rfl (hlrc20_1 (0 : Int32) v1)
  refine zr_if_ne (pc := 3) 10 (zq_d eX2_holdsIn 3 rfl) (by decide) (fun _ => ?_) (fun _ => ?_)
  · refine zr_aload_n (pc := 10) (zq_d eX2_holdsIn 6 rfl) 1 rfl rfl ?_
    refine zr_getC (pc := 11) (zq_d eX2_holdsIn 7 rfl) zf_RX2_18 (zq_ho_k3 gh) ?_
    refine zr_iload_n (pc := 14) (zq_d eX2_holdsIn 8 rfl) 2 rfl rfl ?_
    refine zr_iconst (pc := 15) (zq_d eX2_holdsIn 9 rfl) zc_i1 ?_
    refine zr_isub (pc := 16) (zq_d eX2_holdsIn 10 rfl) ?_
    refine zr_iald (pc := 17) (zq_d eX2_holdsIn 11 rfl) (zq_ho_a3 gh) ?_
    exact zr_lo [1, 2, 3, 0] rfl (hj18_3 (X.1 (h + 3) (zq_ix (a1 - (1 : Int32)))))
  · refine zr_iconst (pc := 6) (zq_d eX2_holdsIn 4 rfl) zc_i0 ?_
    refine zr_goto (pc := 7) 18 (zq_d eX2_holdsIn 5 rfl) (by decide) ?_
    exact zr_lo [1, 2, 3, 0] rfl (hj18_3 (0 : Int32))
def b_X2_together_5 (N : Nat) (j : Nat) (X : zq_M) (h : Nat) (a1 : Int32) (rc5_1 : Int32 → Int32 → Option Int32) (v1 : Int32) (v2 : Int32) : Option Int32 :=
  if (X.1 h 0) ≤ v2 then (some v1) else (zq_ck v2 10 (if ¬ (X.1 (h + 1) (zq_ix v2)) = a1 then (rc5_1 v1 (v2 + (1 : Int32))) else ((f_X2_holdsIn N j X h v2).bind (fun v3 => if v3 = 0 then (rc5_1 v1 (v2 + (1 : Int32))) else (zq_ck v2 10 (rc5_1 (v1 + (X.1 (h + 2) (zq_ix v2))) (v2 + (1 : Int32))))))))
def f_X2_together (N j : Nat) (X : zq_M) (h : Nat) (a1 : Int32) : Option Int32 :=
  zq_loop (fun _ _ => none) (b_X2_together_5 N j X h a1) N (0 : Int32) (0 : Int32)
set_option maxRecDepth 20000 in
set_option maxHeartbeats 8000000 in
theorem s_X2_together (G : zq_G) (N z j : Nat) (X : zq_M) (h : Nat) (gh : zq_ho (zq_shX j) h = true) (a1 : Int32) : zq_V G YX2_together (3, 0, 0) (zq_ei (zq_shX j) z X) 0 0 0 (lv_args 0 [.ref (zq_ad G h), .int a1, .ref (zq_ad G 36)]) [] (zq_shX j) z X (f_X2_together N j X h a1) := by
  unfold f_X2_together
  refine zr_lo (l2 := [(0, .ref (zq_ad G h)), (1, .int a1), (2, .ref (zq_ad G 36))]) [0, 1, 2] rfl ?_
  refine zr_iconst (pc := 0) (zq_d eX2_together 0 rfl) zc_i0 ?_
  refine zr_istore_n (pc := 1) (lo2 := [(3, .int (0 : Int32)), (0, .ref (zq_ad G h)), (1, .int a1), (2, .ref (zq_ad G 36))]) (zq_d eX2_together 1 rfl) rfl (Nat.le_of_ble_eq_true rfl) rfl ?_
  refine zr_iconst (pc := 2) (zq_d eX2_together 2 rfl) zc_i0 ?_
  refine zr_istore (pc := 3) (lo2 := [(4, .int (0 : Int32)), (3, .int (0 : Int32)), (0, .ref (zq_ad G h)), (1, .int a1), (2, .ref (zq_ad G 36))]) (zq_d eX2_together 3 rfl) (Nat.le_of_ble_eq_true rfl) rfl ?_
  have hbrc5_1 : ∀ rc5_1 : Int32 → Int32 → Option Int32, (∀ (v1 : Int32) (v2 : Int32), zq_V G YX2_together (3, 0, 0) (zq_ei (zq_shX j) z X) 0 0 5 [(0, .ref (zq_ad G h)), (1, .int a1), (2, .ref (zq_ad G 36)), (3, .int v1), (4, .int v2)] [] (zq_shX j) z X (rc5_1 v1 v2)) → ∀ (v1 : Int32) (v2 : Int32), zq_V G YX2_together (3, 0, 0) (zq_ei (zq_shX j) z X) 0 0 5 [(0, .ref (zq_ad G h)), (1, .int a1), (2, .ref (zq_ad G 36)), (3, .int v1), (4, .int v2)] [] (zq_shX j) z X (b_X2_together_5 N j X h a1 rc5_1 v1 v2) := by
    intro rc5_1 hrc5_1 v1 v2
    unfold b_X2_together_5
    refine zr_iload (pc := 5) (zq_d eX2_together 4 rfl) 4 rfl ?_
    refine zr_aload_n (pc := 7) (zq_d eX2_together 5 rfl) 0 rfl rfl ?_
    refine zr_getI (pc := 8) (zq_d eX2_together 6 rfl) zf_RX2_24 (zq_ho_k0 gh) ?_
    refine zr_icmp_ge (pc := 11) 51 (zq_d eX2_together 7 rfl) (by decide) (fun _ => ?_) (fun _ => ?_)
    · refine zr_iload_n (pc := 51) (zq_d eX2_together 28 rfl) 3 rfl rfl ?_
      exact zr_ireturn (pc := 52) (zq_d eX2_together 29 rfl) rfl rfl (Nat.zero_le _) (Nat.zero_le _)
    · refine zr_aload_n (pc := 14) (zq_d eX2_together 8 rfl) 0 rfl rfl ?_
      refine zr_getC (pc := 15) (zq_d eX2_together 9 rfl) zf_RX2_9 (zq_ho_k1 gh) ?_
      refine zr_iload (pc := 18) (zq_d eX2_together 10 rfl) 4 rfl ?_
      refine zr_iald (pc := 20) (zq_d eX2_together 11 rfl) (zq_ho_a1 gh) ?_
      refine zr_iload_n (pc := 21) (zq_d eX2_together 12 rfl) 1 rfl rfl ?_
      refine zr_icmp_ne (pc := 22) 45 (zq_d eX2_together 13 rfl) (by decide) (fun _ => ?_) (fun _ => ?_)
      · refine zr_iinc (pc := 45) (j := 4) (v := (v2 + (1 : Int32))) (lo2 := [(4, .int (v2 + (1 : Int32))), (0, .ref (zq_ad G h)), (1, .int a1), (2, .ref (zq_ad G 36)), (3, .int v1)]) (zq_d eX2_together 26 rfl) rfl (by rw [zc_i1]) (Nat.le_of_ble_eq_true rfl) rfl ?_
        refine zr_goto (pc := 48) 5 (zq_d eX2_together 27 rfl) (by decide) ?_
        exact zr_lo [1, 2, 3, 4, 0] rfl (hrc5_1 v1 (v2 + (1 : Int32)))
      · refine zr_aload_n (pc := 25) (zq_d eX2_together 14 rfl) 0 rfl rfl ?_
        refine zr_iload (pc := 26) (zq_d eX2_together 15 rfl) 4 rfl ?_
        refine zr_aload_n (pc := 28) (zq_d eX2_together 16 rfl) 2 rfl rfl ?_
        refine zr_Vi (pc := 29) [_, _] (zq_d eX2_together 17 rfl) (s_X2_holdsIn G N z j X h gh _) zd_X2_holdsIn zl_RX2_38 (zq_ho_s gh) rfl rfl rfl rfl (Nat.le_of_ble_eq_true rfl) (Nat.le_of_ble_eq_true rfl) (Nat.le_of_ble_eq_true rfl) ⟨Nat.le_refl _, Nat.le_refl _⟩ (fun v3 => ?_)
        refine zr_if_eq (pc := 32) 45 (zq_d eX2_together 18 rfl) (by decide) (fun _ => ?_) (fun _ => ?_)
        · refine zr_iinc (pc := 45) (j := 4) (v := (v2 + (1 : Int32))) (lo2 := [(4, .int (v2 + (1 : Int32))), (0, .ref (zq_ad G h)), (1, .int a1), (2, .ref (zq_ad G 36)), (3, .int v1)]) (zq_d eX2_together 26 rfl) rfl (by rw [zc_i1]) (Nat.le_of_ble_eq_true rfl) rfl ?_
          refine zr_goto (pc := 48) 5 (zq_d eX2_together 27 rfl) (by decide) ?_
          exact zr_lo [1, 2, 3, 4, 0] rfl (hrc5_1 v1 (v2 + (1 : Int32)))
        · refine zr_iload_n (pc := 35) (zq_d eX2_together 19 rfl) 3 rfl rfl ?_
          refine zr_aload_n (pc := 36) (zq_d eX2_together 20 rfl) 0 rfl rfl ?_
          refine zr_getC (pc := 37) (zq_d eX2_together 21 rfl) zf_RX2_15 (zq_ho_k2 gh) ?_
          refine zr_iload (pc := 40) (zq_d eX2_together 22 rfl) 4 rfl ?_
          refine zr_iald (pc := 42) (zq_d eX2_together 23 rfl) (zq_ho_a2 gh) ?_
          refine zr_iadd (pc := 43) (zq_d eX2_together 24 rfl) ?_
          refine zr_istore_n (pc := 44) (lo2 := [(3, .int (v1 + (X.1 (h + 2) (zq_ix v2)))), (0, .ref (zq_ad G h)), (1, .int a1), (2, .ref (zq_ad G 36)), (4, .int v2)]) (zq_d eX2_together 25 rfl) rfl (Nat.le_of_ble_eq_true rfl) rfl ?_
          refine zr_iinc (pc := 45) (j := 4) (v := (v2 + (1 : Int32))) (lo2 := [(4, .int (v2 + (1 : Int32))), (3, .int (v1 + (X.1 (h + 2) (zq_ix v2)))), (0, .ref (zq_ad G h)), (1, .int a1), (2, .ref (zq_ad G 36))]) (zq_d eX2_together 26 rfl) rfl (by rw [zc_i1]) (Nat.le_of_ble_eq_true rfl) rfl ?_
          refine zr_goto (pc := 48) 5 (zq_d eX2_together 27 rfl) (by decide) ?_
          exact zr_lo [2, 3, 4, 1, 0] rfl (hrc5_1 (v1 + (X.1 (h + 2) (zq_ix v2))) (v2 + (1 : Int32)))
  have hlrc5_1 := zr_loop (P := fun (rc5_1 : Int32 → Int32 → Option Int32) => ∀ (v1 : Int32) (v2 : Int32), zq_V G YX2_together (3, 0, 0) (zq_ei (zq_shX j) z X) 0 0 5 [(0, .ref (zq_ad G h)), (1, .int a1), (2, .ref (zq_ad G 36)), (3, .int v1), (4, .int v2)] [] (zq_shX j) z X (rc5_1 v1 v2)) (fun _ _ => none) (b_X2_together_5 N j X h a1) (fun _ _ => zr_none) hbrc5_1 N
  exact zr_lo [2, 3, 4, 1, 0] rfl (hlrc5_1 (0 : Int32) (0 : Int32))
def b_X2_hasBar_2 (N : Nat) (j : Nat) (X : zq_M) (h : Nat) (rc2_1 : Int32 → Option Int32) (v1 : Int32) : Option Int32 :=
  if (X.1 h 0) ≤ v1 then (some (0 : Int32)) else (zq_ck v1 10 (if ¬ (X.1 (h + 1) (zq_ix v1)) = (1 : Int32) then (rc2_1 (v1 + (1 : Int32))) else ((f_X2_holdsIn N j X h v1).bind (fun v2 => if v2 = 0 then (rc2_1 (v1 + (1 : Int32))) else (some (1 : Int32))))))
def f_X2_hasBar (N j : Nat) (X : zq_M) (h : Nat) : Option Int32 :=
  zq_loop (fun _ => none) (b_X2_hasBar_2 N j X h) N (0 : Int32)
set_option maxRecDepth 20000 in
set_option maxHeartbeats 8000000 in
theorem s_X2_hasBar (G : zq_G) (N z j : Nat) (X : zq_M) (h : Nat) (gh : zq_ho (zq_shX j) h = true) : zq_V G YX2_hasBar (3, 0, 0) (zq_ei (zq_shX j) z X) 0 0 0 (lv_args 0 [.ref (zq_ad G h), .ref (zq_ad G 36)]) [] (zq_shX j) z X (f_X2_hasBar N j X h) := by
  unfold f_X2_hasBar
  refine zr_lo (l2 := [(0, .ref (zq_ad G h)), (1, .ref (zq_ad G 36))]) [0, 1] rfl ?_
  refine zr_iconst (pc := 0) (zq_d eX2_hasBar 0 rfl) zc_i0 ?_
  refine zr_istore_n (pc := 1) (lo2 := [(2, .int (0 : Int32)), (0, .ref (zq_ad G h)), (1, .ref (zq_ad G 36))]) (zq_d eX2_hasBar 1 rfl) rfl (Nat.le_of_ble_eq_true rfl) rfl ?_
  have hbrc2_1 : ∀ rc2_1 : Int32 → Option Int32, (∀ (v1 : Int32), zq_V G YX2_hasBar (3, 0, 0) (zq_ei (zq_shX j) z X) 0 0 2 [(0, .ref (zq_ad G h)), (1, .ref (zq_ad G 36)), (2, .int v1)] [] (zq_shX j) z X (rc2_1 v1)) → ∀ (v1 : Int32), zq_V G YX2_hasBar (3, 0, 0) (zq_ei (zq_shX j) z X) 0 0 2 [(0, .ref (zq_ad G h)), (1, .ref (zq_ad G 36)), (2, .int v1)] [] (zq_shX j) z X (b_X2_hasBar_2 N j X h rc2_1 v1) := by
    intro rc2_1 hrc2_1 v1
    unfold b_X2_hasBar_2
    refine zr_iload_n (pc := 2) (zq_d eX2_hasBar 2 rfl) 2 rfl rfl ?_
    refine zr_aload_n (pc := 3) (zq_d eX2_hasBar 3 rfl) 0 rfl rfl ?_
    refine zr_getI (pc := 4) (zq_d eX2_hasBar 4 rfl) zf_RX2_24 (zq_ho_k0 gh) ?_
    refine zr_icmp_ge (pc := 7) 37 (zq_d eX2_hasBar 5 rfl) (by decide) (fun _ => ?_) (fun _ => ?_)
    · refine zr_iconst (pc := 37) (zq_d eX2_hasBar 21 rfl) zc_i0 ?_
      exact zr_zreturn (pc := 38) (zq_d eX2_hasBar 22 rfl) rfl rfl rfl (Nat.zero_le _) (Nat.zero_le _)
    · refine zr_aload_n (pc := 10) (zq_d eX2_hasBar 6 rfl) 0 rfl rfl ?_
      refine zr_getC (pc := 11) (zq_d eX2_hasBar 7 rfl) zf_RX2_9 (zq_ho_k1 gh) ?_
      refine zr_iload_n (pc := 14) (zq_d eX2_hasBar 8 rfl) 2 rfl rfl ?_
      refine zr_iald (pc := 15) (zq_d eX2_hasBar 9 rfl) (zq_ho_a1 gh) ?_
      refine zr_iconst (pc := 16) (zq_d eX2_hasBar 10 rfl) zc_i1 ?_
      refine zr_icmp_ne (pc := 17) 31 (zq_d eX2_hasBar 11 rfl) (by decide) (fun _ => ?_) (fun _ => ?_)
      · refine zr_iinc (pc := 31) (j := 2) (v := (v1 + (1 : Int32))) (lo2 := [(2, .int (v1 + (1 : Int32))), (0, .ref (zq_ad G h)), (1, .ref (zq_ad G 36))]) (zq_d eX2_hasBar 19 rfl) rfl (by rw [zc_i1]) (Nat.le_of_ble_eq_true rfl) rfl ?_
        refine zr_goto (pc := 34) 2 (zq_d eX2_hasBar 20 rfl) (by decide) ?_
        exact zr_lo [1, 2, 0] rfl (hrc2_1 (v1 + (1 : Int32)))
      · refine zr_aload_n (pc := 20) (zq_d eX2_hasBar 12 rfl) 0 rfl rfl ?_
        refine zr_iload_n (pc := 21) (zq_d eX2_hasBar 13 rfl) 2 rfl rfl ?_
        refine zr_aload_n (pc := 22) (zq_d eX2_hasBar 14 rfl) 1 rfl rfl ?_
        refine zr_Vi (pc := 23) [_, _] (zq_d eX2_hasBar 15 rfl) (s_X2_holdsIn G N z j X h gh _) zd_X2_holdsIn zl_RX2_38 (zq_ho_s gh) rfl rfl rfl rfl (Nat.le_of_ble_eq_true rfl) (Nat.le_of_ble_eq_true rfl) (Nat.le_of_ble_eq_true rfl) ⟨Nat.le_refl _, Nat.le_refl _⟩ (fun v2 => ?_)
        refine zr_if_eq (pc := 26) 31 (zq_d eX2_hasBar 16 rfl) (by decide) (fun _ => ?_) (fun _ => ?_)
        · refine zr_iinc (pc := 31) (j := 2) (v := (v1 + (1 : Int32))) (lo2 := [(2, .int (v1 + (1 : Int32))), (0, .ref (zq_ad G h)), (1, .ref (zq_ad G 36))]) (zq_d eX2_hasBar 19 rfl) rfl (by rw [zc_i1]) (Nat.le_of_ble_eq_true rfl) rfl ?_
          refine zr_goto (pc := 34) 2 (zq_d eX2_hasBar 20 rfl) (by decide) ?_
          exact zr_lo [1, 2, 0] rfl (hrc2_1 (v1 + (1 : Int32)))
        · refine zr_iconst (pc := 29) (zq_d eX2_hasBar 17 rfl) zc_i1 ?_
          exact zr_zreturn (pc := 30) (zq_d eX2_hasBar 18 rfl) rfl rfl rfl (Nat.zero_le _) (Nat.zero_le _)
  have hlrc2_1 := zr_loop (P := fun (rc2_1 : Int32 → Option Int32) => ∀ (v1 : Int32), zq_V G YX2_hasBar (3, 0, 0) (zq_ei (zq_shX j) z X) 0 0 2 [(0, .ref (zq_ad G h)), (1, .ref (zq_ad G 36)), (2, .int v1)] [] (zq_shX j) z X (rc2_1 v1)) (fun _ => none) (b_X2_hasBar_2 N j X h) (fun _ => zr_none) hbrc2_1 N
  exact zr_lo [1, 2, 0] rfl (hlrc2_1 (0 : Int32))
def f_X3_eat (N j : Nat) (X : zq_M) (a1 : Int32) : Option (Int32 × zq_M) :=
  if (X.1 28 1) ≤ (X.1 28 2) then (some ((0 : Int32), X)) else (zq_nn (X.2.2 28 0) (zq_i100 (zq_shX j)) (fun h1 => zq_ck (X.1 28 2) 100 (if (X.1 h1 (zq_ix (X.1 28 2))) = a1 then (zq_b (zq_u1 X 28 2 ((X.1 28 2) + (1 : Int32))) (fun X2 => some ((1 : Int32), X2))) else (some ((0 : Int32), X)))))
set_option maxRecDepth 20000 in
set_option maxHeartbeats 8000000 in
theorem s_X3_eat (G : zq_G) (N z j : Nat) (X : zq_M) (a1 : Int32) : zq_V G YX3_eat (1, 0, 0) (zq_si (zq_shX j) z) 0 0 0 (lv_args 0 [.ref (zq_ad G 28), .int a1]) [] (zq_shX j) z X (f_X3_eat N j X a1) := by
  unfold f_X3_eat
  refine zr_lo (l2 := [(0, .ref (zq_ad G 28)), (1, .int a1)]) [0, 1] rfl ?_
  refine zr_aload_n (pc := 0) (zq_d eX3_eat 0 rfl) 0 rfl rfl ?_
  refine zr_getI (pc := 1) (zq_d eX3_eat 1 rfl) zf_RX3_35 (kx_28_2 j) ?_
  refine zr_aload_n (pc := 4) (zq_d eX3_eat 2 rfl) 0 rfl rfl ?_
  refine zr_getI (pc := 5) (zq_d eX3_eat 3 rfl) zf_RX3_31 (kx_28_1 j) ?_
  refine zr_icmp_ge (pc := 8) 24 (zq_d eX3_eat 4 rfl) (by decide) (fun _ => ?_) (fun _ => ?_)
  · refine zr_iconst (pc := 24) (zq_d eX3_eat 12 rfl) zc_i0 ?_
    exact zr_zreturn (pc := 25) (zq_d eX3_eat 13 rfl) rfl rfl rfl (Nat.zero_le _) (Nat.zero_le _)
  · refine zr_aload_n (pc := 11) (zq_d eX3_eat 5 rfl) 0 rfl rfl ?_
    refine zr_getR (pc := 12) (zq_d eX3_eat 6 rfl) zf_RX3_9 (kx_28_0 j) (fun h1 gh1 => ?_)
    refine zr_aload_n (pc := 15) (zq_d eX3_eat 7 rfl) 0 rfl rfl ?_
    refine zr_getI (pc := 16) (zq_d eX3_eat 8 rfl) zf_RX3_35 (kx_28_2 j) ?_
    refine zr_iald (pc := 19) (zq_d eX3_eat 9 rfl) (zq_i100_s gh1) ?_
    refine zr_iload_n (pc := 20) (zq_d eX3_eat 10 rfl) 1 rfl rfl ?_
    refine zr_icmp_eq (pc := 21) 26 (zq_d eX3_eat 11 rfl) (by decide) (fun _ => ?_) (fun _ => ?_)
    · refine zr_aload_n (pc := 26) (zq_d eX3_eat 14 rfl) 0 rfl rfl ?_
      refine zr_dup (pc := 27) (zq_d eX3_eat 15 rfl) rfl ?_
      refine zr_getI (pc := 28) (zq_d eX3_eat 16 rfl) zf_RX3_35 (kx_28_2 j) ?_
      refine zr_iconst (pc := 31) (zq_d eX3_eat 17 rfl) zc_i1 ?_
      refine zr_iadd (pc := 32) (zq_d eX3_eat 18 rfl) ?_
      refine zr_putI (pc := 33) (zq_d eX3_eat 19 rfl) zf_RX3_35 (kx_28_2 j) zn_3_2 (fun X2 => ?_)
      refine zr_iconst (pc := 36) (zq_d eX3_eat 20 rfl) zc_i1 ?_
      exact zr_zreturn (pc := 37) (zq_d eX3_eat 21 rfl) rfl rfl rfl (Nat.zero_le _) (Nat.zero_le _)
    · refine zr_iconst (pc := 24) (zq_d eX3_eat 12 rfl) zc_i0 ?_
      exact zr_zreturn (pc := 25) (zq_d eX3_eat 13 rfl) rfl rfl rfl (Nat.zero_le _) (Nat.zero_le _)
def b_X3_eatAll_2 (N : Nat) (j : Nat) (a1 : Nat) (rc2_1 : Int32 → zq_M → Option (Int32 × zq_M)) (v1 : Int32) (X2 : zq_M) : Option (Int32 × zq_M) :=
  (f_J0_length_8abf5 N (zq_shX j) X2 a1).bind (fun v3 => if v3 ≤ v1 then (some ((1 : Int32), X2)) else ((f_J0_charAt_5068e N (zq_shX j) X2 a1 v1).bind (fun v4 => (f_X3_eat N j X2 v4).bind (zq_p (fun v5 X6 => if ¬ v5 = 0 then (rc2_1 (v1 + (1 : Int32)) X6) else (some ((0 : Int32), X6)))))))
def f_X3_eatAll (N j : Nat) (X : zq_M) (a1 : Nat) : Option (Int32 × zq_M) :=
  zq_loop (fun _ _ => none) (b_X3_eatAll_2 N j a1) N (0 : Int32) X
set_option maxRecDepth 20000 in
set_option maxHeartbeats 8000000 in
theorem s_X3_eatAll (G : zq_G) (N z j : Nat) (X : zq_M) (a1 : Nat) (ga1 : a1 < 7) : zq_V G YX3_eatAll (5, 0, 0) (zq_si (zq_shX j) z) 0 0 0 (lv_args 0 [.ref (zq_ad G 28), .ref (G.2.2.2.2.2.2.1 a1)]) [] (zq_shX j) z X (f_X3_eatAll N j X a1) := by
  unfold f_X3_eatAll
  refine zr_lo (l2 := [(0, .ref (zq_ad G 28)), (1, .ref (G.2.2.2.2.2.2.1 a1))]) [0, 1] rfl ?_
  refine zr_iconst (pc := 0) (zq_d eX3_eatAll 0 rfl) zc_i0 ?_
  refine zr_istore_n (pc := 1) (lo2 := [(2, .int (0 : Int32)), (0, .ref (zq_ad G 28)), (1, .ref (G.2.2.2.2.2.2.1 a1))]) (zq_d eX3_eatAll 1 rfl) rfl (Nat.le_of_ble_eq_true rfl) rfl ?_
  have hbrc2_1 : ∀ rc2_1 : Int32 → zq_M → Option (Int32 × zq_M), (∀ (v1 : Int32) (X2 : zq_M), zq_V G YX3_eatAll (5, 0, 0) (zq_si (zq_shX j) z) 0 0 2 [(0, .ref (zq_ad G 28)), (1, .ref (G.2.2.2.2.2.2.1 a1)), (2, .int v1)] [] (zq_shX j) z X2 (rc2_1 v1 X2)) → ∀ (v1 : Int32) (X2 : zq_M), zq_V G YX3_eatAll (5, 0, 0) (zq_si (zq_shX j) z) 0 0 2 [(0, .ref (zq_ad G 28)), (1, .ref (G.2.2.2.2.2.2.1 a1)), (2, .int v1)] [] (zq_shX j) z X2 (b_X3_eatAll_2 N j a1 rc2_1 v1 X2) := by
    intro rc2_1 hrc2_1 v1 X2
    unfold b_X3_eatAll_2
    refine zr_iload_n (pc := 2) (zq_d eX3_eatAll 2 rfl) 2 rfl rfl ?_
    refine zr_aload_n (pc := 3) (zq_d eX3_eatAll 3 rfl) 1 rfl rfl ?_
    refine zr_VSi (pc := 4) [] (zq_d eX3_eatAll 4 rfl) (s_J0_length_8abf5 G N z (zq_shX j) X2 a1 ga1) zd_J0_length_8abf5 zl_RX3_99 ga1 rfl rfl rfl (Nat.le_of_ble_eq_true rfl) (Nat.le_of_ble_eq_true rfl) (Nat.le_of_ble_eq_true rfl) ⟨Nat.le_refl _, Nat.le_refl _⟩ (fun v3 => ?_)
    refine zr_icmp_ge (pc := 7) 30 (zq_d eX3_eatAll 5 rfl) (by decide) (fun _ => ?_) (fun _ => ?_)
    · refine zr_iconst (pc := 30) (zq_d eX3_eatAll 16 rfl) zc_i1 ?_
      exact zr_zreturn (pc := 31) (zq_d eX3_eatAll 17 rfl) rfl rfl rfl (Nat.zero_le _) (Nat.zero_le _)
    · refine zr_aload_n (pc := 10) (zq_d eX3_eatAll 6 rfl) 0 rfl rfl ?_
      refine zr_aload_n (pc := 11) (zq_d eX3_eatAll 7 rfl) 1 rfl rfl ?_
      refine zr_iload_n (pc := 12) (zq_d eX3_eatAll 8 rfl) 2 rfl rfl ?_
      refine zr_VSi (pc := 13) [_] (zq_d eX3_eatAll 9 rfl) (s_J0_charAt_5068e G N z (zq_shX j) X2 a1 ga1 _) zd_J0_charAt_5068e zl_RX3_103 ga1 rfl rfl rfl (Nat.le_of_ble_eq_true rfl) (Nat.le_of_ble_eq_true rfl) (Nat.le_of_ble_eq_true rfl) ⟨Nat.le_refl _, Nat.le_refl _⟩ (fun v4 => ?_)
      refine zr_Wsi (pc := 16) [_] (zq_d eX3_eatAll 10 rfl) (s_X3_eat G N z j X2 _) zd_X3_eat zl_RX3_42 (ox_28 j) rfl rfl rfl rfl (Nat.le_of_ble_eq_true rfl) (Nat.le_of_ble_eq_true rfl) (Nat.le_of_ble_eq_true rfl) ⟨Nat.le_refl _, Nat.le_refl _⟩ (fun v5 X6 => ?_)
      refine zr_if_ne (pc := 19) 24 (zq_d eX3_eatAll 11 rfl) (by decide) (fun _ => ?_) (fun _ => ?_)
      · refine zr_iinc (pc := 24) (j := 2) (v := (v1 + (1 : Int32))) (lo2 := [(2, .int (v1 + (1 : Int32))), (0, .ref (zq_ad G 28)), (1, .ref (G.2.2.2.2.2.2.1 a1))]) (zq_d eX3_eatAll 14 rfl) rfl (by rw [zc_i1]) (Nat.le_of_ble_eq_true rfl) rfl ?_
        refine zr_goto (pc := 27) 2 (zq_d eX3_eatAll 15 rfl) (by decide) ?_
        exact zr_lo [1, 2, 0] rfl (hrc2_1 (v1 + (1 : Int32)) X6)
      · refine zr_iconst (pc := 22) (zq_d eX3_eatAll 12 rfl) zc_i0 ?_
        exact zr_zreturn (pc := 23) (zq_d eX3_eatAll 13 rfl) rfl rfl rfl (Nat.zero_le _) (Nat.zero_le _)
  have hlrc2_1 := zr_loop (P := fun (rc2_1 : Int32 → zq_M → Option (Int32 × zq_M)) => ∀ (v1 : Int32) (X2 : zq_M), zq_V G YX3_eatAll (5, 0, 0) (zq_si (zq_shX j) z) 0 0 2 [(0, .ref (zq_ad G 28)), (1, .ref (G.2.2.2.2.2.2.1 a1)), (2, .int v1)] [] (zq_shX j) z X2 (rc2_1 v1 X2)) (fun _ _ => none) (b_X3_eatAll_2 N j a1) (fun _ _ => zr_none) hbrc2_1 N
  exact zr_lo [1, 2, 0] rfl (hlrc2_1 (0 : Int32) X)
def j_X3_readWord_24 (N : Nat) (j : Nat) (X : zq_M) (v1 : Int32) : Option (Int32 × zq_M) :=
  if v1 = (98 : Int32) then ((f_X3_eatAll N j X 1).bind (zq_p (fun v8 X9 => if v8 = 0 then (some ((-1 : Int32), X9)) else (some ((1 : Int32), X9))))) else (if v1 = (112 : Int32) then ((f_X3_eatAll N j X 0).bind (zq_p (fun v6 X7 => if v6 = 0 then (some ((-1 : Int32), X7)) else (some ((0 : Int32), X7))))) else (if v1 = (115 : Int32) then ((f_X3_eatAll N j X 3).bind (zq_p (fun v4 X5 => if v4 = 0 then (some ((-1 : Int32), X5)) else (some ((3 : Int32), X5))))) else (if v1 = (119 : Int32) then ((f_X3_eatAll N j X 2).bind (zq_p (fun v2 X3 => if v2 = 0 then (some ((-1 : Int32), X3)) else (some ((2 : Int32), X3))))) else (some ((-1 : Int32), X)))))
def f_X3_readWord (N j : Nat) (X : zq_M)  : Option (Int32 × zq_M) :=
  if (X.1 28 1) ≤ (X.1 28 2) then (j_X3_readWord_24 N j X (-1 : Int32)) else (zq_nn (X.2.2 28 0) (zq_i100 (zq_shX j)) (fun h10 => zq_ck (X.1 28 2) 100 (j_X3_readWord_24 N j X (X.1 h10 (zq_ix (X.1 28 2))))))
set_option maxRecDepth 20000 in
set_option maxHeartbeats 8000000 in
theorem s_X3_readWord (G : zq_G) (N z j : Nat) (X : zq_M)  : zq_V G YX3_readWord (6, 0, 0) (zq_si (zq_shX j) z) 0 0 0 (lv_args 0 [.ref (zq_ad G 28)]) [] (zq_shX j) z X (f_X3_readWord N j X ) := by
  unfold f_X3_readWord
  refine zr_lo (l2 := [(0, .ref (zq_ad G 28))]) [0] rfl ?_
  refine zr_aload_n (pc := 0) (zq_d eX3_readWord 0 rfl) 0 rfl rfl ?_
  refine zr_getI (pc := 1) (zq_d eX3_readWord 1 rfl) zf_RX3_35 (kx_28_2 j) ?_
  refine zr_aload_n (pc := 4) (zq_d eX3_readWord 2 rfl) 0 rfl rfl ?_
  refine zr_getI (pc := 5) (zq_d eX3_readWord 3 rfl) zf_RX3_31 (kx_28_1 j) ?_
  have hj24_5 : ∀ (v1 : Int32), zq_V G YX3_readWord (6, 0, 0) (zq_si (zq_shX j) z) 0 0 24 [(0, .ref (zq_ad G 28))] [.int v1] (zq_shX j) z X (j_X3_readWord_24 N j X v1) := by
    intro v1
    unfold j_X3_readWord_24
    refine zr_cs (fun q1 => ?_) (fun q1 => ?_)
    · refine zr_lok (pc := 24) (n := 98) 83 (zq_d eX3_readWord 12 rfl) q1 (by decide) (by decide) rfl (by decide) ?_
      refine zr_aload_n (pc := 83) (zq_d eX3_readWord 21 rfl) 0 rfl rfl ?_
      refine zr_ldcS (pc := 84) (i := 1) (zq_d eX3_readWord 22 rfl) zs_66 rfl ?_
      refine zr_Wsi (pc := 86) [_] (zq_d eX3_readWord 23 rfl) (s_X3_eatAll G N z j X 1 (Nat.le_of_ble_eq_true rfl)) zd_X3_eatAll zl_RX3_62 (ox_28 j) rfl rfl rfl rfl (Nat.le_of_ble_eq_true rfl) (Nat.le_of_ble_eq_true rfl) (Nat.le_of_ble_eq_true rfl) ⟨Nat.le_refl _, Nat.le_refl _⟩ (fun v8 X9 => ?_)
      refine zr_if_eq (pc := 89) 96 (zq_d eX3_readWord 24 rfl) (by decide) (fun _ => ?_) (fun _ => ?_)
      · refine zr_iconst (pc := 96) (zq_d eX3_readWord 27 rfl) zc_im1 ?_
        exact zr_ireturn (pc := 97) (zq_d eX3_readWord 28 rfl) rfl rfl (Nat.zero_le _) (Nat.zero_le _)
      · refine zr_iconst (pc := 92) (zq_d eX3_readWord 25 rfl) zc_i1 ?_
        refine zr_goto (pc := 93) 97 (zq_d eX3_readWord 26 rfl) (by decide) ?_
        exact zr_ireturn (pc := 97) (zq_d eX3_readWord 28 rfl) rfl rfl (Nat.zero_le _) (Nat.zero_le _)
    · refine zr_cs (fun q2 => ?_) (fun q2 => ?_)
      · refine zr_lok (pc := 24) (n := 112) 68 (zq_d eX3_readWord 12 rfl) q2 (by decide) (by decide) rfl (by decide) ?_
        refine zr_aload_n (pc := 68) (zq_d eX3_readWord 13 rfl) 0 rfl rfl ?_
        refine zr_ldcS (pc := 69) (i := 0) (zq_d eX3_readWord 14 rfl) zs_60 rfl ?_
        refine zr_Wsi (pc := 71) [_] (zq_d eX3_readWord 15 rfl) (s_X3_eatAll G N z j X 0 (Nat.le_of_ble_eq_true rfl)) zd_X3_eatAll zl_RX3_62 (ox_28 j) rfl rfl rfl rfl (Nat.le_of_ble_eq_true rfl) (Nat.le_of_ble_eq_true rfl) (Nat.le_of_ble_eq_true rfl) ⟨Nat.le_refl _, Nat.le_refl _⟩ (fun v6 X7 => ?_)
        refine zr_if_eq (pc := 74) 81 (zq_d eX3_readWord 16 rfl) (by decide) (fun _ => ?_) (fun _ => ?_)
        · refine zr_iconst (pc := 81) (zq_d eX3_readWord 19 rfl) zc_im1 ?_
          exact zr_ireturn (pc := 82) (zq_d eX3_readWord 20 rfl) rfl rfl (Nat.zero_le _) (Nat.zero_le _)
        · refine zr_iconst (pc := 77) (zq_d eX3_readWord 17 rfl) zc_i0 ?_
          refine zr_goto (pc := 78) 82 (zq_d eX3_readWord 18 rfl) (by decide) ?_
          exact zr_ireturn (pc := 82) (zq_d eX3_readWord 20 rfl) rfl rfl (Nat.zero_le _) (Nat.zero_le _)
      · refine zr_cs (fun q3 => ?_) (fun q3 => ?_)
        · refine zr_lok (pc := 24) (n := 115) 113 (zq_d eX3_readWord 12 rfl) q3 (by decide) (by decide) rfl (by decide) ?_
          refine zr_aload_n (pc := 113) (zq_d eX3_readWord 37 rfl) 0 rfl rfl ?_
          refine zr_ldcS (pc := 114) (i := 3) (zq_d eX3_readWord 38 rfl) zs_70 rfl ?_
          refine zr_Wsi (pc := 116) [_] (zq_d eX3_readWord 39 rfl) (s_X3_eatAll G N z j X 3 (Nat.le_of_ble_eq_true rfl)) zd_X3_eatAll zl_RX3_62 (ox_28 j) rfl rfl rfl rfl (Nat.le_of_ble_eq_true rfl) (Nat.le_of_ble_eq_true rfl) (Nat.le_of_ble_eq_true rfl) ⟨Nat.le_refl _, Nat.le_refl _⟩ (fun v4 X5 => ?_)
          refine zr_if_eq (pc := 119) 126 (zq_d eX3_readWord 40 rfl) (by decide) (fun _ => ?_) (fun _ => ?_)
          · refine zr_iconst (pc := 126) (zq_d eX3_readWord 43 rfl) zc_im1 ?_
            exact zr_ireturn (pc := 127) (zq_d eX3_readWord 44 rfl) rfl rfl (Nat.zero_le _) (Nat.zero_le _)
          · refine zr_iconst (pc := 122) (zq_d eX3_readWord 41 rfl) zc_i3 ?_
            refine zr_goto (pc := 123) 127 (zq_d eX3_readWord 42 rfl) (by decide) ?_
            exact zr_ireturn (pc := 127) (zq_d eX3_readWord 44 rfl) rfl rfl (Nat.zero_le _) (Nat.zero_le _)
        · refine zr_cs (fun q4 => ?_) (fun q4 => ?_)
          · refine zr_lok (pc := 24) (n := 119) 98 (zq_d eX3_readWord 12 rfl) q4 (by decide) (by decide) rfl (by decide) ?_
            refine zr_aload_n (pc := 98) (zq_d eX3_readWord 29 rfl) 0 rfl rfl ?_
            refine zr_ldcS (pc := 99) (i := 2) (zq_d eX3_readWord 30 rfl) zs_68 rfl ?_
            refine zr_Wsi (pc := 101) [_] (zq_d eX3_readWord 31 rfl) (s_X3_eatAll G N z j X 2 (Nat.le_of_ble_eq_true rfl)) zd_X3_eatAll zl_RX3_62 (ox_28 j) rfl rfl rfl rfl (Nat.le_of_ble_eq_true rfl) (Nat.le_of_ble_eq_true rfl) (Nat.le_of_ble_eq_true rfl) ⟨Nat.le_refl _, Nat.le_refl _⟩ (fun v2 X3 => ?_)
            refine zr_if_eq (pc := 104) 111 (zq_d eX3_readWord 32 rfl) (by decide) (fun _ => ?_) (fun _ => ?_)
            · refine zr_iconst (pc := 111) (zq_d eX3_readWord 35 rfl) zc_im1 ?_
              exact zr_ireturn (pc := 112) (zq_d eX3_readWord 36 rfl) rfl rfl (Nat.zero_le _) (Nat.zero_le _)
            · refine zr_iconst (pc := 107) (zq_d eX3_readWord 33 rfl) zc_i2 ?_
              refine zr_goto (pc := 108) 112 (zq_d eX3_readWord 34 rfl) (by decide) ?_
              exact zr_ireturn (pc := 112) (zq_d eX3_readWord 36 rfl) rfl rfl (Nat.zero_le _) (Nat.zero_le _)
          · refine zr_lokD (pc := 24) 128 (zq_d eX3_readWord 12 rfl) (by decide) (List.forall_mem_cons.mpr ⟨zq_nt (by decide) q1, List.forall_mem_cons.mpr ⟨zq_nt (by decide) q2, List.forall_mem_cons.mpr ⟨zq_nt (by decide) q3, List.forall_mem_cons.mpr ⟨zq_nt (by decide) q4, List.forall_mem_nil _⟩⟩⟩⟩) (by decide) ?_
            refine zr_iconst (pc := 128) (zq_d eX3_readWord 45 rfl) zc_im1 ?_
            exact zr_ireturn (pc := 129) (zq_d eX3_readWord 46 rfl) rfl rfl (Nat.zero_le _) (Nat.zero_le _)
  refine zr_icmp_ge (pc := 8) 23 (zq_d eX3_readWord 4 rfl) (by decide) (fun _ => ?_) (fun _ => ?_)
  · refine zr_iconst (pc := 23) (zq_d eX3_readWord 11 rfl) zc_im1 ?_
    exact zr_lo [0] rfl (hj24_5 (-1 : Int32))
  · refine zr_aload_n (pc := 11) (zq_d eX3_readWord 5 rfl) 0 rfl rfl ?_
    refine zr_getR (pc := 12) (zq_d eX3_readWord 6 rfl) zf_RX3_9 (kx_28_0 j) (fun h10 gh10 => ?_)
    refine zr_aload_n (pc := 15) (zq_d eX3_readWord 7 rfl) 0 rfl rfl ?_
    refine zr_getI (pc := 16) (zq_d eX3_readWord 8 rfl) zf_RX3_35 (kx_28_2 j) ?_
    refine zr_iald (pc := 19) (zq_d eX3_readWord 9 rfl) (zq_i100_s gh10) ?_
    refine zr_goto (pc := 20) 24 (zq_d eX3_readWord 10 rfl) (by decide) ?_
    exact zr_lo [0] rfl (hj24_5 (X.1 h10 (zq_ix (X.1 28 2))))
def j_X3_eatOneOf_29 (X : zq_M) (v1 : Int32) : Option (Int32 × zq_M) :=
  if v1 < 0 then (some (v1, X)) else (zq_b (zq_u1 X 28 2 ((X.1 28 2) + (1 : Int32))) (fun X2 => some (v1, X2)))
def f_X3_eatOneOf (N j : Nat) (X : zq_M) (a1 : Nat) : Option (Int32 × zq_M) :=
  if (X.1 28 1) ≤ (X.1 28 2) then (j_X3_eatOneOf_29 X (-1 : Int32)) else (zq_nn (X.2.2 28 0) (zq_i100 (zq_shX j)) (fun h3 => zq_ck (X.1 28 2) 100 ((f_J0_indexOf_0f7a4 N (zq_shX j) X a1 (((X.1 h3 (zq_ix (X.1 28 2))).toUInt32 % 65536).toInt32)).bind (fun v4 => j_X3_eatOneOf_29 X v4))))
set_option maxRecDepth 20000 in
set_option maxHeartbeats 8000000 in
theorem s_X3_eatOneOf (G : zq_G) (N z j : Nat) (X : zq_M) (a1 : Nat) (ga1 : a1 < 7) : zq_V G YX3_eatOneOf (5, 0, 0) (zq_si (zq_shX j) z) 0 0 0 (lv_args 0 [.ref (zq_ad G 28), .ref (G.2.2.2.2.2.2.1 a1)]) [] (zq_shX j) z X (f_X3_eatOneOf N j X a1) := by
  unfold f_X3_eatOneOf
  refine zr_lo (l2 := [(0, .ref (zq_ad G 28)), (1, .ref (G.2.2.2.2.2.2.1 a1))]) [0, 1] rfl ?_
  refine zr_aload_n (pc := 0) (zq_d eX3_eatOneOf 0 rfl) 0 rfl rfl ?_
  refine zr_getI (pc := 1) (zq_d eX3_eatOneOf 1 rfl) zf_RX3_35 (kx_28_2 j) ?_
  refine zr_aload_n (pc := 4) (zq_d eX3_eatOneOf 2 rfl) 0 rfl rfl ?_
  refine zr_getI (pc := 5) (zq_d eX3_eatOneOf 3 rfl) zf_RX3_31 (kx_28_1 j) ?_
  have hj29_1 : ∀ (v1 : Int32), zq_V G YX3_eatOneOf (5, 0, 0) (zq_si (zq_shX j) z) 0 0 29 [(0, .ref (zq_ad G 28))] [.int v1] (zq_shX j) z X (j_X3_eatOneOf_29 X v1) := by
    intro v1
    unfold j_X3_eatOneOf_29
    refine zr_istore_n (pc := 29) (lo2 := [(2, .int v1), (0, .ref (zq_ad G 28))]) (zq_d eX3_eatOneOf 15 rfl) rfl (Nat.le_of_ble_eq_true rfl) rfl ?_
    refine zr_iload_n (pc := 30) (zq_d eX3_eatOneOf 16 rfl) 0 rfl rfl ?_
    refine zr_if_lt (pc := 31) 44 (zq_d eX3_eatOneOf 17 rfl) (by decide) (fun _ => ?_) (fun _ => ?_)
    · refine zr_iload_n (pc := 44) (zq_d eX3_eatOneOf 24 rfl) 0 rfl rfl ?_
      exact zr_ireturn (pc := 45) (zq_d eX3_eatOneOf 25 rfl) rfl rfl (Nat.zero_le _) (Nat.zero_le _)
    · refine zr_aload_n (pc := 34) (zq_d eX3_eatOneOf 18 rfl) 1 rfl rfl ?_
      refine zr_dup (pc := 35) (zq_d eX3_eatOneOf 19 rfl) rfl ?_
      refine zr_getI (pc := 36) (zq_d eX3_eatOneOf 20 rfl) zf_RX3_35 (kx_28_2 j) ?_
      refine zr_iconst (pc := 39) (zq_d eX3_eatOneOf 21 rfl) zc_i1 ?_
      refine zr_iadd (pc := 40) (zq_d eX3_eatOneOf 22 rfl) ?_
      refine zr_putI (pc := 41) (zq_d eX3_eatOneOf 23 rfl) zf_RX3_35 (kx_28_2 j) zn_3_2 (fun X2 => ?_)
      refine zr_iload_n (pc := 44) (zq_d eX3_eatOneOf 24 rfl) 0 rfl rfl ?_
      exact zr_ireturn (pc := 45) (zq_d eX3_eatOneOf 25 rfl) rfl rfl (Nat.zero_le _) (Nat.zero_le _)
  refine zr_icmp_ge (pc := 8) 28 (zq_d eX3_eatOneOf 4 rfl) (by decide) (fun _ => ?_) (fun _ => ?_)
  · refine zr_iconst (pc := 28) (zq_d eX3_eatOneOf 14 rfl) zc_im1 ?_
    exact zr_lo [0] rfl (hj29_1 (-1 : Int32))
  · refine zr_aload_n (pc := 11) (zq_d eX3_eatOneOf 5 rfl) 1 rfl rfl ?_
    refine zr_aload_n (pc := 12) (zq_d eX3_eatOneOf 6 rfl) 0 rfl rfl ?_
    refine zr_getR (pc := 13) (zq_d eX3_eatOneOf 7 rfl) zf_RX3_9 (kx_28_0 j) (fun h3 gh3 => ?_)
    refine zr_aload_n (pc := 16) (zq_d eX3_eatOneOf 8 rfl) 0 rfl rfl ?_
    refine zr_getI (pc := 17) (zq_d eX3_eatOneOf 9 rfl) zf_RX3_35 (kx_28_2 j) ?_
    refine zr_iald (pc := 20) (zq_d eX3_eatOneOf 10 rfl) (zq_i100_s gh3) ?_
    refine zr_i2c (pc := 21) (zq_d eX3_eatOneOf 11 rfl) ?_
    refine zr_VSi (pc := 22) [_] (zq_d eX3_eatOneOf 12 rfl) (s_J0_indexOf_0f7a4 G N z (zq_shX j) X a1 ga1 _) zd_J0_indexOf_0f7a4 zl_RX3_107 ga1 rfl rfl rfl (Nat.le_of_ble_eq_true rfl) (Nat.le_of_ble_eq_true rfl) (Nat.le_of_ble_eq_true rfl) ⟨Nat.le_refl _, Nat.le_refl _⟩ (fun v4 => ?_)
    refine zr_goto (pc := 25) 29 (zq_d eX3_eatOneOf 13 rfl) (by decide) ?_
    exact zr_lo [0] rfl (hj29_1 v4)
def j_X3_readNumber_21 (v1 : Int32) (v3 : Int32) (X4 : zq_M) : Option (Int32 × zq_M) :=
  if 0 ≤ v3 then (some (((v1 * (10 : Int32)) + v3), X4)) else (some (v1, X4))
def f_X3_readNumber (N j : Nat) (X : zq_M)  : Option (Int32 × zq_M) :=
  (f_X3_eatOneOf N j X 4).bind (zq_p (fun v1 X2 => if 0 ≤ v1 then ((f_X3_eatOneOf N j X2 4).bind (zq_p (fun v5 X6 => j_X3_readNumber_21 v1 v5 X6))) else (j_X3_readNumber_21 v1 (-1 : Int32) X2)))
set_option maxRecDepth 20000 in
set_option maxHeartbeats 8000000 in
theorem s_X3_readNumber (G : zq_G) (N z j : Nat) (X : zq_M)  : zq_V G YX3_readNumber (6, 0, 0) (zq_si (zq_shX j) z) 0 0 0 (lv_args 0 [.ref (zq_ad G 28)]) [] (zq_shX j) z X (f_X3_readNumber N j X ) := by
  unfold f_X3_readNumber
  refine zr_lo (l2 := [(0, .ref (zq_ad G 28))]) [0] rfl ?_
  refine zr_aload_n (pc := 0) (zq_d eX3_readNumber 0 rfl) 0 rfl rfl ?_
  refine zr_ldcS (pc := 1) (i := 4) (zq_d eX3_readNumber 1 rfl) zs_97 rfl ?_
  refine zr_Wsi (pc := 3) [_] (zq_d eX3_readNumber 2 rfl) (s_X3_eatOneOf G N z j X 4 (Nat.le_of_ble_eq_true rfl)) zd_X3_eatOneOf zl_RX3_87 (ox_28 j) rfl rfl rfl rfl (Nat.le_of_ble_eq_true rfl) (Nat.le_of_ble_eq_true rfl) (Nat.le_of_ble_eq_true rfl) ⟨Nat.le_refl _, Nat.le_refl _⟩ (fun v1 X2 => ?_)
  refine zr_istore_n (pc := 6) (lo2 := [(1, .int v1), (0, .ref (zq_ad G 28))]) (zq_d eX3_readNumber 3 rfl) rfl (Nat.le_of_ble_eq_true rfl) rfl ?_
  refine zr_iload_n (pc := 7) (zq_d eX3_readNumber 4 rfl) 0 rfl rfl ?_
  have hj21_1 : ∀ (v3 : Int32) (X4 : zq_M), zq_V G YX3_readNumber (6, 0, 0) (zq_si (zq_shX j) z) 0 0 21 [(1, .int v1)] [.int v3] (zq_shX j) z X4 (j_X3_readNumber_21 v1 v3 X4) := by
    intro v3 X4
    unfold j_X3_readNumber_21
    refine zr_istore_n (pc := 21) (lo2 := [(2, .int v3), (1, .int v1)]) (zq_d eX3_readNumber 11 rfl) rfl (Nat.le_of_ble_eq_true rfl) rfl ?_
    refine zr_iload_n (pc := 22) (zq_d eX3_readNumber 12 rfl) 0 rfl rfl ?_
    refine zr_if_ge (pc := 23) 30 (zq_d eX3_readNumber 13 rfl) (by decide) (fun _ => ?_) (fun _ => ?_)
    · refine zr_iload_n (pc := 30) (zq_d eX3_readNumber 16 rfl) 1 rfl rfl ?_
      refine zr_bipush (pc := 31) (zq_d eX3_readNumber 17 rfl) zc_b10 ?_
      refine zr_imul (pc := 33) (zq_d eX3_readNumber 18 rfl) ?_
      refine zr_iload_n (pc := 34) (zq_d eX3_readNumber 19 rfl) 0 rfl rfl ?_
      refine zr_iadd (pc := 35) (zq_d eX3_readNumber 20 rfl) ?_
      exact zr_ireturn (pc := 36) (zq_d eX3_readNumber 21 rfl) rfl rfl (Nat.zero_le _) (Nat.zero_le _)
    · refine zr_iload_n (pc := 26) (zq_d eX3_readNumber 14 rfl) 1 rfl rfl ?_
      refine zr_goto (pc := 27) 36 (zq_d eX3_readNumber 15 rfl) (by decide) ?_
      exact zr_ireturn (pc := 36) (zq_d eX3_readNumber 21 rfl) rfl rfl (Nat.zero_le _) (Nat.zero_le _)
  refine zr_if_ge (pc := 8) 15 (zq_d eX3_readNumber 5 rfl) (by decide) (fun _ => ?_) (fun _ => ?_)
  · refine zr_aload_n (pc := 15) (zq_d eX3_readNumber 8 rfl) 1 rfl rfl ?_
    refine zr_ldcS (pc := 16) (i := 4) (zq_d eX3_readNumber 9 rfl) zs_97 rfl ?_
    refine zr_Wsi (pc := 18) [_] (zq_d eX3_readNumber 10 rfl) (s_X3_eatOneOf G N z j X2 4 (Nat.le_of_ble_eq_true rfl)) zd_X3_eatOneOf zl_RX3_87 (ox_28 j) rfl rfl rfl rfl (Nat.le_of_ble_eq_true rfl) (Nat.le_of_ble_eq_true rfl) (Nat.le_of_ble_eq_true rfl) ⟨Nat.le_refl _, Nat.le_refl _⟩ (fun v5 X6 => ?_)
    exact zr_lo [0] rfl (hj21_1 v5 X6)
  · refine zr_iconst (pc := 11) (zq_d eX3_readNumber 6 rfl) zc_im1 ?_
    refine zr_goto (pc := 12) 21 (zq_d eX3_readNumber 7 rfl) (by decide) ?_
    exact zr_lo [0] rfl (hj21_1 (-1 : Int32) X2)
def j_X3_readTest_34 (N : Nat) (j : Nat) (v1 : Int32) (v3 : Int32) (v5 : Int32) (X6 : zq_M) : Option (Int32 × zq_M) :=
  if 0 ≤ v5 then (zq_nn (X6.2.2 28 3) (zq_ho (zq_shX j)) (fun h7 => (f_X2_addTest N j X6 h7 v1 v3 v5).bind (fun X8 => some ((1 : Int32), X8)))) else (some ((0 : Int32), X6))
def j_X3_readTest_21 (N : Nat) (j : Nat) (v1 : Int32) (v3 : Int32) (X4 : zq_M) : Option (Int32 × zq_M) :=
  if 0 ≤ v3 then ((f_X3_readNumber N j X4).bind (zq_p (fun v9 X10 => j_X3_readTest_34 N j v1 v3 v9 X10))) else (j_X3_readTest_34 N j v1 v3 (-1 : Int32) X4)
def f_X3_readTest (N j : Nat) (X : zq_M)  : Option (Int32 × zq_M) :=
  (f_X3_eatOneOf N j X 5).bind (zq_p (fun v1 X2 => if 0 ≤ v1 then ((f_X3_eatOneOf N j X2 6).bind (zq_p (fun v11 X12 => j_X3_readTest_21 N j v1 v11 X12))) else (j_X3_readTest_21 N j v1 (-1 : Int32) X2)))
set_option maxRecDepth 20000 in
set_option maxHeartbeats 8000000 in
theorem s_X3_readTest (G : zq_G) (N z j : Nat) (X : zq_M)  : zq_V G YX3_readTest (7, 0, 0) (zq_si (zq_shX j) z) 0 0 0 (lv_args 0 [.ref (zq_ad G 28)]) [] (zq_shX j) z X (f_X3_readTest N j X ) := by
  unfold f_X3_readTest
  refine zr_lo (l2 := [(0, .ref (zq_ad G 28))]) [0] rfl ?_
  refine zr_aload_n (pc := 0) (zq_d eX3_readTest 0 rfl) 0 rfl rfl ?_
  refine zr_ldcS (pc := 1) (i := 5) (zq_d eX3_readTest 1 rfl) zs_85 rfl ?_
  refine zr_Wsi (pc := 3) [_] (zq_d eX3_readTest 2 rfl) (s_X3_eatOneOf G N z j X 5 (Nat.le_of_ble_eq_true rfl)) zd_X3_eatOneOf zl_RX3_87 (ox_28 j) rfl rfl rfl rfl (Nat.le_of_ble_eq_true rfl) (Nat.le_of_ble_eq_true rfl) (Nat.le_of_ble_eq_true rfl) ⟨Nat.le_refl _, Nat.le_refl _⟩ (fun v1 X2 => ?_)
  refine zr_istore_n (pc := 6) (lo2 := [(1, .int v1), (0, .ref (zq_ad G 28))]) (zq_d eX3_readTest 3 rfl) rfl (Nat.le_of_ble_eq_true rfl) rfl ?_
  refine zr_iload_n (pc := 7) (zq_d eX3_readTest 4 rfl) 0 rfl rfl ?_
  have hj21_2 : ∀ (v3 : Int32) (X4 : zq_M), zq_V G YX3_readTest (7, 0, 0) (zq_si (zq_shX j) z) 0 0 21 [(0, .ref (zq_ad G 28)), (1, .int v1)] [.int v3] (zq_shX j) z X4 (j_X3_readTest_21 N j v1 v3 X4) := by
    intro v3 X4
    unfold j_X3_readTest_21
    refine zr_istore_n (pc := 21) (lo2 := [(2, .int v3), (0, .ref (zq_ad G 28)), (1, .int v1)]) (zq_d eX3_readTest 11 rfl) rfl (Nat.le_of_ble_eq_true rfl) rfl ?_
    refine zr_iload_n (pc := 22) (zq_d eX3_readTest 12 rfl) 0 rfl rfl ?_
    have hj34_1 : ∀ (v5 : Int32) (X6 : zq_M), zq_V G YX3_readTest (7, 0, 0) (zq_si (zq_shX j) z) 0 0 34 [(0, .ref (zq_ad G 28)), (1, .int v1), (2, .int v3)] [.int v5] (zq_shX j) z X6 (j_X3_readTest_34 N j v1 v3 v5 X6) := by
      intro v5 X6
      unfold j_X3_readTest_34
      refine zr_istore_n (pc := 34) (lo2 := [(3, .int v5), (0, .ref (zq_ad G 28)), (1, .int v1), (2, .int v3)]) (zq_d eX3_readTest 18 rfl) rfl (Nat.le_of_ble_eq_true rfl) rfl ?_
      refine zr_iload_n (pc := 35) (zq_d eX3_readTest 19 rfl) 0 rfl rfl ?_
      refine zr_if_ge (pc := 36) 41 (zq_d eX3_readTest 20 rfl) (by decide) (fun _ => ?_) (fun _ => ?_)
      · refine zr_aload_n (pc := 41) (zq_d eX3_readTest 23 rfl) 1 rfl rfl ?_
        refine zr_getR (pc := 42) (zq_d eX3_readTest 24 rfl) zf_RX3_18 (kx_28_3 j) (fun h7 gh7 => ?_)
        refine zr_iload_n (pc := 45) (zq_d eX3_readTest 25 rfl) 2 rfl rfl ?_
        refine zr_iload_n (pc := 46) (zq_d eX3_readTest 26 rfl) 3 rfl rfl ?_
        refine zr_iload_n (pc := 47) (zq_d eX3_readTest 27 rfl) 0 rfl rfl ?_
        refine zr_Vv (pc := 48) [_, _, _] (zq_d eX3_readTest 28 rfl) (s_X2_addTest G N z j X6 h7 gh7 _ _ _) zd_X2_addTest zl_RX3_93 (zq_ho_s gh7) rfl rfl rfl rfl (Nat.le_of_ble_eq_true rfl) (Nat.le_of_ble_eq_true rfl) (Nat.le_of_ble_eq_true rfl) ⟨Nat.le_refl _, Nat.le_refl _⟩ (fun X8 => ?_)
        refine zr_iconst (pc := 51) (zq_d eX3_readTest 29 rfl) zc_i1 ?_
        exact zr_zreturn (pc := 52) (zq_d eX3_readTest 30 rfl) rfl rfl rfl (Nat.zero_le _) (Nat.zero_le _)
      · refine zr_iconst (pc := 39) (zq_d eX3_readTest 21 rfl) zc_i0 ?_
        exact zr_zreturn (pc := 40) (zq_d eX3_readTest 22 rfl) rfl rfl rfl (Nat.zero_le _) (Nat.zero_le _)
    refine zr_if_ge (pc := 23) 30 (zq_d eX3_readTest 13 rfl) (by decide) (fun _ => ?_) (fun _ => ?_)
    · refine zr_aload_n (pc := 30) (zq_d eX3_readTest 16 rfl) 1 rfl rfl ?_
      refine zr_Wsi (pc := 31) [] (zq_d eX3_readTest 17 rfl) (s_X3_readNumber G N z j X4 ) zd_X3_readNumber zl_RX3_50 (ox_28 j) rfl rfl rfl rfl (Nat.le_of_ble_eq_true rfl) (Nat.le_of_ble_eq_true rfl) (Nat.le_of_ble_eq_true rfl) ⟨Nat.le_refl _, Nat.le_refl _⟩ (fun v9 X10 => ?_)
      exact zr_lo [1, 2, 0] rfl (hj34_1 v9 X10)
    · refine zr_iconst (pc := 26) (zq_d eX3_readTest 14 rfl) zc_im1 ?_
      refine zr_goto (pc := 27) 34 (zq_d eX3_readTest 15 rfl) (by decide) ?_
      exact zr_lo [1, 2, 0] rfl (hj34_1 (-1 : Int32) X4)
  refine zr_if_ge (pc := 8) 15 (zq_d eX3_readTest 5 rfl) (by decide) (fun _ => ?_) (fun _ => ?_)
  · refine zr_aload_n (pc := 15) (zq_d eX3_readTest 8 rfl) 1 rfl rfl ?_
    refine zr_ldcS (pc := 16) (i := 6) (zq_d eX3_readTest 9 rfl) zs_91 rfl ?_
    refine zr_Wsi (pc := 18) [_] (zq_d eX3_readTest 10 rfl) (s_X3_eatOneOf G N z j X2 6 (Nat.le_of_ble_eq_true rfl)) zd_X3_eatOneOf zl_RX3_87 (ox_28 j) rfl rfl rfl rfl (Nat.le_of_ble_eq_true rfl) (Nat.le_of_ble_eq_true rfl) (Nat.le_of_ble_eq_true rfl) ⟨Nat.le_refl _, Nat.le_refl _⟩ (fun v11 X12 => ?_)
    exact zr_lo [1, 0] rfl (hj21_2 v11 X12)
  · refine zr_iconst (pc := 11) (zq_d eX3_readTest 6 rfl) zc_im1 ?_
    refine zr_goto (pc := 12) 21 (zq_d eX3_readTest 7 rfl) (by decide) ?_
    exact zr_lo [1, 0] rfl (hj21_2 (-1 : Int32) X2)
def b_X3_readAll_12 (N : Nat) (j : Nat) (a1 : Int32) (rO : Int32 → zq_M → Option (Int32 × zq_M)) (rc12_1 : Int32 → zq_M → Option (Int32 × zq_M)) (v3 : Int32) (X4 : zq_M) : Option (Int32 × zq_M) :=
  if (100 : Int32) ≤ v3 then (some ((1 : Int32), X4)) else ((f_X3_eat N j X4 (38 : Int32)).bind (zq_p (fun v5 X6 => if v5 = 0 then (some ((1 : Int32), X6)) else ((rO a1 X6).bind (zq_p (fun v7 X8 => if ¬ v7 = 0 then (zq_nn (X8.2.2 28 3) (zq_ho (zq_shX j)) (fun h9 => (f_X2_addStep N j X8 h9 (-2 : Int32)).bind (fun X10 => rc12_1 (v3 + (1 : Int32)) X10))) else (some ((0 : Int32), X8))))))))
def f_X3_readAll (N j : Nat) (rO : Int32 → zq_M → Option (Int32 × zq_M)) (X : zq_M) (a1 : Int32) : Option (Int32 × zq_M) :=
  (rO a1 X).bind (zq_p (fun v1 X2 => if ¬ v1 = 0 then (zq_loop (fun _ _ => none) (b_X3_readAll_12 N j a1 rO) N (0 : Int32) X2) else (some ((0 : Int32), X2))))
set_option maxRecDepth 20000 in
set_option maxHeartbeats 8000000 in
theorem s_X3_readAll (G : zq_G) (N z j l : Nat) (rO : Int32 → zq_M → Option (Int32 × zq_M)) (hO : ∀ (a : Int32) (X : zq_M), zq_V G YX3_readOne (7 + l, 0, 0) (zq_si (zq_shX j) z) 0 0 0 (lv_args 0 [.ref (zq_ad G 28), .int a]) [] (zq_shX j) z X (rO a X)) (X : zq_M) (a1 : Int32) : zq_V G YX3_readAll (7 + l + 1, 0, 0) (zq_si (zq_shX j) z) 0 0 0 (lv_args 0 [.ref (zq_ad G 28), .int a1]) [] (zq_shX j) z X (f_X3_readAll N j rO X a1) := by
  unfold f_X3_readAll
  refine zr_lo (l2 := [(0, .ref (zq_ad G 28)), (1, .int a1)]) [0, 1] rfl ?_
  refine zr_aload_n (pc := 0) (zq_d eX3_readAll 0 rfl) 0 rfl rfl ?_
  refine zr_iload_n (pc := 1) (zq_d eX3_readAll 1 rfl) 1 rfl rfl ?_
  refine zr_Wsi (pc := 2) [_] (zq_d eX3_readAll 2 rfl) (hO _ X) zd_X3_readOne zl_RX3_79 (ox_28 j) rfl rfl rfl rfl (Nat.le_of_ble_eq_true rfl) (Nat.le_of_ble_eq_true rfl) (show (7 + l) + 1 ≤ 7 + l + 1 by omega) ⟨Nat.le_refl _, Nat.le_refl _⟩ (fun v1 X2 => ?_)
  refine zr_if_ne (pc := 5) 10 (zq_d eX3_readAll 3 rfl) (by decide) (fun _ => ?_) (fun _ => ?_)
  · refine zr_iconst (pc := 10) (zq_d eX3_readAll 6 rfl) zc_i0 ?_
    refine zr_istore_n (pc := 11) (lo2 := [(2, .int (0 : Int32)), (0, .ref (zq_ad G 28)), (1, .int a1)]) (zq_d eX3_readAll 7 rfl) rfl (Nat.le_of_ble_eq_true rfl) rfl ?_
    have hbrc12_1 : ∀ rc12_1 : Int32 → zq_M → Option (Int32 × zq_M), (∀ (v3 : Int32) (X4 : zq_M), zq_V G YX3_readAll (7 + l + 1, 0, 0) (zq_si (zq_shX j) z) 0 0 12 [(0, .ref (zq_ad G 28)), (1, .int a1), (2, .int v3)] [] (zq_shX j) z X4 (rc12_1 v3 X4)) → ∀ (v3 : Int32) (X4 : zq_M), zq_V G YX3_readAll (7 + l + 1, 0, 0) (zq_si (zq_shX j) z) 0 0 12 [(0, .ref (zq_ad G 28)), (1, .int a1), (2, .int v3)] [] (zq_shX j) z X4 (b_X3_readAll_12 N j a1 rO rc12_1 v3 X4) := by
      intro rc12_1 hrc12_1 v3 X4
      unfold b_X3_readAll_12
      refine zr_iload_n (pc := 12) (zq_d eX3_readAll 8 rfl) 2 rfl rfl ?_
      refine zr_bipush (pc := 13) (zq_d eX3_readAll 9 rfl) zc_b100 ?_
      refine zr_icmp_ge (pc := 15) 52 (zq_d eX3_readAll 10 rfl) (by decide) (fun _ => ?_) (fun _ => ?_)
      · refine zr_iconst (pc := 52) (zq_d eX3_readAll 27 rfl) zc_i1 ?_
        exact zr_zreturn (pc := 53) (zq_d eX3_readAll 28 rfl) rfl rfl rfl (Nat.zero_le _) (Nat.zero_le _)
      · refine zr_aload_n (pc := 18) (zq_d eX3_readAll 11 rfl) 0 rfl rfl ?_
        refine zr_bipush (pc := 19) (zq_d eX3_readAll 12 rfl) zc_b38 ?_
        refine zr_Wsi (pc := 21) [_] (zq_d eX3_readAll 13 rfl) (s_X3_eat G N z j X4 _) zd_X3_eat zl_RX3_42 (ox_28 j) rfl rfl rfl rfl (Nat.le_of_ble_eq_true rfl) (Nat.le_of_ble_eq_true rfl) (show 1 + 1 ≤ 7 + l + 1 by omega) ⟨Nat.le_refl _, Nat.le_refl _⟩ (fun v5 X6 => ?_)
        refine zr_if_eq (pc := 24) 52 (zq_d eX3_readAll 14 rfl) (by decide) (fun _ => ?_) (fun _ => ?_)
        · refine zr_iconst (pc := 52) (zq_d eX3_readAll 27 rfl) zc_i1 ?_
          exact zr_zreturn (pc := 53) (zq_d eX3_readAll 28 rfl) rfl rfl rfl (Nat.zero_le _) (Nat.zero_le _)
        · refine zr_aload_n (pc := 27) (zq_d eX3_readAll 15 rfl) 0 rfl rfl ?_
          refine zr_iload_n (pc := 28) (zq_d eX3_readAll 16 rfl) 1 rfl rfl ?_
          refine zr_Wsi (pc := 29) [_] (zq_d eX3_readAll 17 rfl) (hO _ X6) zd_X3_readOne zl_RX3_79 (ox_28 j) rfl rfl rfl rfl (Nat.le_of_ble_eq_true rfl) (Nat.le_of_ble_eq_true rfl) (show (7 + l) + 1 ≤ 7 + l + 1 by omega) ⟨Nat.le_refl _, Nat.le_refl _⟩ (fun v7 X8 => ?_)
          refine zr_if_ne (pc := 32) 37 (zq_d eX3_readAll 18 rfl) (by decide) (fun _ => ?_) (fun _ => ?_)
          · refine zr_aload_n (pc := 37) (zq_d eX3_readAll 21 rfl) 0 rfl rfl ?_
            refine zr_getR (pc := 38) (zq_d eX3_readAll 22 rfl) zf_RX3_18 (kx_28_3 j) (fun h9 gh9 => ?_)
            refine zr_bipush (pc := 41) (zq_d eX3_readAll 23 rfl) zc_bm2 ?_
            refine zr_Vv (pc := 43) [_] (zq_d eX3_readAll 24 rfl) (s_X2_addStep G N z j X8 h9 gh9 _) zd_X2_addStep zl_RX3_75 (zq_ho_s gh9) rfl rfl rfl rfl (Nat.le_of_ble_eq_true rfl) (Nat.le_of_ble_eq_true rfl) (show 1 + 1 ≤ 7 + l + 1 by omega) ⟨Nat.le_refl _, Nat.le_refl _⟩ (fun X10 => ?_)
            refine zr_iinc (pc := 46) (j := 2) (v := (v3 + (1 : Int32))) (lo2 := [(2, .int (v3 + (1 : Int32))), (0, .ref (zq_ad G 28)), (1, .int a1)]) (zq_d eX3_readAll 25 rfl) rfl (by rw [zc_i1]) (Nat.le_of_ble_eq_true rfl) rfl ?_
            refine zr_goto (pc := 49) 12 (zq_d eX3_readAll 26 rfl) (by decide) ?_
            exact zr_lo [1, 2, 0] rfl (hrc12_1 (v3 + (1 : Int32)) X10)
          · refine zr_iconst (pc := 35) (zq_d eX3_readAll 19 rfl) zc_i0 ?_
            exact zr_zreturn (pc := 36) (zq_d eX3_readAll 20 rfl) rfl rfl rfl (Nat.zero_le _) (Nat.zero_le _)
    have hlrc12_1 := zr_loop (P := fun (rc12_1 : Int32 → zq_M → Option (Int32 × zq_M)) => ∀ (v3 : Int32) (X4 : zq_M), zq_V G YX3_readAll (7 + l + 1, 0, 0) (zq_si (zq_shX j) z) 0 0 12 [(0, .ref (zq_ad G 28)), (1, .int a1), (2, .int v3)] [] (zq_shX j) z X4 (rc12_1 v3 X4)) (fun _ _ => none) (b_X3_readAll_12 N j a1 rO) (fun _ _ => zr_none) hbrc12_1 N
    exact zr_lo [1, 2, 0] rfl (hlrc12_1 (0 : Int32) X2)
  · refine zr_iconst (pc := 8) (zq_d eX3_readAll 4 rfl) zc_i0 ?_
    exact zr_zreturn (pc := 9) (zq_d eX3_readAll 5 rfl) rfl rfl rfl (Nat.zero_le _) (Nat.zero_le _)
def b_X3_readAny_12 (N : Nat) (j : Nat) (a1 : Int32) (rO : Int32 → zq_M → Option (Int32 × zq_M)) (rc12_1 : Int32 → zq_M → Option (Int32 × zq_M)) (v3 : Int32) (X4 : zq_M) : Option (Int32 × zq_M) :=
  if (100 : Int32) ≤ v3 then (some ((1 : Int32), X4)) else ((f_X3_eat N j X4 (124 : Int32)).bind (zq_p (fun v5 X6 => if v5 = 0 then (some ((1 : Int32), X6)) else ((f_X3_readAll N j rO X6 a1).bind (zq_p (fun v7 X8 => if ¬ v7 = 0 then (zq_nn (X8.2.2 28 3) (zq_ho (zq_shX j)) (fun h9 => (f_X2_addStep N j X8 h9 (-3 : Int32)).bind (fun X10 => rc12_1 (v3 + (1 : Int32)) X10))) else (some ((0 : Int32), X8))))))))
def f_X3_readAny (N j : Nat) (rO : Int32 → zq_M → Option (Int32 × zq_M)) (X : zq_M) (a1 : Int32) : Option (Int32 × zq_M) :=
  (f_X3_readAll N j rO X a1).bind (zq_p (fun v1 X2 => if ¬ v1 = 0 then (zq_loop (fun _ _ => none) (b_X3_readAny_12 N j a1 rO) N (0 : Int32) X2) else (some ((0 : Int32), X2))))
set_option maxRecDepth 20000 in
set_option maxHeartbeats 8000000 in
theorem s_X3_readAny (G : zq_G) (N z j l : Nat) (rO : Int32 → zq_M → Option (Int32 × zq_M)) (hO : ∀ (a : Int32) (X : zq_M), zq_V G YX3_readOne (7 + l, 0, 0) (zq_si (zq_shX j) z) 0 0 0 (lv_args 0 [.ref (zq_ad G 28), .int a]) [] (zq_shX j) z X (rO a X)) (X : zq_M) (a1 : Int32) : zq_V G YX3_readAny (7 + l + 2, 0, 0) (zq_si (zq_shX j) z) 0 0 0 (lv_args 0 [.ref (zq_ad G 28), .int a1]) [] (zq_shX j) z X (f_X3_readAny N j rO X a1) := by
  unfold f_X3_readAny
  refine zr_lo (l2 := [(0, .ref (zq_ad G 28)), (1, .int a1)]) [0, 1] rfl ?_
  refine zr_aload_n (pc := 0) (zq_d eX3_readAny 0 rfl) 0 rfl rfl ?_
  refine zr_iload_n (pc := 1) (zq_d eX3_readAny 1 rfl) 1 rfl rfl ?_
  refine zr_Wsi (pc := 2) [_] (zq_d eX3_readAny 2 rfl) (s_X3_readAll G N z j l rO hO X _) zd_X3_readAll zl_RX3_72 (ox_28 j) rfl rfl rfl rfl (Nat.le_of_ble_eq_true rfl) (Nat.le_of_ble_eq_true rfl) (show (7 + l + 1) + 1 ≤ 7 + l + 2 by omega) ⟨Nat.le_refl _, Nat.le_refl _⟩ (fun v1 X2 => ?_)
  refine zr_if_ne (pc := 5) 10 (zq_d eX3_readAny 3 rfl) (by decide) (fun _ => ?_) (fun _ => ?_)
  · refine zr_iconst (pc := 10) (zq_d eX3_readAny 6 rfl) zc_i0 ?_
    refine zr_istore_n (pc := 11) (lo2 := [(2, .int (0 : Int32)), (0, .ref (zq_ad G 28)), (1, .int a1)]) (zq_d eX3_readAny 7 rfl) rfl (Nat.le_of_ble_eq_true rfl) rfl ?_
    have hbrc12_1 : ∀ rc12_1 : Int32 → zq_M → Option (Int32 × zq_M), (∀ (v3 : Int32) (X4 : zq_M), zq_V G YX3_readAny (7 + l + 2, 0, 0) (zq_si (zq_shX j) z) 0 0 12 [(0, .ref (zq_ad G 28)), (1, .int a1), (2, .int v3)] [] (zq_shX j) z X4 (rc12_1 v3 X4)) → ∀ (v3 : Int32) (X4 : zq_M), zq_V G YX3_readAny (7 + l + 2, 0, 0) (zq_si (zq_shX j) z) 0 0 12 [(0, .ref (zq_ad G 28)), (1, .int a1), (2, .int v3)] [] (zq_shX j) z X4 (b_X3_readAny_12 N j a1 rO rc12_1 v3 X4) := by
      intro rc12_1 hrc12_1 v3 X4
      unfold b_X3_readAny_12
      refine zr_iload_n (pc := 12) (zq_d eX3_readAny 8 rfl) 2 rfl rfl ?_
      refine zr_bipush (pc := 13) (zq_d eX3_readAny 9 rfl) zc_b100 ?_
      refine zr_icmp_ge (pc := 15) 52 (zq_d eX3_readAny 10 rfl) (by decide) (fun _ => ?_) (fun _ => ?_)
      · refine zr_iconst (pc := 52) (zq_d eX3_readAny 27 rfl) zc_i1 ?_
        exact zr_zreturn (pc := 53) (zq_d eX3_readAny 28 rfl) rfl rfl rfl (Nat.zero_le _) (Nat.zero_le _)
      · refine zr_aload_n (pc := 18) (zq_d eX3_readAny 11 rfl) 0 rfl rfl ?_
        refine zr_bipush (pc := 19) (zq_d eX3_readAny 12 rfl) zc_b124 ?_
        refine zr_Wsi (pc := 21) [_] (zq_d eX3_readAny 13 rfl) (s_X3_eat G N z j X4 _) zd_X3_eat zl_RX3_42 (ox_28 j) rfl rfl rfl rfl (Nat.le_of_ble_eq_true rfl) (Nat.le_of_ble_eq_true rfl) (show 1 + 1 ≤ 7 + l + 2 by omega) ⟨Nat.le_refl _, Nat.le_refl _⟩ (fun v5 X6 => ?_)
        refine zr_if_eq (pc := 24) 52 (zq_d eX3_readAny 14 rfl) (by decide) (fun _ => ?_) (fun _ => ?_)
        · refine zr_iconst (pc := 52) (zq_d eX3_readAny 27 rfl) zc_i1 ?_
          exact zr_zreturn (pc := 53) (zq_d eX3_readAny 28 rfl) rfl rfl rfl (Nat.zero_le _) (Nat.zero_le _)
        · refine zr_aload_n (pc := 27) (zq_d eX3_readAny 15 rfl) 0 rfl rfl ?_
          refine zr_iload_n (pc := 28) (zq_d eX3_readAny 16 rfl) 1 rfl rfl ?_
          refine zr_Wsi (pc := 29) [_] (zq_d eX3_readAny 17 rfl) (s_X3_readAll G N z j l rO hO X6 _) zd_X3_readAll zl_RX3_72 (ox_28 j) rfl rfl rfl rfl (Nat.le_of_ble_eq_true rfl) (Nat.le_of_ble_eq_true rfl) (show (7 + l + 1) + 1 ≤ 7 + l + 2 by omega) ⟨Nat.le_refl _, Nat.le_refl _⟩ (fun v7 X8 => ?_)
          refine zr_if_ne (pc := 32) 37 (zq_d eX3_readAny 18 rfl) (by decide) (fun _ => ?_) (fun _ => ?_)
          · refine zr_aload_n (pc := 37) (zq_d eX3_readAny 21 rfl) 0 rfl rfl ?_
            refine zr_getR (pc := 38) (zq_d eX3_readAny 22 rfl) zf_RX3_18 (kx_28_3 j) (fun h9 gh9 => ?_)
            refine zr_bipush (pc := 41) (zq_d eX3_readAny 23 rfl) zc_bm3 ?_
            refine zr_Vv (pc := 43) [_] (zq_d eX3_readAny 24 rfl) (s_X2_addStep G N z j X8 h9 gh9 _) zd_X2_addStep zl_RX3_75 (zq_ho_s gh9) rfl rfl rfl rfl (Nat.le_of_ble_eq_true rfl) (Nat.le_of_ble_eq_true rfl) (show 1 + 1 ≤ 7 + l + 2 by omega) ⟨Nat.le_refl _, Nat.le_refl _⟩ (fun X10 => ?_)
            refine zr_iinc (pc := 46) (j := 2) (v := (v3 + (1 : Int32))) (lo2 := [(2, .int (v3 + (1 : Int32))), (0, .ref (zq_ad G 28)), (1, .int a1)]) (zq_d eX3_readAny 25 rfl) rfl (by rw [zc_i1]) (Nat.le_of_ble_eq_true rfl) rfl ?_
            refine zr_goto (pc := 49) 12 (zq_d eX3_readAny 26 rfl) (by decide) ?_
            exact zr_lo [1, 2, 0] rfl (hrc12_1 (v3 + (1 : Int32)) X10)
          · refine zr_iconst (pc := 35) (zq_d eX3_readAny 19 rfl) zc_i0 ?_
            exact zr_zreturn (pc := 36) (zq_d eX3_readAny 20 rfl) rfl rfl rfl (Nat.zero_le _) (Nat.zero_le _)
    have hlrc12_1 := zr_loop (P := fun (rc12_1 : Int32 → zq_M → Option (Int32 × zq_M)) => ∀ (v3 : Int32) (X4 : zq_M), zq_V G YX3_readAny (7 + l + 2, 0, 0) (zq_si (zq_shX j) z) 0 0 12 [(0, .ref (zq_ad G 28)), (1, .int a1), (2, .int v3)] [] (zq_shX j) z X4 (rc12_1 v3 X4)) (fun _ _ => none) (b_X3_readAny_12 N j a1 rO) (fun _ _ => zr_none) hbrc12_1 N
    exact zr_lo [1, 2, 0] rfl (hlrc12_1 (0 : Int32) X2)
  · refine zr_iconst (pc := 8) (zq_d eX3_readAny 4 rfl) zc_i0 ?_
    exact zr_zreturn (pc := 9) (zq_d eX3_readAny 5 rfl) rfl rfl rfl (Nat.zero_le _) (Nat.zero_le _)
def j_X3_readOne_75 (N : Nat) (j : Nat) (X : zq_M) (a1 : Int32) (rc : Int32 → zq_M → Option (Int32 × zq_M)) (v2 : Int32)  : Option (Int32 × zq_M) :=
  if a1 < (4 : Int32) then (zq_b (zq_u1 X 28 2 ((X.1 28 2) + (1 : Int32))) (fun X3 => if v2 = 0 then ((rc (a1 + (1 : Int32)) X3).bind (zq_p (fun v4 X5 => if ¬ v4 = 0 then (zq_nn (X5.2.2 28 3) (zq_ho (zq_shX j)) (fun h6 => (f_X2_addStep N j X5 h6 (-1 : Int32)).bind (fun X7 => some ((1 : Int32), X7)))) else (some ((0 : Int32), X5))))) else ((f_X3_readAny N j rc X3 (a1 + (1 : Int32))).bind (zq_p (fun v8 X9 => if v8 = 0 then (some ((0 : Int32), X9)) else ((f_X3_eat N j X9 (41 : Int32)).bind (zq_p (fun v10 X11 => if v10 = 0 then (some ((0 : Int32), X11)) else (some ((1 : Int32), X11)))))))))) else (some ((0 : Int32), X))
def j_X3_readOne_61 (N : Nat) (j : Nat) (X : zq_M) (a1 : Int32) (rc : Int32 → zq_M → Option (Int32 × zq_M)) (v1 : Int32) (v2 : Int32) : Option (Int32 × zq_M) :=
  if ¬ v1 = 0 then (j_X3_readOne_75 N j X a1 rc v2) else (if ¬ v2 = 0 then (j_X3_readOne_75 N j X a1 rc v2) else ((f_X3_readTest N j X).bind (zq_p (fun v12 X13 => zq_gz v12 (some (v12, X13))))))
def j_X3_readOne_30 (N : Nat) (j : Nat) (X : zq_M) (a1 : Int32) (rc : Int32 → zq_M → Option (Int32 × zq_M)) (v1 : Int32) : Option (Int32 × zq_M) :=
  if (X.1 28 1) ≤ (X.1 28 2) then (j_X3_readOne_61 N j X a1 rc v1 (0 : Int32)) else (zq_nn (X.2.2 28 0) (zq_i100 (zq_shX j)) (fun h14 => zq_ck (X.1 28 2) 100 (if ¬ (X.1 h14 (zq_ix (X.1 28 2))) = (40 : Int32) then (j_X3_readOne_61 N j X a1 rc v1 (0 : Int32)) else (j_X3_readOne_61 N j X a1 rc v1 (1 : Int32)))))
def B_X3_readOne (N j : Nat) (rc : Int32 → zq_M → Option (Int32 × zq_M)) (a1 : Int32) (X : zq_M) : Option (Int32 × zq_M) :=
  if (X.1 28 1) ≤ (X.1 28 2) then (j_X3_readOne_30 N j X a1 rc (0 : Int32)) else (zq_nn (X.2.2 28 0) (zq_i100 (zq_shX j)) (fun h15 => zq_ck (X.1 28 2) 100 (if ¬ (X.1 h15 (zq_ix (X.1 28 2))) = (33 : Int32) then (j_X3_readOne_30 N j X a1 rc (0 : Int32)) else (j_X3_readOne_30 N j X a1 rc (1 : Int32)))))
def fr_X3_readOne (N j : Nat) : Int32 → zq_M → Option (Int32 × zq_M) := zq_loop (fun _ _ => none) (B_X3_readOne N j) 64
def f_X3_readOne (N j : Nat) (X : zq_M) (a1 : Int32) : Option (Int32 × zq_M) := fr_X3_readOne N j a1 X
set_option maxRecDepth 20000 in
set_option maxHeartbeats 8000000 in
theorem r_X3_readOne (G : zq_G) (N z j : Nat) : ∀ (n : Nat) (a1 : Int32) (X : zq_M), zq_V G YX3_readOne (7 + 3 * n, 0, 0) (zq_si (zq_shX j) z) 0 0 0 (lv_args 0 [.ref (zq_ad G 28), .int a1]) [] (zq_shX j) z X (zq_loop (fun _ _ => none) (B_X3_readOne N j) n a1 X) := by
  intro n
  induction n with
    | zero =>
      intro a1 X
      exact zr_none
    | succ n ih =>
      intro a1 X
      show zq_V G YX3_readOne (7 + 3 * (n + 1), 0, 0) (zq_si (zq_shX j) z) 0 0 0 (lv_args 0 [.ref (zq_ad G 28), .int a1]) [] (zq_shX j) z X (B_X3_readOne N j (zq_loop (fun _ _ => none) (B_X3_readOne N j) n) a1 X)
      generalize zq_loop (fun _ _ => none) (B_X3_readOne N j) n = rc at ih ⊢
      unfold B_X3_readOne
      refine zr_lo (l2 := [(0, .ref (zq_ad G 28)), (1, .int a1)]) [0, 1] rfl ?_
      refine zr_aload_n (pc := 0) (zq_d eX3_readOne 0 rfl) 0 rfl rfl ?_
      refine zr_getI (pc := 1) (zq_d eX3_readOne 1 rfl) zf_RX3_35 (kx_28_2 j) ?_
      refine zr_aload_n (pc := 4) (zq_d eX3_readOne 2 rfl) 0 rfl rfl ?_
      refine zr_getI (pc := 5) (zq_d eX3_readOne 3 rfl) zf_RX3_31 (kx_28_1 j) ?_
      have hj30_3 : ∀ (v1 : Int32), zq_V G YX3_readOne (7 + 3 * (n + 1), 0, 0) (zq_si (zq_shX j) z) 0 0 30 [(0, .ref (zq_ad G 28)), (1, .int a1)] [.int v1] (zq_shX j) z X (j_X3_readOne_30 N j X a1 rc v1) := by
        intro v1
        unfold j_X3_readOne_30
        refine zr_istore_n (pc := 30) (lo2 := [(2, .int v1), (0, .ref (zq_ad G 28)), (1, .int a1)]) (zq_d eX3_readOne 15 rfl) rfl (Nat.le_of_ble_eq_true rfl) rfl ?_
        refine zr_aload_n (pc := 31) (zq_d eX3_readOne 16 rfl) 1 rfl rfl ?_
        refine zr_getI (pc := 32) (zq_d eX3_readOne 17 rfl) zf_RX3_35 (kx_28_2 j) ?_
        refine zr_aload_n (pc := 35) (zq_d eX3_readOne 18 rfl) 1 rfl rfl ?_
        refine zr_getI (pc := 36) (zq_d eX3_readOne 19 rfl) zf_RX3_31 (kx_28_1 j) ?_
        have hj61_2 : ∀ (v2 : Int32), zq_V G YX3_readOne (7 + 3 * (n + 1), 0, 0) (zq_si (zq_shX j) z) 0 0 61 [(0, .ref (zq_ad G 28)), (1, .int a1), (2, .int v1)] [.int v2] (zq_shX j) z X (j_X3_readOne_61 N j X a1 rc v1 v2) := by
          intro v2
          unfold j_X3_readOne_61
          refine zr_istore_n (pc := 61) (lo2 := [(3, .int v2), (0, .ref (zq_ad G 28)), (1, .int a1), (2, .int v1)]) (zq_d eX3_readOne 31 rfl) rfl (Nat.le_of_ble_eq_true rfl) rfl ?_
          refine zr_iload_n (pc := 62) (zq_d eX3_readOne 32 rfl) 3 rfl rfl ?_
          have hj75_1 : zq_V G YX3_readOne (7 + 3 * (n + 1), 0, 0) (zq_si (zq_shX j) z) 0 0 75 [(0, .ref (zq_ad G 28)), (1, .int a1), (3, .int v2)] [] (zq_shX j) z X (j_X3_readOne_75 N j X a1 rc v2) := by
            unfold j_X3_readOne_75
            refine zr_iload_n (pc := 75) (zq_d eX3_readOne 39 rfl) 1 rfl rfl ?_
            refine zr_iconst (pc := 76) (zq_d eX3_readOne 40 rfl) zc_i4 ?_
            refine zr_icmp_lt (pc := 77) 82 (zq_d eX3_readOne 41 rfl) (by decide) (fun _ => ?_) (fun _ => ?_)
            · refine zr_aload_n (pc := 82) (zq_d eX3_readOne 44 rfl) 0 rfl rfl ?_
              refine zr_dup (pc := 83) (zq_d eX3_readOne 45 rfl) rfl ?_
              refine zr_getI (pc := 84) (zq_d eX3_readOne 46 rfl) zf_RX3_35 (kx_28_2 j) ?_
              refine zr_iconst (pc := 87) (zq_d eX3_readOne 47 rfl) zc_i1 ?_
              refine zr_iadd (pc := 88) (zq_d eX3_readOne 48 rfl) ?_
              refine zr_putI (pc := 89) (zq_d eX3_readOne 49 rfl) zf_RX3_35 (kx_28_2 j) zn_3_2 (fun X3 => ?_)
              refine zr_iload_n (pc := 92) (zq_d eX3_readOne 50 rfl) 2 rfl rfl ?_
              refine zr_if_eq (pc := 93) 121 (zq_d eX3_readOne 51 rfl) (by decide) (fun _ => ?_) (fun _ => ?_)
              · refine zr_aload_n (pc := 121) (zq_d eX3_readOne 66 rfl) 0 rfl rfl ?_
                refine zr_iload_n (pc := 122) (zq_d eX3_readOne 67 rfl) 1 rfl rfl ?_
                refine zr_iconst (pc := 123) (zq_d eX3_readOne 68 rfl) zc_i1 ?_
                refine zr_iadd (pc := 124) (zq_d eX3_readOne 69 rfl) ?_
                refine zr_Wsi (pc := 125) [_] (zq_d eX3_readOne 70 rfl) (ih _ X3) zd_X3_readOne zl_RX3_79 (ox_28 j) rfl rfl rfl rfl (Nat.le_of_ble_eq_true rfl) (Nat.le_of_ble_eq_true rfl) (show (7 + 3 * n) + 1 ≤ 7 + 3 * (n + 1) by omega) ⟨Nat.le_refl _, Nat.le_refl _⟩ (fun v4 X5 => ?_)
                refine zr_if_ne (pc := 128) 133 (zq_d eX3_readOne 71 rfl) (by decide) (fun _ => ?_) (fun _ => ?_)
                · refine zr_aload_n (pc := 133) (zq_d eX3_readOne 74 rfl) 0 rfl rfl ?_
                  refine zr_getR (pc := 134) (zq_d eX3_readOne 75 rfl) zf_RX3_18 (kx_28_3 j) (fun h6 gh6 => ?_)
                  refine zr_iconst (pc := 137) (zq_d eX3_readOne 76 rfl) zc_im1 ?_
                  refine zr_Vv (pc := 138) [_] (zq_d eX3_readOne 77 rfl) (s_X2_addStep G N z j X5 h6 gh6 _) zd_X2_addStep zl_RX3_75 (zq_ho_s gh6) rfl rfl rfl rfl (Nat.le_of_ble_eq_true rfl) (Nat.le_of_ble_eq_true rfl) (show 1 + 1 ≤ 7 + 3 * (n + 1) by omega) ⟨Nat.le_refl _, Nat.le_refl _⟩ (fun X7 => ?_)
                  refine zr_iconst (pc := 141) (zq_d eX3_readOne 78 rfl) zc_i1 ?_
                  exact zr_zreturn (pc := 142) (zq_d eX3_readOne 79 rfl) rfl rfl rfl (Nat.zero_le _) (Nat.zero_le _)
                · refine zr_iconst (pc := 131) (zq_d eX3_readOne 72 rfl) zc_i0 ?_
                  exact zr_zreturn (pc := 132) (zq_d eX3_readOne 73 rfl) rfl rfl rfl (Nat.zero_le _) (Nat.zero_le _)
              · refine zr_aload_n (pc := 96) (zq_d eX3_readOne 52 rfl) 0 rfl rfl ?_
                refine zr_iload_n (pc := 97) (zq_d eX3_readOne 53 rfl) 1 rfl rfl ?_
                refine zr_iconst (pc := 98) (zq_d eX3_readOne 54 rfl) zc_i1 ?_
                refine zr_iadd (pc := 99) (zq_d eX3_readOne 55 rfl) ?_
                refine zr_Wsi (pc := 100) [_] (zq_d eX3_readOne 56 rfl) (s_X3_readAny G N z j (3 * n) rc ih X3 _) zd_X3_readAny zl_RX3_53 (ox_28 j) rfl rfl rfl rfl (Nat.le_of_ble_eq_true rfl) (Nat.le_of_ble_eq_true rfl) (show (7 + 3 * n + 2) + 1 ≤ 7 + 3 * (n + 1) by omega) ⟨Nat.le_refl _, Nat.le_refl _⟩ (fun v8 X9 => ?_)
                refine zr_if_eq (pc := 103) 119 (zq_d eX3_readOne 57 rfl) (by decide) (fun _ => ?_) (fun _ => ?_)
                · refine zr_iconst (pc := 119) (zq_d eX3_readOne 64 rfl) zc_i0 ?_
                  exact zr_zreturn (pc := 120) (zq_d eX3_readOne 65 rfl) rfl rfl rfl (Nat.zero_le _) (Nat.zero_le _)
                · refine zr_aload_n (pc := 106) (zq_d eX3_readOne 58 rfl) 0 rfl rfl ?_
                  refine zr_bipush (pc := 107) (zq_d eX3_readOne 59 rfl) zc_b41 ?_
                  refine zr_Wsi (pc := 109) [_] (zq_d eX3_readOne 60 rfl) (s_X3_eat G N z j X9 _) zd_X3_eat zl_RX3_42 (ox_28 j) rfl rfl rfl rfl (Nat.le_of_ble_eq_true rfl) (Nat.le_of_ble_eq_true rfl) (show 1 + 1 ≤ 7 + 3 * (n + 1) by omega) ⟨Nat.le_refl _, Nat.le_refl _⟩ (fun v10 X11 => ?_)
                  refine zr_if_eq (pc := 112) 119 (zq_d eX3_readOne 61 rfl) (by decide) (fun _ => ?_) (fun _ => ?_)
                  · refine zr_iconst (pc := 119) (zq_d eX3_readOne 64 rfl) zc_i0 ?_
                    exact zr_zreturn (pc := 120) (zq_d eX3_readOne 65 rfl) rfl rfl rfl (Nat.zero_le _) (Nat.zero_le _)
                  · refine zr_iconst (pc := 115) (zq_d eX3_readOne 62 rfl) zc_i1 ?_
                    refine zr_goto (pc := 116) 120 (zq_d eX3_readOne 63 rfl) (by decide) ?_
                    exact zr_zreturn (pc := 120) (zq_d eX3_readOne 65 rfl) rfl rfl rfl (Nat.zero_le _) (Nat.zero_le _)
            · refine zr_iconst (pc := 80) (zq_d eX3_readOne 42 rfl) zc_i0 ?_
              exact zr_zreturn (pc := 81) (zq_d eX3_readOne 43 rfl) rfl rfl rfl (Nat.zero_le _) (Nat.zero_le _)
          refine zr_if_ne (pc := 63) 75 (zq_d eX3_readOne 33 rfl) (by decide) (fun _ => ?_) (fun _ => ?_)
          · exact zr_lo [1, 2, 0] rfl (hj75_1)
          · refine zr_iload_n (pc := 66) (zq_d eX3_readOne 34 rfl) 0 rfl rfl ?_
            refine zr_if_ne (pc := 67) 75 (zq_d eX3_readOne 35 rfl) (by decide) (fun _ => ?_) (fun _ => ?_)
            · exact zr_lo [1, 2, 0] rfl (hj75_1)
            · refine zr_aload_n (pc := 70) (zq_d eX3_readOne 36 rfl) 1 rfl rfl ?_
              refine zr_Wsi (pc := 71) [] (zq_d eX3_readOne 37 rfl) (s_X3_readTest G N z j X ) zd_X3_readTest zl_RX3_82 (ox_28 j) rfl rfl rfl rfl (Nat.le_of_ble_eq_true rfl) (Nat.le_of_ble_eq_true rfl) (show 7 + 1 ≤ 7 + 3 * (n + 1) by omega) ⟨Nat.le_refl _, Nat.le_refl _⟩ (fun v12 X13 => ?_)
              exact zr_zreturnG (pc := 74) (zq_d eX3_readOne 38 rfl) rfl rfl (Nat.zero_le _) (Nat.zero_le _)
        refine zr_icmp_ge (pc := 39) 60 (zq_d eX3_readOne 20 rfl) (by decide) (fun _ => ?_) (fun _ => ?_)
        · refine zr_iconst (pc := 60) (zq_d eX3_readOne 30 rfl) zc_i0 ?_
          exact zr_lo [1, 2, 0] rfl (hj61_2 (0 : Int32))
        · refine zr_aload_n (pc := 42) (zq_d eX3_readOne 21 rfl) 1 rfl rfl ?_
          refine zr_getR (pc := 43) (zq_d eX3_readOne 22 rfl) zf_RX3_9 (kx_28_0 j) (fun h14 gh14 => ?_)
          refine zr_aload_n (pc := 46) (zq_d eX3_readOne 23 rfl) 1 rfl rfl ?_
          refine zr_getI (pc := 47) (zq_d eX3_readOne 24 rfl) zf_RX3_35 (kx_28_2 j) ?_
          refine zr_iald (pc := 50) (zq_d eX3_readOne 25 rfl) (zq_i100_s gh14) ?_
          refine zr_bipush (pc := 51) (zq_d eX3_readOne 26 rfl) zc_b40 ?_
          refine zr_icmp_ne (pc := 53) 60 (zq_d eX3_readOne 27 rfl) (by decide) (fun _ => ?_) (fun _ => ?_)
          · refine zr_iconst (pc := 60) (zq_d eX3_readOne 30 rfl) zc_i0 ?_
            exact zr_lo [1, 2, 0] rfl (hj61_2 (0 : Int32))
          · refine zr_iconst (pc := 56) (zq_d eX3_readOne 28 rfl) zc_i1 ?_
            refine zr_goto (pc := 57) 61 (zq_d eX3_readOne 29 rfl) (by decide) ?_
            exact zr_lo [1, 2, 0] rfl (hj61_2 (1 : Int32))
      refine zr_icmp_ge (pc := 8) 29 (zq_d eX3_readOne 4 rfl) (by decide) (fun _ => ?_) (fun _ => ?_)
      · refine zr_iconst (pc := 29) (zq_d eX3_readOne 14 rfl) zc_i0 ?_
        exact zr_lo [0, 1] rfl (hj30_3 (0 : Int32))
      · refine zr_aload_n (pc := 11) (zq_d eX3_readOne 5 rfl) 0 rfl rfl ?_
        refine zr_getR (pc := 12) (zq_d eX3_readOne 6 rfl) zf_RX3_9 (kx_28_0 j) (fun h15 gh15 => ?_)
        refine zr_aload_n (pc := 15) (zq_d eX3_readOne 7 rfl) 0 rfl rfl ?_
        refine zr_getI (pc := 16) (zq_d eX3_readOne 8 rfl) zf_RX3_35 (kx_28_2 j) ?_
        refine zr_iald (pc := 19) (zq_d eX3_readOne 9 rfl) (zq_i100_s gh15) ?_
        refine zr_bipush (pc := 20) (zq_d eX3_readOne 10 rfl) zc_b33 ?_
        refine zr_icmp_ne (pc := 22) 29 (zq_d eX3_readOne 11 rfl) (by decide) (fun _ => ?_) (fun _ => ?_)
        · refine zr_iconst (pc := 29) (zq_d eX3_readOne 14 rfl) zc_i0 ?_
          exact zr_lo [0, 1] rfl (hj30_3 (0 : Int32))
        · refine zr_iconst (pc := 25) (zq_d eX3_readOne 12 rfl) zc_i1 ?_
          refine zr_goto (pc := 26) 30 (zq_d eX3_readOne 13 rfl) (by decide) ?_
          exact zr_lo [0, 1] rfl (hj30_3 (1 : Int32))
theorem s_X3_readOne (G : zq_G) (N z j : Nat) (X : zq_M) (a1 : Int32) : zq_V G YX3_readOne (199, 0, 0) (zq_si (zq_shX j) z) 0 0 0 (lv_args 0 [.ref (zq_ad G 28), .int a1]) [] (zq_shX j) z X (f_X3_readOne N j X a1) := r_X3_readOne G N z j 64 a1 X
def j_X3_readClause_66 (N : Nat) (j : Nat) (v1 : Int32) (v3 : Int32) (X5 : zq_M) : Option (Int32 × zq_M) :=
  zq_nn (X5.2.2 28 3) (zq_ho (zq_shX j)) (fun h6 => (f_X2_addClause N j X5 h6 v1 v3).bind (fun X7 => some ((1 : Int32), X7)))
def j_X3_readClause_36 (N : Nat) (j : Nat) (v1 : Int32) (v3 : Int32) (X4 : zq_M) : Option (Int32 × zq_M) :=
  if 0 ≤ v3 then (if v1 = (3 : Int32) then (j_X3_readClause_66 N j v1 v3 X4) else ((f_X3_eat N j X4 (32 : Int32)).bind (zq_p (fun v8 X9 => if v8 = 0 then (some ((0 : Int32), X9)) else ((f_X3_readAny N j (fr_X3_readOne N j) X9 (0 : Int32)).bind (zq_p (fun v10 X11 => if ¬ v10 = 0 then (j_X3_readClause_66 N j v1 v3 X11) else (some ((0 : Int32), X11))))))))) else (some ((0 : Int32), X4))
def f_X3_readClause (N j : Nat) (X : zq_M)  : Option (Int32 × zq_M) :=
  (f_X3_readWord N j X).bind (zq_p (fun v1 X2 => if 0 ≤ v1 then (if v1 = (1 : Int32) then (j_X3_readClause_36 N j v1 (0 : Int32) X2) else ((f_X3_eat N j X2 (32 : Int32)).bind (zq_p (fun v12 X13 => if v12 = 0 then (j_X3_readClause_36 N j v1 (-1 : Int32) X13) else ((f_X3_readNumber N j X13).bind (zq_p (fun v14 X15 => j_X3_readClause_36 N j v1 v14 X15))))))) else (some ((0 : Int32), X2))))
set_option maxRecDepth 20000 in
set_option maxHeartbeats 8000000 in
theorem s_X3_readClause (G : zq_G) (N z j : Nat) (X : zq_M)  : zq_V G YX3_readClause (202, 0, 0) (zq_si (zq_shX j) z) 0 0 0 (lv_args 0 [.ref (zq_ad G 28)]) [] (zq_shX j) z X (f_X3_readClause N j X ) := by
  unfold f_X3_readClause
  refine zr_lo (l2 := [(0, .ref (zq_ad G 28))]) [0] rfl ?_
  refine zr_aload_n (pc := 0) (zq_d eX3_readClause 0 rfl) 0 rfl rfl ?_
  refine zr_Wsi (pc := 1) [] (zq_d eX3_readClause 1 rfl) (s_X3_readWord G N z j X ) zd_X3_readWord zl_RX3_46 (ox_28 j) rfl rfl rfl rfl (Nat.le_of_ble_eq_true rfl) (Nat.le_of_ble_eq_true rfl) (Nat.le_of_ble_eq_true rfl) ⟨Nat.le_refl _, Nat.le_refl _⟩ (fun v1 X2 => ?_)
  refine zr_istore_n (pc := 4) (lo2 := [(1, .int v1), (0, .ref (zq_ad G 28))]) (zq_d eX3_readClause 2 rfl) rfl (Nat.le_of_ble_eq_true rfl) rfl ?_
  refine zr_iload_n (pc := 5) (zq_d eX3_readClause 3 rfl) 0 rfl rfl ?_
  refine zr_if_ge (pc := 6) 11 (zq_d eX3_readClause 4 rfl) (by decide) (fun _ => ?_) (fun _ => ?_)
  · refine zr_iconst (pc := 11) (zq_d eX3_readClause 7 rfl) zc_i0 ?_
    refine zr_istore_n (pc := 12) (lo2 := [(2, .int (0 : Int32)), (1, .int v1), (0, .ref (zq_ad G 28))]) (zq_d eX3_readClause 8 rfl) rfl (Nat.le_of_ble_eq_true rfl) rfl ?_
    refine zr_iload_n (pc := 13) (zq_d eX3_readClause 9 rfl) 1 rfl rfl ?_
    refine zr_iconst (pc := 14) (zq_d eX3_readClause 10 rfl) zc_i1 ?_
    have hj36_2 : ∀ (v3 : Int32) (X4 : zq_M), zq_V G YX3_readClause (202, 0, 0) (zq_si (zq_shX j) z) 0 0 36 [(0, .ref (zq_ad G 28)), (1, .int v1), (2, .int v3)] [] (zq_shX j) z X4 (j_X3_readClause_36 N j v1 v3 X4) := by
      intro v3 X4
      unfold j_X3_readClause_36
      refine zr_iload_n (pc := 36) (zq_d eX3_readClause 21 rfl) 2 rfl rfl ?_
      refine zr_if_ge (pc := 37) 42 (zq_d eX3_readClause 22 rfl) (by decide) (fun _ => ?_) (fun _ => ?_)
      · refine zr_iload_n (pc := 42) (zq_d eX3_readClause 25 rfl) 1 rfl rfl ?_
        refine zr_iconst (pc := 43) (zq_d eX3_readClause 26 rfl) zc_i3 ?_
        have hj66_1 : ∀ (X5 : zq_M), zq_V G YX3_readClause (202, 0, 0) (zq_si (zq_shX j) z) 0 0 66 [(0, .ref (zq_ad G 28)), (1, .int v1), (2, .int v3)] [] (zq_shX j) z X5 (j_X3_readClause_66 N j v1 v3 X5) := by
          intro X5
          unfold j_X3_readClause_66
          refine zr_aload_n (pc := 66) (zq_d eX3_readClause 38 rfl) 0 rfl rfl ?_
          refine zr_getR (pc := 67) (zq_d eX3_readClause 39 rfl) zf_RX3_18 (kx_28_3 j) (fun h6 gh6 => ?_)
          refine zr_iload_n (pc := 70) (zq_d eX3_readClause 40 rfl) 1 rfl rfl ?_
          refine zr_iload_n (pc := 71) (zq_d eX3_readClause 41 rfl) 2 rfl rfl ?_
          refine zr_Vv (pc := 72) [_, _] (zq_d eX3_readClause 42 rfl) (s_X2_addClause G N z j X5 h6 gh6 _ _) zd_X2_addClause zl_RX3_56 (zq_ho_s gh6) rfl rfl rfl rfl (Nat.le_of_ble_eq_true rfl) (Nat.le_of_ble_eq_true rfl) (Nat.le_of_ble_eq_true rfl) ⟨Nat.le_refl _, Nat.le_refl _⟩ (fun X7 => ?_)
          refine zr_iconst (pc := 75) (zq_d eX3_readClause 43 rfl) zc_i1 ?_
          exact zr_zreturn (pc := 76) (zq_d eX3_readClause 44 rfl) rfl rfl rfl (Nat.zero_le _) (Nat.zero_le _)
        refine zr_icmp_eq (pc := 44) 66 (zq_d eX3_readClause 27 rfl) (by decide) (fun _ => ?_) (fun _ => ?_)
        · exact zr_lo [0, 1, 2] rfl (hj66_1 X4)
        · refine zr_aload_n (pc := 47) (zq_d eX3_readClause 28 rfl) 0 rfl rfl ?_
          refine zr_bipush (pc := 48) (zq_d eX3_readClause 29 rfl) zc_b32 ?_
          refine zr_Wsi (pc := 50) [_] (zq_d eX3_readClause 30 rfl) (s_X3_eat G N z j X4 _) zd_X3_eat zl_RX3_42 (ox_28 j) rfl rfl rfl rfl (Nat.le_of_ble_eq_true rfl) (Nat.le_of_ble_eq_true rfl) (Nat.le_of_ble_eq_true rfl) ⟨Nat.le_refl _, Nat.le_refl _⟩ (fun v8 X9 => ?_)
          refine zr_if_eq (pc := 53) 64 (zq_d eX3_readClause 31 rfl) (by decide) (fun _ => ?_) (fun _ => ?_)
          · refine zr_iconst (pc := 64) (zq_d eX3_readClause 36 rfl) zc_i0 ?_
            exact zr_zreturn (pc := 65) (zq_d eX3_readClause 37 rfl) rfl rfl rfl (Nat.zero_le _) (Nat.zero_le _)
          · refine zr_aload_n (pc := 56) (zq_d eX3_readClause 32 rfl) 0 rfl rfl ?_
            refine zr_iconst (pc := 57) (zq_d eX3_readClause 33 rfl) zc_i0 ?_
            refine zr_Wsi (pc := 58) [_] (zq_d eX3_readClause 34 rfl) (s_X3_readAny G N z j 192 (fr_X3_readOne N j) (r_X3_readOne G N z j 64) X9 _) zd_X3_readAny zl_RX3_53 (ox_28 j) rfl rfl rfl rfl (Nat.le_of_ble_eq_true rfl) (Nat.le_of_ble_eq_true rfl) (Nat.le_of_ble_eq_true rfl) ⟨Nat.le_refl _, Nat.le_refl _⟩ (fun v10 X11 => ?_)
            refine zr_if_ne (pc := 61) 66 (zq_d eX3_readClause 35 rfl) (by decide) (fun _ => ?_) (fun _ => ?_)
            · exact zr_lo [0, 1, 2] rfl (hj66_1 X11)
            · refine zr_iconst (pc := 64) (zq_d eX3_readClause 36 rfl) zc_i0 ?_
              exact zr_zreturn (pc := 65) (zq_d eX3_readClause 37 rfl) rfl rfl rfl (Nat.zero_le _) (Nat.zero_le _)
      · refine zr_iconst (pc := 40) (zq_d eX3_readClause 23 rfl) zc_i0 ?_
        exact zr_zreturn (pc := 41) (zq_d eX3_readClause 24 rfl) rfl rfl rfl (Nat.zero_le _) (Nat.zero_le _)
    refine zr_icmp_eq (pc := 15) 36 (zq_d eX3_readClause 11 rfl) (by decide) (fun _ => ?_) (fun _ => ?_)
    · exact zr_lo [2, 1, 0] rfl (hj36_2 (0 : Int32) X2)
    · refine zr_aload_n (pc := 18) (zq_d eX3_readClause 12 rfl) 2 rfl rfl ?_
      refine zr_bipush (pc := 19) (zq_d eX3_readClause 13 rfl) zc_b32 ?_
      refine zr_Wsi (pc := 21) [_] (zq_d eX3_readClause 14 rfl) (s_X3_eat G N z j X2 _) zd_X3_eat zl_RX3_42 (ox_28 j) rfl rfl rfl rfl (Nat.le_of_ble_eq_true rfl) (Nat.le_of_ble_eq_true rfl) (Nat.le_of_ble_eq_true rfl) ⟨Nat.le_refl _, Nat.le_refl _⟩ (fun v12 X13 => ?_)
      refine zr_if_eq (pc := 24) 34 (zq_d eX3_readClause 15 rfl) (by decide) (fun _ => ?_) (fun _ => ?_)
      · refine zr_iconst (pc := 34) (zq_d eX3_readClause 19 rfl) zc_im1 ?_
        refine zr_istore_n (pc := 35) (lo2 := [(2, .int (-1 : Int32)), (1, .int v1), (0, .ref (zq_ad G 28))]) (zq_d eX3_readClause 20 rfl) rfl (Nat.le_of_ble_eq_true rfl) rfl ?_
        exact zr_lo [2, 1, 0] rfl (hj36_2 (-1 : Int32) X13)
      · refine zr_aload_n (pc := 27) (zq_d eX3_readClause 16 rfl) 2 rfl rfl ?_
        refine zr_Wsi (pc := 28) [] (zq_d eX3_readClause 17 rfl) (s_X3_readNumber G N z j X13 ) zd_X3_readNumber zl_RX3_50 (ox_28 j) rfl rfl rfl rfl (Nat.le_of_ble_eq_true rfl) (Nat.le_of_ble_eq_true rfl) (Nat.le_of_ble_eq_true rfl) ⟨Nat.le_refl _, Nat.le_refl _⟩ (fun v14 X15 => ?_)
        refine zr_goto (pc := 31) 35 (zq_d eX3_readClause 18 rfl) (by decide) ?_
        refine zr_istore_n (pc := 35) (lo2 := [(2, .int v14), (1, .int v1), (0, .ref (zq_ad G 28))]) (zq_d eX3_readClause 20 rfl) rfl (Nat.le_of_ble_eq_true rfl) rfl ?_
        exact zr_lo [2, 1, 0] rfl (hj36_2 v14 X15)
  · refine zr_iconst (pc := 9) (zq_d eX3_readClause 5 rfl) zc_i0 ?_
    exact zr_zreturn (pc := 10) (zq_d eX3_readClause 6 rfl) rfl rfl rfl (Nat.zero_le _) (Nat.zero_le _)
def b_X3_readInto_35 (N : Nat) (j : Nat) (rc35_1 : Int32 → zq_M → Option (Int32 × zq_M)) (v7 : Int32) (X8 : zq_M) : Option (Int32 × zq_M) :=
  if (10 : Int32) ≤ v7 then (some ((X8.1 28 2), X8)) else ((f_X3_readClause N j X8).bind (zq_p (fun v9 X10 => if ¬ v9 = 0 then (if ¬ (X10.1 28 2) = (X10.1 28 1) then (if v7 = (9 : Int32) then (some ((X10.1 28 2), X10)) else ((f_X3_eat N j X10 (59 : Int32)).bind (zq_p (fun v11 X12 => if ¬ v11 = 0 then (rc35_1 (v7 + (1 : Int32)) X12) else (some ((X12.1 28 2), X12)))))) else (some ((-1 : Int32), X10))) else (some ((X10.1 28 2), X10)))))
def f_X3_readInto (N j : Nat) (X : zq_M) (a1 : Nat) (a3 : Int32) : Option (Int32 × zq_M) :=
  zq_b (zq_u3 X 28 3 (some a1)) (fun X1 => zq_nn (X1.2.2 28 3) (zq_ho (zq_shX j)) (fun h2 => (f_X2_forget N j X1 h2).bind (fun X3 => zq_b (zq_u3 X3 28 0 (some 21)) (fun X4 => zq_b (zq_u1 X4 28 1 (if (100 : Int32) < a3 then (100 : Int32) else a3)) (fun X5 => zq_b (zq_u1 X5 28 2 (0 : Int32)) (fun X6 => zq_loop (fun _ _ => none) (b_X3_readInto_35 N j) N (0 : Int32) X6))))))
set_option maxRecDepth 20000 in
set_option maxHeartbeats 8000000 in
theorem s_X3_readInto (G : zq_G) (N z j : Nat) (X : zq_M) (a1 : Nat) (ga1 : zq_ho (zq_shX j) a1 = true) (a3 : Int32) : zq_V G YX3_readInto (203, 0, 0) (zq_si (zq_shX j) z) 0 0 0 (lv_args 0 [.ref (zq_ad G 28), .ref (zq_ad G a1), .ref (zq_ad G 21), .int a3]) [] (zq_shX j) z X (f_X3_readInto N j X a1 a3) := by
  unfold f_X3_readInto
  refine zr_lo (l2 := [(0, .ref (zq_ad G 28)), (1, .ref (zq_ad G a1)), (2, .ref (zq_ad G 21)), (3, .int a3)]) [0, 1, 2, 3] rfl ?_
  refine zr_aload_n (pc := 0) (zq_d eX3_readInto 0 rfl) 0 rfl rfl ?_
  refine zr_aload_n (pc := 1) (zq_d eX3_readInto 1 rfl) 1 rfl rfl ?_
  refine zr_putR (pc := 2) (zq_d eX3_readInto 2 rfl) zf_RX3_18 (kx_28_3 j) zn_3_3 rfl rfl (fun X1 => ?_)
  refine zr_aload_n (pc := 5) (zq_d eX3_readInto 3 rfl) 0 rfl rfl ?_
  refine zr_getR (pc := 6) (zq_d eX3_readInto 4 rfl) zf_RX3_18 (kx_28_3 j) (fun h2 gh2 => ?_)
  refine zr_Vv (pc := 9) [] (zq_d eX3_readInto 5 rfl) (s_X2_forget G N z j X1 h2 gh2) zd_X2_forget zl_RX3_22 (zq_ho_s gh2) rfl rfl rfl rfl (Nat.le_of_ble_eq_true rfl) (Nat.le_of_ble_eq_true rfl) (Nat.le_of_ble_eq_true rfl) ⟨Nat.le_refl _, Nat.le_refl _⟩ (fun X3 => ?_)
  refine zr_aload_n (pc := 12) (zq_d eX3_readInto 6 rfl) 0 rfl rfl ?_
  refine zr_aload_n (pc := 13) (zq_d eX3_readInto 7 rfl) 2 rfl rfl ?_
  refine zr_putR (pc := 14) (zq_d eX3_readInto 8 rfl) zf_RX3_9 (kx_28_0 j) zn_3_0 rfl rfl (fun X4 => ?_)
  refine zr_aload_n (pc := 17) (zq_d eX3_readInto 9 rfl) 0 rfl rfl ?_
  refine zr_iload_n (pc := 18) (zq_d eX3_readInto 10 rfl) 3 rfl rfl ?_
  refine zr_aload_n (pc := 19) (zq_d eX3_readInto 11 rfl) 2 rfl rfl ?_
  refine zr_alen (pc := 20) (v := (100 : Int32)) (zq_d eX3_readInto 12 rfl) (ax_21 j) (Nat.le_of_ble_eq_true rfl) (by decide) ?_
  refine zr_min (pc := 21) (zq_d eX3_readInto 13 rfl) zl_RX3_25 zx_min1 zx_min2 zx_min3 (Nat.le_of_ble_eq_true rfl) (Nat.le_of_ble_eq_true rfl) ⟨Nat.le_refl _, Nat.le_refl _⟩ ?_
  refine zr_putI (pc := 24) (zq_d eX3_readInto 14 rfl) zf_RX3_31 (kx_28_1 j) zn_3_1 (fun X5 => ?_)
  refine zr_aload_n (pc := 27) (zq_d eX3_readInto 15 rfl) 0 rfl rfl ?_
  refine zr_iconst (pc := 28) (zq_d eX3_readInto 16 rfl) zc_i0 ?_
  refine zr_putI (pc := 29) (zq_d eX3_readInto 17 rfl) zf_RX3_35 (kx_28_2 j) zn_3_2 (fun X6 => ?_)
  refine zr_iconst (pc := 32) (zq_d eX3_readInto 18 rfl) zc_i0 ?_
  refine zr_istore (pc := 33) (lo2 := [(4, .int (0 : Int32)), (0, .ref (zq_ad G 28)), (1, .ref (zq_ad G a1)), (2, .ref (zq_ad G 21)), (3, .int a3)]) (zq_d eX3_readInto 19 rfl) (Nat.le_of_ble_eq_true rfl) rfl ?_
  have hbrc35_1 : ∀ rc35_1 : Int32 → zq_M → Option (Int32 × zq_M), (∀ (v7 : Int32) (X8 : zq_M), zq_V G YX3_readInto (203, 0, 0) (zq_si (zq_shX j) z) 0 0 35 [(0, .ref (zq_ad G 28)), (4, .int v7)] [] (zq_shX j) z X8 (rc35_1 v7 X8)) → ∀ (v7 : Int32) (X8 : zq_M), zq_V G YX3_readInto (203, 0, 0) (zq_si (zq_shX j) z) 0 0 35 [(0, .ref (zq_ad G 28)), (4, .int v7)] [] (zq_shX j) z X8 (b_X3_readInto_35 N j rc35_1 v7 X8) := by
    intro rc35_1 hrc35_1 v7 X8
    unfold b_X3_readInto_35
    refine zr_iload (pc := 35) (zq_d eX3_readInto 20 rfl) 1 rfl ?_
    refine zr_bipush (pc := 37) (zq_d eX3_readInto 21 rfl) zc_b10 ?_
    refine zr_icmp_ge (pc := 39) 94 (zq_d eX3_readInto 22 rfl) (by decide) (fun _ => ?_) (fun _ => ?_)
    · refine zr_aload_n (pc := 94) (zq_d eX3_readInto 48 rfl) 0 rfl rfl ?_
      refine zr_getI (pc := 95) (zq_d eX3_readInto 49 rfl) zf_RX3_35 (kx_28_2 j) ?_
      exact zr_ireturn (pc := 98) (zq_d eX3_readInto 50 rfl) rfl rfl (Nat.zero_le _) (Nat.zero_le _)
    · refine zr_aload_n (pc := 42) (zq_d eX3_readInto 23 rfl) 0 rfl rfl ?_
      refine zr_Wsi (pc := 43) [] (zq_d eX3_readInto 24 rfl) (s_X3_readClause G N z j X8 ) zd_X3_readClause zl_RX3_38 (ox_28 j) rfl rfl rfl rfl (Nat.le_of_ble_eq_true rfl) (Nat.le_of_ble_eq_true rfl) (Nat.le_of_ble_eq_true rfl) ⟨Nat.le_refl _, Nat.le_refl _⟩ (fun v9 X10 => ?_)
      refine zr_if_ne (pc := 46) 54 (zq_d eX3_readInto 25 rfl) (by decide) (fun _ => ?_) (fun _ => ?_)
      · refine zr_aload_n (pc := 54) (zq_d eX3_readInto 29 rfl) 0 rfl rfl ?_
        refine zr_getI (pc := 55) (zq_d eX3_readInto 30 rfl) zf_RX3_35 (kx_28_2 j) ?_
        refine zr_aload_n (pc := 58) (zq_d eX3_readInto 31 rfl) 0 rfl rfl ?_
        refine zr_getI (pc := 59) (zq_d eX3_readInto 32 rfl) zf_RX3_31 (kx_28_1 j) ?_
        refine zr_icmp_ne (pc := 62) 67 (zq_d eX3_readInto 33 rfl) (by decide) (fun _ => ?_) (fun _ => ?_)
        · refine zr_iload (pc := 67) (zq_d eX3_readInto 36 rfl) 1 rfl ?_
          refine zr_bipush (pc := 69) (zq_d eX3_readInto 37 rfl) zc_b9 ?_
          refine zr_icmp_eq (pc := 71) 83 (zq_d eX3_readInto 38 rfl) (by decide) (fun _ => ?_) (fun _ => ?_)
          · refine zr_aload_n (pc := 83) (zq_d eX3_readInto 43 rfl) 0 rfl rfl ?_
            refine zr_getI (pc := 84) (zq_d eX3_readInto 44 rfl) zf_RX3_35 (kx_28_2 j) ?_
            exact zr_ireturn (pc := 87) (zq_d eX3_readInto 45 rfl) rfl rfl (Nat.zero_le _) (Nat.zero_le _)
          · refine zr_aload_n (pc := 74) (zq_d eX3_readInto 39 rfl) 0 rfl rfl ?_
            refine zr_bipush (pc := 75) (zq_d eX3_readInto 40 rfl) zc_b59 ?_
            refine zr_Wsi (pc := 77) [_] (zq_d eX3_readInto 41 rfl) (s_X3_eat G N z j X10 _) zd_X3_eat zl_RX3_42 (ox_28 j) rfl rfl rfl rfl (Nat.le_of_ble_eq_true rfl) (Nat.le_of_ble_eq_true rfl) (Nat.le_of_ble_eq_true rfl) ⟨Nat.le_refl _, Nat.le_refl _⟩ (fun v11 X12 => ?_)
            refine zr_if_ne (pc := 80) 88 (zq_d eX3_readInto 42 rfl) (by decide) (fun _ => ?_) (fun _ => ?_)
            · refine zr_iinc (pc := 88) (j := 1) (v := (v7 + (1 : Int32))) (lo2 := [(4, .int (v7 + (1 : Int32))), (0, .ref (zq_ad G 28))]) (zq_d eX3_readInto 46 rfl) rfl (by rw [zc_i1]) (Nat.le_of_ble_eq_true rfl) rfl ?_
              refine zr_goto (pc := 91) 35 (zq_d eX3_readInto 47 rfl) (by decide) ?_
              exact zr_lo [1, 0] rfl (hrc35_1 (v7 + (1 : Int32)) X12)
            · refine zr_aload_n (pc := 83) (zq_d eX3_readInto 43 rfl) 0 rfl rfl ?_
              refine zr_getI (pc := 84) (zq_d eX3_readInto 44 rfl) zf_RX3_35 (kx_28_2 j) ?_
              exact zr_ireturn (pc := 87) (zq_d eX3_readInto 45 rfl) rfl rfl (Nat.zero_le _) (Nat.zero_le _)
        · refine zr_iconst (pc := 65) (zq_d eX3_readInto 34 rfl) zc_im1 ?_
          exact zr_ireturn (pc := 66) (zq_d eX3_readInto 35 rfl) rfl rfl (Nat.zero_le _) (Nat.zero_le _)
      · refine zr_aload_n (pc := 49) (zq_d eX3_readInto 26 rfl) 0 rfl rfl ?_
        refine zr_getI (pc := 50) (zq_d eX3_readInto 27 rfl) zf_RX3_35 (kx_28_2 j) ?_
        exact zr_ireturn (pc := 53) (zq_d eX3_readInto 28 rfl) rfl rfl (Nat.zero_le _) (Nat.zero_le _)
  have hlrc35_1 := zr_loop (P := fun (rc35_1 : Int32 → zq_M → Option (Int32 × zq_M)) => ∀ (v7 : Int32) (X8 : zq_M), zq_V G YX3_readInto (203, 0, 0) (zq_si (zq_shX j) z) 0 0 35 [(0, .ref (zq_ad G 28)), (4, .int v7)] [] (zq_shX j) z X8 (rc35_1 v7 X8)) (fun _ _ => none) (b_X3_readInto_35 N j) (fun _ _ => zr_none) hbrc35_1 N
  exact zr_lo [1, 0] rfl (hlrc35_1 (0 : Int32) X6)
def k_X4_isMiddle_52_2 (N : Nat) (j : Nat) (X : zq_M) (a2 : Int32) (v1 : Int32)  : Option Int32 :=
  (f_J6_bitCount_0f7a4 N (zq_shX j) X a2).bind (fun v3 => if ¬ v1 = (v3 / (2 : Int32)) then (some (0 : Int32)) else (some (1 : Int32)))
def b_X4_isMiddle_5 (N : Nat) (j : Nat) (X : zq_M) (a1 : Int32) (a2 : Int32) (rc5_1 : Int32 → Int32 → Option Int32) (v1 : Int32) (v2 : Int32) : Option Int32 :=
  if (X.1 1 0) ≤ v2 then (k_X4_isMiddle_52_2 N j X a2 v1) else (if ¬ ((zq_shr a2 v2) &&& (1 : Int32)) = (1 : Int32) then (rc5_1 v1 (v2 + (1 : Int32))) else (zq_ck v2 5 (zq_ck a1 5 (if (X.1 53 (zq_ix a1)) ≤ (X.1 53 (zq_ix v2)) then (rc5_1 v1 (v2 + (1 : Int32))) else (rc5_1 (v1 + (1 : Int32)) (v2 + (1 : Int32)))))))
def f_X4_isMiddle (N j : Nat) (X : zq_M) (a1 : Int32) (a2 : Int32) : Option Int32 :=
  zq_loop (fun _ _ => none) (b_X4_isMiddle_5 N j X a1 a2) N (0 : Int32) (0 : Int32)
set_option maxRecDepth 20000 in
set_option maxHeartbeats 8000000 in
theorem s_X4_isMiddle (G : zq_G) (N z j : Nat) (X : zq_M) (a1 : Int32) (a2 : Int32) : zq_V G YX4_isMiddle (2, 0, 0) (zq_ei (zq_shX j) z X) 0 0 0 (lv_args 0 [.ref (zq_ad G 52), .int a1, .int a2]) [] (zq_shX j) z X (f_X4_isMiddle N j X a1 a2) := by
  unfold f_X4_isMiddle
  refine zr_lo (l2 := [(0, .ref (zq_ad G 52)), (1, .int a1), (2, .int a2)]) [0, 1, 2] rfl ?_
  refine zr_iconst (pc := 0) (zq_d eX4_isMiddle 0 rfl) zc_i0 ?_
  refine zr_istore_n (pc := 1) (lo2 := [(3, .int (0 : Int32)), (0, .ref (zq_ad G 52)), (1, .int a1), (2, .int a2)]) (zq_d eX4_isMiddle 1 rfl) rfl (Nat.le_of_ble_eq_true rfl) rfl ?_
  refine zr_iconst (pc := 2) (zq_d eX4_isMiddle 2 rfl) zc_i0 ?_
  refine zr_istore (pc := 3) (lo2 := [(4, .int (0 : Int32)), (3, .int (0 : Int32)), (0, .ref (zq_ad G 52)), (1, .int a1), (2, .int a2)]) (zq_d eX4_isMiddle 3 rfl) (Nat.le_of_ble_eq_true rfl) rfl ?_
  have hbrc5_1 : ∀ rc5_1 : Int32 → Int32 → Option Int32, (∀ (v1 : Int32) (v2 : Int32), zq_V G YX4_isMiddle (2, 0, 0) (zq_ei (zq_shX j) z X) 0 0 5 [(0, .ref (zq_ad G 52)), (1, .int a1), (2, .int a2), (3, .int v1), (4, .int v2)] [] (zq_shX j) z X (rc5_1 v1 v2)) → ∀ (v1 : Int32) (v2 : Int32), zq_V G YX4_isMiddle (2, 0, 0) (zq_ei (zq_shX j) z X) 0 0 5 [(0, .ref (zq_ad G 52)), (1, .int a1), (2, .int a2), (3, .int v1), (4, .int v2)] [] (zq_shX j) z X (b_X4_isMiddle_5 N j X a1 a2 rc5_1 v1 v2) := by
    intro rc5_1 hrc5_1 v1 v2
    unfold b_X4_isMiddle_5
    refine zr_iload (pc := 5) (zq_d eX4_isMiddle 4 rfl) 4 rfl ?_
    refine zr_aload_n (pc := 7) (zq_d eX4_isMiddle 5 rfl) 0 rfl rfl ?_
    refine zr_getC (pc := 8) (zq_d eX4_isMiddle 6 rfl) zf_RX4_15 (kx_52_0 j) ?_
    refine zr_getI (pc := 11) (zq_d eX4_isMiddle 7 rfl) zf_RX4_23 (kx_1_0 j) ?_
    refine zr_icmp_ge (pc := 14) 52 (zq_d eX4_isMiddle 8 rfl) (by decide) (fun _ => ?_) (fun _ => ?_)
    · unfold k_X4_isMiddle_52_2
      refine zr_iload_n (pc := 52) (zq_d eX4_isMiddle 28 rfl) 3 rfl rfl ?_
      refine zr_iload_n (pc := 53) (zq_d eX4_isMiddle 29 rfl) 2 rfl rfl ?_
      refine zr_Si (pc := 54) [_] (zq_d eX4_isMiddle 30 rfl) (s_J6_bitCount_0f7a4 G N z (zq_shX j) X _) zd_J6_bitCount_0f7a4 zl_RX4_46 rfl rfl (Nat.le_of_ble_eq_true rfl) (Nat.le_of_ble_eq_true rfl) (Nat.le_of_ble_eq_true rfl) ⟨Nat.le_refl _, Nat.le_refl _⟩ (fun v3 => ?_)
      refine zr_iconst (pc := 57) (zq_d eX4_isMiddle 31 rfl) zc_i2 ?_
      refine zr_idivk (pc := 58) (zq_d eX4_isMiddle 32 rfl) (by decide) ?_
      refine zr_icmp_ne (pc := 59) 66 (zq_d eX4_isMiddle 33 rfl) (by decide) (fun _ => ?_) (fun _ => ?_)
      · refine zr_iconst (pc := 66) (zq_d eX4_isMiddle 36 rfl) zc_i0 ?_
        exact zr_zreturn (pc := 67) (zq_d eX4_isMiddle 37 rfl) rfl rfl rfl (Nat.zero_le _) (Nat.zero_le _)
      · refine zr_iconst (pc := 62) (zq_d eX4_isMiddle 34 rfl) zc_i1 ?_
        refine zr_goto (pc := 63) 67 (zq_d eX4_isMiddle 35 rfl) (by decide) ?_
        exact zr_zreturn (pc := 67) (zq_d eX4_isMiddle 37 rfl) rfl rfl rfl (Nat.zero_le _) (Nat.zero_le _)
    · refine zr_iload_n (pc := 17) (zq_d eX4_isMiddle 9 rfl) 2 rfl rfl ?_
      refine zr_iload (pc := 18) (zq_d eX4_isMiddle 10 rfl) 4 rfl ?_
      refine zr_ishr (pc := 20) (zq_d eX4_isMiddle 11 rfl) ?_
      refine zr_iconst (pc := 21) (zq_d eX4_isMiddle 12 rfl) zc_i1 ?_
      refine zr_iand (pc := 22) (zq_d eX4_isMiddle 13 rfl) ?_
      refine zr_iconst (pc := 23) (zq_d eX4_isMiddle 14 rfl) zc_i1 ?_
      refine zr_icmp_ne (pc := 24) 46 (zq_d eX4_isMiddle 15 rfl) (by decide) (fun _ => ?_) (fun _ => ?_)
      · refine zr_iinc (pc := 46) (j := 4) (v := (v2 + (1 : Int32))) (lo2 := [(4, .int (v2 + (1 : Int32))), (0, .ref (zq_ad G 52)), (1, .int a1), (2, .int a2), (3, .int v1)]) (zq_d eX4_isMiddle 26 rfl) rfl (by rw [zc_i1]) (Nat.le_of_ble_eq_true rfl) rfl ?_
        refine zr_goto (pc := 49) 5 (zq_d eX4_isMiddle 27 rfl) (by decide) ?_
        exact zr_lo [1, 2, 3, 4, 0] rfl (hrc5_1 v1 (v2 + (1 : Int32)))
      · refine zr_aload_n (pc := 27) (zq_d eX4_isMiddle 16 rfl) 0 rfl rfl ?_
        refine zr_getC (pc := 28) (zq_d eX4_isMiddle 17 rfl) zf_RX4_9 (kx_52_1 j) ?_
        refine zr_iload (pc := 31) (zq_d eX4_isMiddle 18 rfl) 4 rfl ?_
        refine zr_iald (pc := 33) (zq_d eX4_isMiddle 19 rfl) (ax_53 j) ?_
        refine zr_aload_n (pc := 34) (zq_d eX4_isMiddle 20 rfl) 0 rfl rfl ?_
        refine zr_getC (pc := 35) (zq_d eX4_isMiddle 21 rfl) zf_RX4_9 (kx_52_1 j) ?_
        refine zr_iload_n (pc := 38) (zq_d eX4_isMiddle 22 rfl) 1 rfl rfl ?_
        refine zr_iald (pc := 39) (zq_d eX4_isMiddle 23 rfl) (ax_53 j) ?_
        refine zr_icmp_ge (pc := 40) 46 (zq_d eX4_isMiddle 24 rfl) (by decide) (fun _ => ?_) (fun _ => ?_)
        · refine zr_iinc (pc := 46) (j := 4) (v := (v2 + (1 : Int32))) (lo2 := [(4, .int (v2 + (1 : Int32))), (0, .ref (zq_ad G 52)), (1, .int a1), (2, .int a2), (3, .int v1)]) (zq_d eX4_isMiddle 26 rfl) rfl (by rw [zc_i1]) (Nat.le_of_ble_eq_true rfl) rfl ?_
          refine zr_goto (pc := 49) 5 (zq_d eX4_isMiddle 27 rfl) (by decide) ?_
          exact zr_lo [1, 2, 3, 4, 0] rfl (hrc5_1 v1 (v2 + (1 : Int32)))
        · refine zr_iinc (pc := 43) (j := 3) (v := (v1 + (1 : Int32))) (lo2 := [(3, .int (v1 + (1 : Int32))), (0, .ref (zq_ad G 52)), (1, .int a1), (2, .int a2), (4, .int v2)]) (zq_d eX4_isMiddle 25 rfl) rfl (by rw [zc_i1]) (Nat.le_of_ble_eq_true rfl) rfl ?_
          refine zr_iinc (pc := 46) (j := 4) (v := (v2 + (1 : Int32))) (lo2 := [(4, .int (v2 + (1 : Int32))), (3, .int (v1 + (1 : Int32))), (0, .ref (zq_ad G 52)), (1, .int a1), (2, .int a2)]) (zq_d eX4_isMiddle 26 rfl) rfl (by rw [zc_i1]) (Nat.le_of_ble_eq_true rfl) rfl ?_
          refine zr_goto (pc := 49) 5 (zq_d eX4_isMiddle 27 rfl) (by decide) ?_
          exact zr_lo [2, 3, 4, 1, 0] rfl (hrc5_1 (v1 + (1 : Int32)) (v2 + (1 : Int32)))
  have hlrc5_1 := zr_loop (P := fun (rc5_1 : Int32 → Int32 → Option Int32) => ∀ (v1 : Int32) (v2 : Int32), zq_V G YX4_isMiddle (2, 0, 0) (zq_ei (zq_shX j) z X) 0 0 5 [(0, .ref (zq_ad G 52)), (1, .int a1), (2, .int a2), (3, .int v1), (4, .int v2)] [] (zq_shX j) z X (rc5_1 v1 v2)) (fun _ _ => none) (b_X4_isMiddle_5 N j X a1 a2) (fun _ _ => zr_none) hbrc5_1 N
  exact zr_lo [2, 3, 4, 1, 0] rfl (hlrc5_1 (0 : Int32) (0 : Int32))
def b_X4_goesWithAll_2 (N : Nat) (j : Nat) (X : zq_M) (rc2_1 : Int32 → Option Int32) (v1 : Int32) : Option Int32 :=
  if (X.1 1 11) ≤ v1 then (some (1 : Int32)) else (zq_ck v1 12 (zq_ck v1 12 ((f_X4_isMiddle N j X (X.1 9 (zq_ix v1)) (X.1 8 (zq_ix v1))).bind (fun v2 => if ¬ v2 = 0 then (rc2_1 (v1 + (1 : Int32))) else (some (0 : Int32))))))
def f_X4_goesWithAll (N j : Nat) (X : zq_M)  : Option Int32 :=
  zq_loop (fun _ => none) (b_X4_goesWithAll_2 N j X) N (0 : Int32)
set_option maxRecDepth 20000 in
set_option maxHeartbeats 8000000 in
theorem s_X4_goesWithAll (G : zq_G) (N z j : Nat) (X : zq_M)  : zq_V G YX4_goesWithAll (3, 0, 0) (zq_ei (zq_shX j) z X) 0 0 0 (lv_args 0 [.ref (zq_ad G 52)]) [] (zq_shX j) z X (f_X4_goesWithAll N j X ) := by
  unfold f_X4_goesWithAll
  refine zr_lo (l2 := [(0, .ref (zq_ad G 52))]) [0] rfl ?_
  refine zr_iconst (pc := 0) (zq_d eX4_goesWithAll 0 rfl) zc_i0 ?_
  refine zr_istore_n (pc := 1) (lo2 := [(1, .int (0 : Int32)), (0, .ref (zq_ad G 52))]) (zq_d eX4_goesWithAll 1 rfl) rfl (Nat.le_of_ble_eq_true rfl) rfl ?_
  have hbrc2_1 : ∀ rc2_1 : Int32 → Option Int32, (∀ (v1 : Int32), zq_V G YX4_goesWithAll (3, 0, 0) (zq_ei (zq_shX j) z X) 0 0 2 [(0, .ref (zq_ad G 52)), (1, .int v1)] [] (zq_shX j) z X (rc2_1 v1)) → ∀ (v1 : Int32), zq_V G YX4_goesWithAll (3, 0, 0) (zq_ei (zq_shX j) z X) 0 0 2 [(0, .ref (zq_ad G 52)), (1, .int v1)] [] (zq_shX j) z X (b_X4_goesWithAll_2 N j X rc2_1 v1) := by
    intro rc2_1 hrc2_1 v1
    unfold b_X4_goesWithAll_2
    refine zr_iload_n (pc := 2) (zq_d eX4_goesWithAll 2 rfl) 1 rfl rfl ?_
    refine zr_aload_n (pc := 3) (zq_d eX4_goesWithAll 3 rfl) 0 rfl rfl ?_
    refine zr_getC (pc := 4) (zq_d eX4_goesWithAll 4 rfl) zf_RX4_15 (kx_52_0 j) ?_
    refine zr_getI (pc := 7) (zq_d eX4_goesWithAll 5 rfl) zf_RX4_33 (kx_1_11 j) ?_
    refine zr_icmp_ge (pc := 10) 46 (zq_d eX4_goesWithAll 6 rfl) (by decide) (fun _ => ?_) (fun _ => ?_)
    · refine zr_iconst (pc := 46) (zq_d eX4_goesWithAll 24 rfl) zc_i1 ?_
      exact zr_zreturn (pc := 47) (zq_d eX4_goesWithAll 25 rfl) rfl rfl rfl (Nat.zero_le _) (Nat.zero_le _)
    · refine zr_aload_n (pc := 13) (zq_d eX4_goesWithAll 7 rfl) 0 rfl rfl ?_
      refine zr_aload_n (pc := 14) (zq_d eX4_goesWithAll 8 rfl) 0 rfl rfl ?_
      refine zr_getC (pc := 15) (zq_d eX4_goesWithAll 9 rfl) zf_RX4_15 (kx_52_0 j) ?_
      refine zr_getC (pc := 18) (zq_d eX4_goesWithAll 10 rfl) zf_RX4_36 (kx_1_10 j) ?_
      refine zr_iload_n (pc := 21) (zq_d eX4_goesWithAll 11 rfl) 1 rfl rfl ?_
      refine zr_iald (pc := 22) (zq_d eX4_goesWithAll 12 rfl) (ax_9 j) ?_
      refine zr_aload_n (pc := 23) (zq_d eX4_goesWithAll 13 rfl) 0 rfl rfl ?_
      refine zr_getC (pc := 24) (zq_d eX4_goesWithAll 14 rfl) zf_RX4_15 (kx_52_0 j) ?_
      refine zr_getC (pc := 27) (zq_d eX4_goesWithAll 15 rfl) zf_RX4_39 (kx_1_9 j) ?_
      refine zr_iload_n (pc := 30) (zq_d eX4_goesWithAll 16 rfl) 1 rfl rfl ?_
      refine zr_iald (pc := 31) (zq_d eX4_goesWithAll 17 rfl) (ax_8 j) ?_
      refine zr_Vi (pc := 32) [_, _] (zq_d eX4_goesWithAll 18 rfl) (s_X4_isMiddle G N z j X _ _) zd_X4_isMiddle zl_RX4_42 (ox_52 j) rfl rfl rfl rfl (Nat.le_of_ble_eq_true rfl) (Nat.le_of_ble_eq_true rfl) (Nat.le_of_ble_eq_true rfl) ⟨Nat.le_refl _, Nat.le_refl _⟩ (fun v2 => ?_)
      refine zr_if_ne (pc := 35) 40 (zq_d eX4_goesWithAll 19 rfl) (by decide) (fun _ => ?_) (fun _ => ?_)
      · refine zr_iinc (pc := 40) (j := 1) (v := (v1 + (1 : Int32))) (lo2 := [(1, .int (v1 + (1 : Int32))), (0, .ref (zq_ad G 52))]) (zq_d eX4_goesWithAll 22 rfl) rfl (by rw [zc_i1]) (Nat.le_of_ble_eq_true rfl) rfl ?_
        refine zr_goto (pc := 43) 2 (zq_d eX4_goesWithAll 23 rfl) (by decide) ?_
        exact zr_lo [1, 0] rfl (hrc2_1 (v1 + (1 : Int32)))
      · refine zr_iconst (pc := 38) (zq_d eX4_goesWithAll 20 rfl) zc_i0 ?_
        exact zr_zreturn (pc := 39) (zq_d eX4_goesWithAll 21 rfl) rfl rfl rfl (Nat.zero_le _) (Nat.zero_le _)
  have hlrc2_1 := zr_loop (P := fun (rc2_1 : Int32 → Option Int32) => ∀ (v1 : Int32), zq_V G YX4_goesWithAll (3, 0, 0) (zq_ei (zq_shX j) z X) 0 0 2 [(0, .ref (zq_ad G 52)), (1, .int v1)] [] (zq_shX j) z X (rc2_1 v1)) (fun _ => none) (b_X4_goesWithAll_2 N j X) (fun _ => zr_none) hbrc2_1 N
  exact zr_lo [1, 0] rfl (hlrc2_1 (0 : Int32))
def b_X4_fittingFrom_29 (a1 : Int32) (a2 : Int32) (rc : Int32 → Int32 → zq_M → Option (Int32 × zq_M)) (rc29_1 : Int32 → Int32 → zq_M → Option (Int32 × zq_M)) (v1 : Int32) (v2 : Int32) (X3 : zq_M) : Option (Int32 × zq_M) :=
  if (X3.1 1 0) ≤ v2 then (some (v1, X3)) else (if ¬ ((zq_shr a2 v2) &&& (1 : Int32)) = 0 then (rc29_1 v1 (v2 + (1 : Int32)) X3) else (zq_ck v2 5 (zq_b (zq_u1 X3 53 (zq_ix v2) a1) (fun X4 => (rc (a1 + (1 : Int32)) (a2 ||| (zq_shl (1 : Int32) v2)) X4).bind (zq_p (fun v5 X6 => rc29_1 (v1 + v5) (v2 + (1 : Int32)) X6))))))
def B_X4_fittingFrom (N j : Nat) (rc : Int32 → Int32 → zq_M → Option (Int32 × zq_M)) (a1 : Int32) (a2 : Int32) (X : zq_M) : Option (Int32 × zq_M) :=
  if a1 < (X.1 1 0) then (zq_loop (fun _ _ _ => none) (b_X4_fittingFrom_29 a1 a2 rc) N (0 : Int32) (0 : Int32) X) else ((f_X4_goesWithAll N j X).bind (fun v7 => if v7 = 0 then (some ((0 : Int32), X)) else (some ((1 : Int32), X))))
def fr_X4_fittingFrom (N j : Nat) : Int32 → Int32 → zq_M → Option (Int32 × zq_M) := zq_loop (fun _ _ _ => none) (B_X4_fittingFrom N j) 64
def f_X4_fittingFrom (N j : Nat) (X : zq_M) (a1 : Int32) (a2 : Int32) : Option (Int32 × zq_M) := fr_X4_fittingFrom N j a1 a2 X
set_option maxRecDepth 20000 in
set_option maxHeartbeats 8000000 in
theorem r_X4_fittingFrom (G : zq_G) (N z j : Nat) : ∀ (n : Nat) (a1 : Int32) (a2 : Int32) (X : zq_M), zq_V G YX4_fittingFrom (3 + n, 0, 0) (zq_si (zq_shX j) z) 0 0 0 (lv_args 0 [.ref (zq_ad G 52), .int a1, .int a2]) [] (zq_shX j) z X (zq_loop (fun _ _ _ => none) (B_X4_fittingFrom N j) n a1 a2 X) := by
  intro n
  induction n with
    | zero =>
      intro a1 a2 X
      exact zr_none
    | succ n ih =>
      intro a1 a2 X
      show zq_V G YX4_fittingFrom (3 + (n + 1), 0, 0) (zq_si (zq_shX j) z) 0 0 0 (lv_args 0 [.ref (zq_ad G 52), .int a1, .int a2]) [] (zq_shX j) z X (B_X4_fittingFrom N j (zq_loop (fun _ _ _ => none) (B_X4_fittingFrom N j) n) a1 a2 X)
      generalize zq_loop (fun _ _ _ => none) (B_X4_fittingFrom N j) n = rc at ih ⊢
      unfold B_X4_fittingFrom
      refine zr_lo (l2 := [(0, .ref (zq_ad G 52)), (1, .int a1), (2, .int a2)]) [0, 1, 2] rfl ?_
      refine zr_iload_n (pc := 0) (zq_d eX4_fittingFrom 0 rfl) 1 rfl rfl ?_
      refine zr_aload_n (pc := 1) (zq_d eX4_fittingFrom 1 rfl) 0 rfl rfl ?_
      refine zr_getC (pc := 2) (zq_d eX4_fittingFrom 2 rfl) zf_RX4_15 (kx_52_0 j) ?_
      refine zr_getI (pc := 5) (zq_d eX4_fittingFrom 3 rfl) zf_RX4_23 (kx_1_0 j) ?_
      refine zr_icmp_lt (pc := 8) 24 (zq_d eX4_fittingFrom 4 rfl) (by decide) (fun _ => ?_) (fun _ => ?_)
      · refine zr_iconst (pc := 24) (zq_d eX4_fittingFrom 12 rfl) zc_i0 ?_
        refine zr_istore_n (pc := 25) (lo2 := [(3, .int (0 : Int32)), (0, .ref (zq_ad G 52)), (1, .int a1), (2, .int a2)]) (zq_d eX4_fittingFrom 13 rfl) rfl (Nat.le_of_ble_eq_true rfl) rfl ?_
        refine zr_iconst (pc := 26) (zq_d eX4_fittingFrom 14 rfl) zc_i0 ?_
        refine zr_istore (pc := 27) (lo2 := [(4, .int (0 : Int32)), (3, .int (0 : Int32)), (0, .ref (zq_ad G 52)), (1, .int a1), (2, .int a2)]) (zq_d eX4_fittingFrom 15 rfl) (Nat.le_of_ble_eq_true rfl) rfl ?_
        have hbrc29_1 : ∀ rc29_1 : Int32 → Int32 → zq_M → Option (Int32 × zq_M), (∀ (v1 : Int32) (v2 : Int32) (X3 : zq_M), zq_V G YX4_fittingFrom (3 + (n + 1), 0, 0) (zq_si (zq_shX j) z) 0 0 29 [(0, .ref (zq_ad G 52)), (1, .int a1), (2, .int a2), (3, .int v1), (4, .int v2)] [] (zq_shX j) z X3 (rc29_1 v1 v2 X3)) → ∀ (v1 : Int32) (v2 : Int32) (X3 : zq_M), zq_V G YX4_fittingFrom (3 + (n + 1), 0, 0) (zq_si (zq_shX j) z) 0 0 29 [(0, .ref (zq_ad G 52)), (1, .int a1), (2, .int a2), (3, .int v1), (4, .int v2)] [] (zq_shX j) z X3 (b_X4_fittingFrom_29 a1 a2 rc rc29_1 v1 v2 X3) := by
          intro rc29_1 hrc29_1 v1 v2 X3
          unfold b_X4_fittingFrom_29
          refine zr_iload (pc := 29) (zq_d eX4_fittingFrom 16 rfl) 4 rfl ?_
          refine zr_aload_n (pc := 31) (zq_d eX4_fittingFrom 17 rfl) 0 rfl rfl ?_
          refine zr_getC (pc := 32) (zq_d eX4_fittingFrom 18 rfl) zf_RX4_15 (kx_52_0 j) ?_
          refine zr_getI (pc := 35) (zq_d eX4_fittingFrom 19 rfl) zf_RX4_23 (kx_1_0 j) ?_
          refine zr_icmp_ge (pc := 38) 80 (zq_d eX4_fittingFrom 20 rfl) (by decide) (fun _ => ?_) (fun _ => ?_)
          · refine zr_iload_n (pc := 80) (zq_d eX4_fittingFrom 47 rfl) 3 rfl rfl ?_
            exact zr_ireturn (pc := 81) (zq_d eX4_fittingFrom 48 rfl) rfl rfl (Nat.zero_le _) (Nat.zero_le _)
          · refine zr_iload_n (pc := 41) (zq_d eX4_fittingFrom 21 rfl) 2 rfl rfl ?_
            refine zr_iload (pc := 42) (zq_d eX4_fittingFrom 22 rfl) 4 rfl ?_
            refine zr_ishr (pc := 44) (zq_d eX4_fittingFrom 23 rfl) ?_
            refine zr_iconst (pc := 45) (zq_d eX4_fittingFrom 24 rfl) zc_i1 ?_
            refine zr_iand (pc := 46) (zq_d eX4_fittingFrom 25 rfl) ?_
            refine zr_if_ne (pc := 47) 74 (zq_d eX4_fittingFrom 26 rfl) (by decide) (fun _ => ?_) (fun _ => ?_)
            · refine zr_iinc (pc := 74) (j := 4) (v := (v2 + (1 : Int32))) (lo2 := [(4, .int (v2 + (1 : Int32))), (0, .ref (zq_ad G 52)), (1, .int a1), (2, .int a2), (3, .int v1)]) (zq_d eX4_fittingFrom 45 rfl) rfl (by rw [zc_i1]) (Nat.le_of_ble_eq_true rfl) rfl ?_
              refine zr_goto (pc := 77) 29 (zq_d eX4_fittingFrom 46 rfl) (by decide) ?_
              exact zr_lo [1, 2, 3, 4, 0] rfl (hrc29_1 v1 (v2 + (1 : Int32)) X3)
            · refine zr_aload_n (pc := 50) (zq_d eX4_fittingFrom 27 rfl) 0 rfl rfl ?_
              refine zr_getC (pc := 51) (zq_d eX4_fittingFrom 28 rfl) zf_RX4_9 (kx_52_1 j) ?_
              refine zr_iload (pc := 54) (zq_d eX4_fittingFrom 29 rfl) 4 rfl ?_
              refine zr_iload_n (pc := 56) (zq_d eX4_fittingFrom 30 rfl) 1 rfl rfl ?_
              refine zr_iast (pc := 57) (zq_d eX4_fittingFrom 31 rfl) (ax_53 j) (fun X4 => ?_)
              refine zr_iload_n (pc := 58) (zq_d eX4_fittingFrom 32 rfl) 3 rfl rfl ?_
              refine zr_aload_n (pc := 59) (zq_d eX4_fittingFrom 33 rfl) 0 rfl rfl ?_
              refine zr_iload_n (pc := 60) (zq_d eX4_fittingFrom 34 rfl) 1 rfl rfl ?_
              refine zr_iconst (pc := 61) (zq_d eX4_fittingFrom 35 rfl) zc_i1 ?_
              refine zr_iadd (pc := 62) (zq_d eX4_fittingFrom 36 rfl) ?_
              refine zr_iload_n (pc := 63) (zq_d eX4_fittingFrom 37 rfl) 2 rfl rfl ?_
              refine zr_iconst (pc := 64) (zq_d eX4_fittingFrom 38 rfl) zc_i1 ?_
              refine zr_iload (pc := 65) (zq_d eX4_fittingFrom 39 rfl) 4 rfl ?_
              refine zr_ishl (pc := 67) (zq_d eX4_fittingFrom 40 rfl) ?_
              refine zr_ior (pc := 68) (zq_d eX4_fittingFrom 41 rfl) ?_
              refine zr_Wsi (pc := 69) [_, _] (zq_d eX4_fittingFrom 42 rfl) (ih _ _ X4) zd_X4_fittingFrom zl_RX4_19 (ox_52 j) rfl rfl rfl rfl (Nat.le_of_ble_eq_true rfl) (Nat.le_of_ble_eq_true rfl) (show (3 + n) + 1 ≤ 3 + (n + 1) by omega) ⟨Nat.le_refl _, Nat.le_refl _⟩ (fun v5 X6 => ?_)
              refine zr_iadd (pc := 72) (zq_d eX4_fittingFrom 43 rfl) ?_
              refine zr_istore_n (pc := 73) (lo2 := [(3, .int (v1 + v5)), (0, .ref (zq_ad G 52)), (1, .int a1), (2, .int a2), (4, .int v2)]) (zq_d eX4_fittingFrom 44 rfl) rfl (Nat.le_of_ble_eq_true rfl) rfl ?_
              refine zr_iinc (pc := 74) (j := 4) (v := (v2 + (1 : Int32))) (lo2 := [(4, .int (v2 + (1 : Int32))), (3, .int (v1 + v5)), (0, .ref (zq_ad G 52)), (1, .int a1), (2, .int a2)]) (zq_d eX4_fittingFrom 45 rfl) rfl (by rw [zc_i1]) (Nat.le_of_ble_eq_true rfl) rfl ?_
              refine zr_goto (pc := 77) 29 (zq_d eX4_fittingFrom 46 rfl) (by decide) ?_
              exact zr_lo [2, 3, 4, 1, 0] rfl (hrc29_1 (v1 + v5) (v2 + (1 : Int32)) X6)
        have hlrc29_1 := zr_loop (P := fun (rc29_1 : Int32 → Int32 → zq_M → Option (Int32 × zq_M)) => ∀ (v1 : Int32) (v2 : Int32) (X3 : zq_M), zq_V G YX4_fittingFrom (3 + (n + 1), 0, 0) (zq_si (zq_shX j) z) 0 0 29 [(0, .ref (zq_ad G 52)), (1, .int a1), (2, .int a2), (3, .int v1), (4, .int v2)] [] (zq_shX j) z X3 (rc29_1 v1 v2 X3)) (fun _ _ _ => none) (b_X4_fittingFrom_29 a1 a2 rc) (fun _ _ _ => zr_none) hbrc29_1 N
        exact zr_lo [2, 3, 4, 1, 0] rfl (hlrc29_1 (0 : Int32) (0 : Int32) X)
      · refine zr_aload_n (pc := 11) (zq_d eX4_fittingFrom 5 rfl) 0 rfl rfl ?_
        refine zr_Vi (pc := 12) [] (zq_d eX4_fittingFrom 6 rfl) (s_X4_goesWithAll G N z j X ) zd_X4_goesWithAll zl_RX4_29 (ox_52 j) rfl rfl rfl rfl (Nat.le_of_ble_eq_true rfl) (Nat.le_of_ble_eq_true rfl) (show 3 + 1 ≤ 3 + (n + 1) by omega) ⟨Nat.le_refl _, Nat.le_refl _⟩ (fun v7 => ?_)
        refine zr_if_eq (pc := 15) 22 (zq_d eX4_fittingFrom 7 rfl) (by decide) (fun _ => ?_) (fun _ => ?_)
        · refine zr_iconst (pc := 22) (zq_d eX4_fittingFrom 10 rfl) zc_i0 ?_
          exact zr_ireturn (pc := 23) (zq_d eX4_fittingFrom 11 rfl) rfl rfl (Nat.zero_le _) (Nat.zero_le _)
        · refine zr_iconst (pc := 18) (zq_d eX4_fittingFrom 8 rfl) zc_i1 ?_
          refine zr_goto (pc := 19) 23 (zq_d eX4_fittingFrom 9 rfl) (by decide) ?_
          exact zr_ireturn (pc := 23) (zq_d eX4_fittingFrom 11 rfl) rfl rfl (Nat.zero_le _) (Nat.zero_le _)
theorem s_X4_fittingFrom (G : zq_G) (N z j : Nat) (X : zq_M) (a1 : Int32) (a2 : Int32) : zq_V G YX4_fittingFrom (67, 0, 0) (zq_si (zq_shX j) z) 0 0 0 (lv_args 0 [.ref (zq_ad G 52), .int a1, .int a2]) [] (zq_shX j) z X (f_X4_fittingFrom N j X a1 a2) := r_X4_fittingFrom G N z j 64 a1 a2 X
def f_X4_fitting (N j : Nat) (X : zq_M)  : Option (Int32 × zq_M) :=
  (f_X4_fittingFrom N j X (0 : Int32) (0 : Int32)).bind (zq_p (fun v1 X2 => some (v1, X2)))
set_option maxRecDepth 20000 in
set_option maxHeartbeats 8000000 in
theorem s_X4_fitting (G : zq_G) (N z j : Nat) (X : zq_M)  : zq_V G YX4_fitting (68, 0, 0) (zq_si (zq_shX j) z) 0 0 0 (lv_args 0 [.ref (zq_ad G 52)]) [] (zq_shX j) z X (f_X4_fitting N j X ) := by
  unfold f_X4_fitting
  refine zr_lo (l2 := [(0, .ref (zq_ad G 52))]) [0] rfl ?_
  refine zr_aload_n (pc := 0) (zq_d eX4_fitting 0 rfl) 0 rfl rfl ?_
  refine zr_iconst (pc := 1) (zq_d eX4_fitting 1 rfl) zc_i0 ?_
  refine zr_iconst (pc := 2) (zq_d eX4_fitting 2 rfl) zc_i0 ?_
  refine zr_Wsi (pc := 3) [_, _] (zq_d eX4_fitting 3 rfl) (s_X4_fittingFrom G N z j X _ _) zd_X4_fittingFrom zl_RX4_19 (ox_52 j) rfl rfl rfl rfl (Nat.le_of_ble_eq_true rfl) (Nat.le_of_ble_eq_true rfl) (Nat.le_of_ble_eq_true rfl) ⟨Nat.le_refl _, Nat.le_refl _⟩ (fun v1 X2 => ?_)
  exact zr_ireturn (pc := 6) (zq_d eX4_fitting 4 rfl) rfl rfl (Nat.zero_le _) (Nat.zero_le _)
def f_X5_addPerson (N j : Nat) (X : zq_M) (h : Nat) (a1 : Int32) (a2 : Int32) (a3 : Int32) : Option (Int32 × zq_M) :=
  zq_ck (X.1 h 0) 5 (zq_b (zq_u1 X (h + 1) (zq_ix (X.1 h 0)) a1) (fun X1 => zq_ck (X.1 h 0) 5 (zq_b (zq_u1 X1 (h + 2) (zq_ix (X.1 h 0)) a2) (fun X2 => zq_ck (X.1 h 0) 5 (zq_b (zq_u1 X2 (h + 3) (zq_ix (X.1 h 0)) a3) (fun X3 => zq_ck (X.1 h 0) 5 (zq_b (zq_u1 X3 (h + 4) (zq_ix (X.1 h 0)) (0 : Int32)) (fun X4 => zq_b (zq_u1 X4 h 0 ((X4.1 h 0) + (1 : Int32))) (fun X5 => some ((X.1 h 0), X5))))))))))
set_option maxRecDepth 20000 in
set_option maxHeartbeats 8000000 in
theorem s_X5_addPerson (G : zq_G) (N z j : Nat) (X : zq_M) (h : Nat) (gh : zq_sc (zq_shX j) h = true) (a1 : Int32) (a2 : Int32) (a3 : Int32) : zq_V G YX5_addPerson (1, 0, 0) (zq_si (zq_shX j) z) 0 0 0 (lv_args 0 [.ref (zq_ad G h), .int a1, .int a2, .int a3]) [] (zq_shX j) z X (f_X5_addPerson N j X h a1 a2 a3) := by
  unfold f_X5_addPerson
  refine zr_lo (l2 := [(0, .ref (zq_ad G h)), (1, .int a1), (2, .int a2), (3, .int a3)]) [0, 1, 2, 3] rfl ?_
  refine zr_aload_n (pc := 0) (zq_d eX5_addPerson 0 rfl) 0 rfl rfl ?_
  refine zr_getI (pc := 1) (zq_d eX5_addPerson 1 rfl) zf_RX5_43 (zq_sc_k0 gh) ?_
  refine zr_istore (pc := 4) (lo2 := [(4, .int (X.1 h 0)), (0, .ref (zq_ad G h)), (1, .int a1), (2, .int a2), (3, .int a3)]) (zq_d eX5_addPerson 2 rfl) (Nat.le_of_ble_eq_true rfl) rfl ?_
  refine zr_aload_n (pc := 6) (zq_d eX5_addPerson 3 rfl) 1 rfl rfl ?_
  refine zr_getC (pc := 7) (zq_d eX5_addPerson 4 rfl) zf_RX5_9 (zq_sc_k1 gh) ?_
  refine zr_iload (pc := 10) (zq_d eX5_addPerson 5 rfl) 0 rfl ?_
  refine zr_iload_n (pc := 12) (zq_d eX5_addPerson 6 rfl) 2 rfl rfl ?_
  refine zr_iast (pc := 13) (zq_d eX5_addPerson 7 rfl) (zq_sc_a1 gh) (fun X1 => ?_)
  refine zr_aload_n (pc := 14) (zq_d eX5_addPerson 8 rfl) 1 rfl rfl ?_
  refine zr_getC (pc := 15) (zq_d eX5_addPerson 9 rfl) zf_RX5_15 (zq_sc_k2 gh) ?_
  refine zr_iload (pc := 18) (zq_d eX5_addPerson 10 rfl) 0 rfl ?_
  refine zr_iload_n (pc := 20) (zq_d eX5_addPerson 11 rfl) 3 rfl rfl ?_
  refine zr_iast (pc := 21) (zq_d eX5_addPerson 12 rfl) (zq_sc_a2 gh) (fun X2 => ?_)
  refine zr_aload_n (pc := 22) (zq_d eX5_addPerson 13 rfl) 1 rfl rfl ?_
  refine zr_getC (pc := 23) (zq_d eX5_addPerson 14 rfl) zf_RX5_18 (zq_sc_k3 gh) ?_
  refine zr_iload (pc := 26) (zq_d eX5_addPerson 15 rfl) 0 rfl ?_
  refine zr_iload_n (pc := 28) (zq_d eX5_addPerson 16 rfl) 4 rfl rfl ?_
  refine zr_iast (pc := 29) (zq_d eX5_addPerson 17 rfl) (zq_sc_a3 gh) (fun X3 => ?_)
  refine zr_aload_n (pc := 30) (zq_d eX5_addPerson 18 rfl) 1 rfl rfl ?_
  refine zr_getC (pc := 31) (zq_d eX5_addPerson 19 rfl) zf_RX5_21 (zq_sc_k4 gh) ?_
  refine zr_iload (pc := 34) (zq_d eX5_addPerson 20 rfl) 0 rfl ?_
  refine zr_iconst (pc := 36) (zq_d eX5_addPerson 21 rfl) zc_i0 ?_
  refine zr_iast (pc := 37) (zq_d eX5_addPerson 22 rfl) (zq_sc_a4 gh) (fun X4 => ?_)
  refine zr_aload_n (pc := 38) (zq_d eX5_addPerson 23 rfl) 1 rfl rfl ?_
  refine zr_dup (pc := 39) (zq_d eX5_addPerson 24 rfl) rfl ?_
  refine zr_getI (pc := 40) (zq_d eX5_addPerson 25 rfl) zf_RX5_43 (zq_sc_k0 gh) ?_
  refine zr_iconst (pc := 43) (zq_d eX5_addPerson 26 rfl) zc_i1 ?_
  refine zr_iadd (pc := 44) (zq_d eX5_addPerson 27 rfl) ?_
  refine zr_putI (pc := 45) (zq_d eX5_addPerson 28 rfl) zf_RX5_43 (zq_sc_k0 gh) zn_5_0 (fun X5 => ?_)
  refine zr_iload (pc := 48) (zq_d eX5_addPerson 29 rfl) 0 rfl ?_
  exact zr_ireturn (pc := 50) (zq_d eX5_addPerson 30 rfl) rfl rfl (Nat.zero_le _) (Nat.zero_le _)
def b_X5_whoIsAt_4 (X : zq_M) (h : Nat) (a1 : Int32) (rc4_1 : Int32 → Int32 → Option Int32) (v1 : Int32) (v2 : Int32) : Option Int32 :=
  if (X.1 h 0) ≤ v2 then (some v1) else (zq_ck v2 5 (if ¬ (X.1 (h + 3) (zq_ix v2)) = a1 then (rc4_1 v1 (v2 + (1 : Int32))) else (rc4_1 (v1 ||| (zq_shl (1 : Int32) v2)) (v2 + (1 : Int32)))))
def f_X5_whoIsAt (N j : Nat) (X : zq_M) (h : Nat) (a1 : Int32) : Option Int32 :=
  zq_loop (fun _ _ => none) (b_X5_whoIsAt_4 X h a1) N (0 : Int32) (0 : Int32)
set_option maxRecDepth 20000 in
set_option maxHeartbeats 8000000 in
theorem s_X5_whoIsAt (G : zq_G) (N z j : Nat) (X : zq_M) (h : Nat) (gh : zq_sc (zq_shX j) h = true) (a1 : Int32) : zq_V G YX5_whoIsAt (1, 0, 0) (zq_ei (zq_shX j) z X) 0 0 0 (lv_args 0 [.ref (zq_ad G h), .int a1]) [] (zq_shX j) z X (f_X5_whoIsAt N j X h a1) := by
  unfold f_X5_whoIsAt
  refine zr_lo (l2 := [(0, .ref (zq_ad G h)), (1, .int a1)]) [0, 1] rfl ?_
  refine zr_iconst (pc := 0) (zq_d eX5_whoIsAt 0 rfl) zc_i0 ?_
  refine zr_istore_n (pc := 1) (lo2 := [(2, .int (0 : Int32)), (0, .ref (zq_ad G h)), (1, .int a1)]) (zq_d eX5_whoIsAt 1 rfl) rfl (Nat.le_of_ble_eq_true rfl) rfl ?_
  refine zr_iconst (pc := 2) (zq_d eX5_whoIsAt 2 rfl) zc_i0 ?_
  refine zr_istore_n (pc := 3) (lo2 := [(3, .int (0 : Int32)), (2, .int (0 : Int32)), (0, .ref (zq_ad G h)), (1, .int a1)]) (zq_d eX5_whoIsAt 3 rfl) rfl (Nat.le_of_ble_eq_true rfl) rfl ?_
  have hbrc4_1 : ∀ rc4_1 : Int32 → Int32 → Option Int32, (∀ (v1 : Int32) (v2 : Int32), zq_V G YX5_whoIsAt (1, 0, 0) (zq_ei (zq_shX j) z X) 0 0 4 [(0, .ref (zq_ad G h)), (1, .int a1), (2, .int v1), (3, .int v2)] [] (zq_shX j) z X (rc4_1 v1 v2)) → ∀ (v1 : Int32) (v2 : Int32), zq_V G YX5_whoIsAt (1, 0, 0) (zq_ei (zq_shX j) z X) 0 0 4 [(0, .ref (zq_ad G h)), (1, .int a1), (2, .int v1), (3, .int v2)] [] (zq_shX j) z X (b_X5_whoIsAt_4 X h a1 rc4_1 v1 v2) := by
    intro rc4_1 hrc4_1 v1 v2
    unfold b_X5_whoIsAt_4
    refine zr_iload_n (pc := 4) (zq_d eX5_whoIsAt 4 rfl) 3 rfl rfl ?_
    refine zr_aload_n (pc := 5) (zq_d eX5_whoIsAt 5 rfl) 0 rfl rfl ?_
    refine zr_getI (pc := 6) (zq_d eX5_whoIsAt 6 rfl) zf_RX5_43 (zq_sc_k0 gh) ?_
    refine zr_icmp_ge (pc := 9) 34 (zq_d eX5_whoIsAt 7 rfl) (by decide) (fun _ => ?_) (fun _ => ?_)
    · refine zr_iload_n (pc := 34) (zq_d eX5_whoIsAt 22 rfl) 2 rfl rfl ?_
      exact zr_ireturn (pc := 35) (zq_d eX5_whoIsAt 23 rfl) rfl rfl (Nat.zero_le _) (Nat.zero_le _)
    · refine zr_aload_n (pc := 12) (zq_d eX5_whoIsAt 8 rfl) 0 rfl rfl ?_
      refine zr_getC (pc := 13) (zq_d eX5_whoIsAt 9 rfl) zf_RX5_18 (zq_sc_k3 gh) ?_
      refine zr_iload_n (pc := 16) (zq_d eX5_whoIsAt 10 rfl) 3 rfl rfl ?_
      refine zr_iald (pc := 17) (zq_d eX5_whoIsAt 11 rfl) (zq_sc_a3 gh) ?_
      refine zr_iload_n (pc := 18) (zq_d eX5_whoIsAt 12 rfl) 1 rfl rfl ?_
      refine zr_icmp_ne (pc := 19) 28 (zq_d eX5_whoIsAt 13 rfl) (by decide) (fun _ => ?_) (fun _ => ?_)
      · refine zr_iinc (pc := 28) (j := 3) (v := (v2 + (1 : Int32))) (lo2 := [(3, .int (v2 + (1 : Int32))), (0, .ref (zq_ad G h)), (1, .int a1), (2, .int v1)]) (zq_d eX5_whoIsAt 20 rfl) rfl (by rw [zc_i1]) (Nat.le_of_ble_eq_true rfl) rfl ?_
        refine zr_goto (pc := 31) 4 (zq_d eX5_whoIsAt 21 rfl) (by decide) ?_
        exact zr_lo [1, 2, 3, 0] rfl (hrc4_1 v1 (v2 + (1 : Int32)))
      · refine zr_iload_n (pc := 22) (zq_d eX5_whoIsAt 14 rfl) 2 rfl rfl ?_
        refine zr_iconst (pc := 23) (zq_d eX5_whoIsAt 15 rfl) zc_i1 ?_
        refine zr_iload_n (pc := 24) (zq_d eX5_whoIsAt 16 rfl) 3 rfl rfl ?_
        refine zr_ishl (pc := 25) (zq_d eX5_whoIsAt 17 rfl) ?_
        refine zr_ior (pc := 26) (zq_d eX5_whoIsAt 18 rfl) ?_
        refine zr_istore_n (pc := 27) (lo2 := [(2, .int (v1 ||| (zq_shl (1 : Int32) v2))), (0, .ref (zq_ad G h)), (1, .int a1), (3, .int v2)]) (zq_d eX5_whoIsAt 19 rfl) rfl (Nat.le_of_ble_eq_true rfl) rfl ?_
        refine zr_iinc (pc := 28) (j := 3) (v := (v2 + (1 : Int32))) (lo2 := [(3, .int (v2 + (1 : Int32))), (2, .int (v1 ||| (zq_shl (1 : Int32) v2))), (0, .ref (zq_ad G h)), (1, .int a1)]) (zq_d eX5_whoIsAt 20 rfl) rfl (by rw [zc_i1]) (Nat.le_of_ble_eq_true rfl) rfl ?_
        refine zr_goto (pc := 31) 4 (zq_d eX5_whoIsAt 21 rfl) (by decide) ?_
        exact zr_lo [2, 3, 1, 0] rfl (hrc4_1 (v1 ||| (zq_shl (1 : Int32) v2)) (v2 + (1 : Int32)))
  have hlrc4_1 := zr_loop (P := fun (rc4_1 : Int32 → Int32 → Option Int32) => ∀ (v1 : Int32) (v2 : Int32), zq_V G YX5_whoIsAt (1, 0, 0) (zq_ei (zq_shX j) z X) 0 0 4 [(0, .ref (zq_ad G h)), (1, .int a1), (2, .int v1), (3, .int v2)] [] (zq_shX j) z X (rc4_1 v1 v2)) (fun _ _ => none) (b_X5_whoIsAt_4 X h a1) (fun _ _ => zr_none) hbrc4_1 N
  exact zr_lo [2, 3, 1, 0] rfl (hlrc4_1 (0 : Int32) (0 : Int32))
def f_X5_isKnown (N j : Nat) (X : zq_M) (h : Nat) (a1 : Int32) (a2 : Int32) : Option Int32 :=
  zq_ck a1 5 (if ¬ ((zq_shr (X.1 (h + 4) (zq_ix a1)) a2) &&& (1 : Int32)) = (1 : Int32) then (some (0 : Int32)) else (some (1 : Int32)))
set_option maxRecDepth 20000 in
set_option maxHeartbeats 8000000 in
theorem s_X5_isKnown (G : zq_G) (N z j : Nat) (X : zq_M) (h : Nat) (gh : zq_sc (zq_shX j) h = true) (a1 : Int32) (a2 : Int32) : zq_V G YX5_isKnown (1, 0, 0) (zq_ei (zq_shX j) z X) 0 0 0 (lv_args 0 [.ref (zq_ad G h), .int a1, .int a2]) [] (zq_shX j) z X (f_X5_isKnown N j X h a1 a2) := by
  unfold f_X5_isKnown
  refine zr_lo (l2 := [(0, .ref (zq_ad G h)), (1, .int a1), (2, .int a2)]) [0, 1, 2] rfl ?_
  refine zr_aload_n (pc := 0) (zq_d eX5_isKnown 0 rfl) 0 rfl rfl ?_
  refine zr_getC (pc := 1) (zq_d eX5_isKnown 1 rfl) zf_RX5_21 (zq_sc_k4 gh) ?_
  refine zr_iload_n (pc := 4) (zq_d eX5_isKnown 2 rfl) 1 rfl rfl ?_
  refine zr_iald (pc := 5) (zq_d eX5_isKnown 3 rfl) (zq_sc_a4 gh) ?_
  refine zr_iload_n (pc := 6) (zq_d eX5_isKnown 4 rfl) 2 rfl rfl ?_
  refine zr_ishr (pc := 7) (zq_d eX5_isKnown 5 rfl) ?_
  refine zr_iconst (pc := 8) (zq_d eX5_isKnown 6 rfl) zc_i1 ?_
  refine zr_iand (pc := 9) (zq_d eX5_isKnown 7 rfl) ?_
  refine zr_iconst (pc := 10) (zq_d eX5_isKnown 8 rfl) zc_i1 ?_
  refine zr_icmp_ne (pc := 11) 18 (zq_d eX5_isKnown 9 rfl) (by decide) (fun _ => ?_) (fun _ => ?_)
  · refine zr_iconst (pc := 18) (zq_d eX5_isKnown 12 rfl) zc_i0 ?_
    exact zr_zreturn (pc := 19) (zq_d eX5_isKnown 13 rfl) rfl rfl rfl (Nat.zero_le _) (Nat.zero_le _)
  · refine zr_iconst (pc := 14) (zq_d eX5_isKnown 10 rfl) zc_i1 ?_
    refine zr_goto (pc := 15) 19 (zq_d eX5_isKnown 11 rfl) (by decide) ?_
    exact zr_zreturn (pc := 19) (zq_d eX5_isKnown 13 rfl) rfl rfl rfl (Nat.zero_le _) (Nat.zero_le _)
def b_X5_whoKnows_4 (N : Nat) (j : Nat) (X : zq_M) (h : Nat) (a1 : Int32) (rc4_1 : Int32 → Int32 → Option Int32) (v1 : Int32) (v2 : Int32) : Option Int32 :=
  if (X.1 h 0) ≤ v2 then (some v1) else ((f_X5_isKnown N j X h v2 a1).bind (fun v3 => if v3 = 0 then (rc4_1 v1 (v2 + (1 : Int32))) else (rc4_1 (v1 ||| (zq_shl (1 : Int32) v2)) (v2 + (1 : Int32)))))
def f_X5_whoKnows (N j : Nat) (X : zq_M) (h : Nat) (a1 : Int32) : Option Int32 :=
  zq_loop (fun _ _ => none) (b_X5_whoKnows_4 N j X h a1) N (0 : Int32) (0 : Int32)
set_option maxRecDepth 20000 in
set_option maxHeartbeats 8000000 in
theorem s_X5_whoKnows (G : zq_G) (N z j : Nat) (X : zq_M) (h : Nat) (gh : zq_sc (zq_shX j) h = true) (a1 : Int32) : zq_V G YX5_whoKnows (2, 0, 0) (zq_ei (zq_shX j) z X) 0 0 0 (lv_args 0 [.ref (zq_ad G h), .int a1]) [] (zq_shX j) z X (f_X5_whoKnows N j X h a1) := by
  unfold f_X5_whoKnows
  refine zr_lo (l2 := [(0, .ref (zq_ad G h)), (1, .int a1)]) [0, 1] rfl ?_
  refine zr_iconst (pc := 0) (zq_d eX5_whoKnows 0 rfl) zc_i0 ?_
  refine zr_istore_n (pc := 1) (lo2 := [(2, .int (0 : Int32)), (0, .ref (zq_ad G h)), (1, .int a1)]) (zq_d eX5_whoKnows 1 rfl) rfl (Nat.le_of_ble_eq_true rfl) rfl ?_
  refine zr_iconst (pc := 2) (zq_d eX5_whoKnows 2 rfl) zc_i0 ?_
  refine zr_istore_n (pc := 3) (lo2 := [(3, .int (0 : Int32)), (2, .int (0 : Int32)), (0, .ref (zq_ad G h)), (1, .int a1)]) (zq_d eX5_whoKnows 3 rfl) rfl (Nat.le_of_ble_eq_true rfl) rfl ?_
  have hbrc4_1 : ∀ rc4_1 : Int32 → Int32 → Option Int32, (∀ (v1 : Int32) (v2 : Int32), zq_V G YX5_whoKnows (2, 0, 0) (zq_ei (zq_shX j) z X) 0 0 4 [(0, .ref (zq_ad G h)), (1, .int a1), (2, .int v1), (3, .int v2)] [] (zq_shX j) z X (rc4_1 v1 v2)) → ∀ (v1 : Int32) (v2 : Int32), zq_V G YX5_whoKnows (2, 0, 0) (zq_ei (zq_shX j) z X) 0 0 4 [(0, .ref (zq_ad G h)), (1, .int a1), (2, .int v1), (3, .int v2)] [] (zq_shX j) z X (b_X5_whoKnows_4 N j X h a1 rc4_1 v1 v2) := by
    intro rc4_1 hrc4_1 v1 v2
    unfold b_X5_whoKnows_4
    refine zr_iload_n (pc := 4) (zq_d eX5_whoKnows 4 rfl) 3 rfl rfl ?_
    refine zr_aload_n (pc := 5) (zq_d eX5_whoKnows 5 rfl) 0 rfl rfl ?_
    refine zr_getI (pc := 6) (zq_d eX5_whoKnows 6 rfl) zf_RX5_43 (zq_sc_k0 gh) ?_
    refine zr_icmp_ge (pc := 9) 33 (zq_d eX5_whoKnows 7 rfl) (by decide) (fun _ => ?_) (fun _ => ?_)
    · refine zr_iload_n (pc := 33) (zq_d eX5_whoKnows 21 rfl) 2 rfl rfl ?_
      exact zr_ireturn (pc := 34) (zq_d eX5_whoKnows 22 rfl) rfl rfl (Nat.zero_le _) (Nat.zero_le _)
    · refine zr_aload_n (pc := 12) (zq_d eX5_whoKnows 8 rfl) 0 rfl rfl ?_
      refine zr_iload_n (pc := 13) (zq_d eX5_whoKnows 9 rfl) 3 rfl rfl ?_
      refine zr_iload_n (pc := 14) (zq_d eX5_whoKnows 10 rfl) 1 rfl rfl ?_
      refine zr_Vi (pc := 15) [_, _] (zq_d eX5_whoKnows 11 rfl) (s_X5_isKnown G N z j X h gh _ _) zd_X5_isKnown zl_RX5_46 (zq_sc_s gh) rfl rfl rfl rfl (Nat.le_of_ble_eq_true rfl) (Nat.le_of_ble_eq_true rfl) (Nat.le_of_ble_eq_true rfl) ⟨Nat.le_refl _, Nat.le_refl _⟩ (fun v3 => ?_)
      refine zr_if_eq (pc := 18) 27 (zq_d eX5_whoKnows 12 rfl) (by decide) (fun _ => ?_) (fun _ => ?_)
      · refine zr_iinc (pc := 27) (j := 3) (v := (v2 + (1 : Int32))) (lo2 := [(3, .int (v2 + (1 : Int32))), (0, .ref (zq_ad G h)), (1, .int a1), (2, .int v1)]) (zq_d eX5_whoKnows 19 rfl) rfl (by rw [zc_i1]) (Nat.le_of_ble_eq_true rfl) rfl ?_
        refine zr_goto (pc := 30) 4 (zq_d eX5_whoKnows 20 rfl) (by decide) ?_
        exact zr_lo [1, 2, 3, 0] rfl (hrc4_1 v1 (v2 + (1 : Int32)))
      · refine zr_iload_n (pc := 21) (zq_d eX5_whoKnows 13 rfl) 2 rfl rfl ?_
        refine zr_iconst (pc := 22) (zq_d eX5_whoKnows 14 rfl) zc_i1 ?_
        refine zr_iload_n (pc := 23) (zq_d eX5_whoKnows 15 rfl) 3 rfl rfl ?_
        refine zr_ishl (pc := 24) (zq_d eX5_whoKnows 16 rfl) ?_
        refine zr_ior (pc := 25) (zq_d eX5_whoKnows 17 rfl) ?_
        refine zr_istore_n (pc := 26) (lo2 := [(2, .int (v1 ||| (zq_shl (1 : Int32) v2))), (0, .ref (zq_ad G h)), (1, .int a1), (3, .int v2)]) (zq_d eX5_whoKnows 18 rfl) rfl (Nat.le_of_ble_eq_true rfl) rfl ?_
        refine zr_iinc (pc := 27) (j := 3) (v := (v2 + (1 : Int32))) (lo2 := [(3, .int (v2 + (1 : Int32))), (2, .int (v1 ||| (zq_shl (1 : Int32) v2))), (0, .ref (zq_ad G h)), (1, .int a1)]) (zq_d eX5_whoKnows 19 rfl) rfl (by rw [zc_i1]) (Nat.le_of_ble_eq_true rfl) rfl ?_
        refine zr_goto (pc := 30) 4 (zq_d eX5_whoKnows 20 rfl) (by decide) ?_
        exact zr_lo [2, 3, 1, 0] rfl (hrc4_1 (v1 ||| (zq_shl (1 : Int32) v2)) (v2 + (1 : Int32)))
  have hlrc4_1 := zr_loop (P := fun (rc4_1 : Int32 → Int32 → Option Int32) => ∀ (v1 : Int32) (v2 : Int32), zq_V G YX5_whoKnows (2, 0, 0) (zq_ei (zq_shX j) z X) 0 0 4 [(0, .ref (zq_ad G h)), (1, .int a1), (2, .int v1), (3, .int v2)] [] (zq_shX j) z X (rc4_1 v1 v2)) (fun _ _ => none) (b_X5_whoKnows_4 N j X h a1) (fun _ _ => zr_none) hbrc4_1 N
  exact zr_lo [2, 3, 1, 0] rfl (hlrc4_1 (0 : Int32) (0 : Int32))
def f_X5_copyFrom (N j : Nat) (X : zq_M) (h : Nat) (a1 : Nat) : Option zq_M :=
  zq_b (zq_u1 X h 0 (X.1 a1 0)) (fun X1 => zq_ac (0 : Int32) (0 : Int32) (5 : Int32) 5 5 (zq_b (zq_cp1 X1 (a1 + 1) (0 : Int32) (h + 1) (0 : Int32) (5 : Int32)) (fun X2 => zq_ac (0 : Int32) (0 : Int32) (5 : Int32) 5 5 (zq_b (zq_cp1 X2 (a1 + 2) (0 : Int32) (h + 2) (0 : Int32) (5 : Int32)) (fun X3 => zq_ac (0 : Int32) (0 : Int32) (5 : Int32) 5 5 (zq_b (zq_cp1 X3 (a1 + 3) (0 : Int32) (h + 3) (0 : Int32) (5 : Int32)) (fun X4 => zq_ac (0 : Int32) (0 : Int32) (5 : Int32) 5 5 (zq_b (zq_cp1 X4 (a1 + 4) (0 : Int32) (h + 4) (0 : Int32) (5 : Int32)) (fun X5 => zq_ac (0 : Int32) (0 : Int32) (3 : Int32) 3 3 (zq_b (zq_cp1 X5 (a1 + 5) (0 : Int32) (h + 5) (0 : Int32) (3 : Int32)) (fun X6 => zq_ac (0 : Int32) (0 : Int32) (3 : Int32) 3 3 (zq_b (zq_cp1 X6 (a1 + 6) (0 : Int32) (h + 6) (0 : Int32) (3 : Int32)) (fun X7 => zq_b (zq_u1 X7 h 7 (X7.1 a1 7)) (fun X8 => zq_b (zq_u1 X8 h 8 (X8.1 a1 8)) (fun X9 => zq_ac (0 : Int32) (0 : Int32) (12 : Int32) 12 12 (zq_b (zq_cp1 X9 (a1 + 7) (0 : Int32) (h + 7) (0 : Int32) (12 : Int32)) (fun X10 => zq_ac (0 : Int32) (0 : Int32) (12 : Int32) 12 12 (zq_b (zq_cp1 X10 (a1 + 8) (0 : Int32) (h + 8) (0 : Int32) (12 : Int32)) (fun X11 => zq_b (zq_u1 X11 h 11 (X11.1 a1 11)) (fun X12 => zq_ac (0 : Int32) (0 : Int32) (12 : Int32) 12 12 (zq_b (zq_cp1 X12 (a1 + 9) (0 : Int32) (h + 9) (0 : Int32) (12 : Int32)) (fun X13 => zq_b (zq_u1 X13 h 13 (X13.1 a1 13)) (fun X14 => zq_b (zq_u1 X14 h 14 (X14.1 a1 14)) (fun X15 => some X15))))))))))))))))))))))))
set_option maxRecDepth 20000 in
set_option maxHeartbeats 8000000 in
theorem s_X5_copyFrom (G : zq_G) (N z j : Nat) (X : zq_M) (h : Nat) (gh : zq_sc (zq_shX j) h = true) (a1 : Nat) (ga1 : zq_sc (zq_shX j) a1 = true) : zq_V G YX5_copyFrom (2, 0, 0) (zq_sv (zq_shX j) z) 0 0 0 (lv_args 0 [.ref (zq_ad G h), .ref (zq_ad G a1)]) [] (zq_shX j) z X (f_X5_copyFrom N j X h a1) := by
  unfold f_X5_copyFrom
  refine zr_lo (l2 := [(0, .ref (zq_ad G h)), (1, .ref (zq_ad G a1))]) [0, 1] rfl ?_
  refine zr_aload_n (pc := 0) (zq_d eX5_copyFrom 0 rfl) 0 rfl rfl ?_
  refine zr_aload_n (pc := 1) (zq_d eX5_copyFrom 1 rfl) 1 rfl rfl ?_
  refine zr_getI (pc := 2) (zq_d eX5_copyFrom 2 rfl) zf_RX5_43 (zq_sc_k0 ga1) ?_
  refine zr_putI (pc := 5) (zq_d eX5_copyFrom 3 rfl) zf_RX5_43 (zq_sc_k0 gh) zn_5_0 (fun X1 => ?_)
  refine zr_aload_n (pc := 8) (zq_d eX5_copyFrom 4 rfl) 1 rfl rfl ?_
  refine zr_getC (pc := 9) (zq_d eX5_copyFrom 5 rfl) zf_RX5_9 (zq_sc_k1 ga1) ?_
  refine zr_iconst (pc := 12) (zq_d eX5_copyFrom 6 rfl) zc_i0 ?_
  refine zr_aload_n (pc := 13) (zq_d eX5_copyFrom 7 rfl) 0 rfl rfl ?_
  refine zr_getC (pc := 14) (zq_d eX5_copyFrom 8 rfl) zf_RX5_9 (zq_sc_k1 gh) ?_
  refine zr_iconst (pc := 17) (zq_d eX5_copyFrom 9 rfl) zc_i0 ?_
  refine zr_iconst (pc := 18) (zq_d eX5_copyFrom 10 rfl) zc_i5 ?_
  refine zr_cpi (pc := 19) (zq_d eX5_copyFrom 11 rfl) zl_RX5_50 (zq_sc_a1 ga1) (zq_sc_a1 gh) (Nat.le_of_ble_eq_true rfl) (Nat.le_of_ble_eq_true rfl) (fun X2 => ?_)
  refine zr_aload_n (pc := 22) (zq_d eX5_copyFrom 12 rfl) 1 rfl rfl ?_
  refine zr_getC (pc := 23) (zq_d eX5_copyFrom 13 rfl) zf_RX5_15 (zq_sc_k2 ga1) ?_
  refine zr_iconst (pc := 26) (zq_d eX5_copyFrom 14 rfl) zc_i0 ?_
  refine zr_aload_n (pc := 27) (zq_d eX5_copyFrom 15 rfl) 0 rfl rfl ?_
  refine zr_getC (pc := 28) (zq_d eX5_copyFrom 16 rfl) zf_RX5_15 (zq_sc_k2 gh) ?_
  refine zr_iconst (pc := 31) (zq_d eX5_copyFrom 17 rfl) zc_i0 ?_
  refine zr_iconst (pc := 32) (zq_d eX5_copyFrom 18 rfl) zc_i5 ?_
  refine zr_cpi (pc := 33) (zq_d eX5_copyFrom 19 rfl) zl_RX5_50 (zq_sc_a2 ga1) (zq_sc_a2 gh) (Nat.le_of_ble_eq_true rfl) (Nat.le_of_ble_eq_true rfl) (fun X3 => ?_)
  refine zr_aload_n (pc := 36) (zq_d eX5_copyFrom 20 rfl) 1 rfl rfl ?_
  refine zr_getC (pc := 37) (zq_d eX5_copyFrom 21 rfl) zf_RX5_18 (zq_sc_k3 ga1) ?_
  refine zr_iconst (pc := 40) (zq_d eX5_copyFrom 22 rfl) zc_i0 ?_
  refine zr_aload_n (pc := 41) (zq_d eX5_copyFrom 23 rfl) 0 rfl rfl ?_
  refine zr_getC (pc := 42) (zq_d eX5_copyFrom 24 rfl) zf_RX5_18 (zq_sc_k3 gh) ?_
  refine zr_iconst (pc := 45) (zq_d eX5_copyFrom 25 rfl) zc_i0 ?_
  refine zr_iconst (pc := 46) (zq_d eX5_copyFrom 26 rfl) zc_i5 ?_
  refine zr_cpi (pc := 47) (zq_d eX5_copyFrom 27 rfl) zl_RX5_50 (zq_sc_a3 ga1) (zq_sc_a3 gh) (Nat.le_of_ble_eq_true rfl) (Nat.le_of_ble_eq_true rfl) (fun X4 => ?_)
  refine zr_aload_n (pc := 50) (zq_d eX5_copyFrom 28 rfl) 1 rfl rfl ?_
  refine zr_getC (pc := 51) (zq_d eX5_copyFrom 29 rfl) zf_RX5_21 (zq_sc_k4 ga1) ?_
  refine zr_iconst (pc := 54) (zq_d eX5_copyFrom 30 rfl) zc_i0 ?_
  refine zr_aload_n (pc := 55) (zq_d eX5_copyFrom 31 rfl) 0 rfl rfl ?_
  refine zr_getC (pc := 56) (zq_d eX5_copyFrom 32 rfl) zf_RX5_21 (zq_sc_k4 gh) ?_
  refine zr_iconst (pc := 59) (zq_d eX5_copyFrom 33 rfl) zc_i0 ?_
  refine zr_iconst (pc := 60) (zq_d eX5_copyFrom 34 rfl) zc_i5 ?_
  refine zr_cpi (pc := 61) (zq_d eX5_copyFrom 35 rfl) zl_RX5_50 (zq_sc_a4 ga1) (zq_sc_a4 gh) (Nat.le_of_ble_eq_true rfl) (Nat.le_of_ble_eq_true rfl) (fun X5 => ?_)
  refine zr_aload_n (pc := 64) (zq_d eX5_copyFrom 36 rfl) 1 rfl rfl ?_
  refine zr_getC (pc := 65) (zq_d eX5_copyFrom 37 rfl) zf_RX5_24 (zq_sc_k5 ga1) ?_
  refine zr_iconst (pc := 68) (zq_d eX5_copyFrom 38 rfl) zc_i0 ?_
  refine zr_aload_n (pc := 69) (zq_d eX5_copyFrom 39 rfl) 0 rfl rfl ?_
  refine zr_getC (pc := 70) (zq_d eX5_copyFrom 40 rfl) zf_RX5_24 (zq_sc_k5 gh) ?_
  refine zr_iconst (pc := 73) (zq_d eX5_copyFrom 41 rfl) zc_i0 ?_
  refine zr_iconst (pc := 74) (zq_d eX5_copyFrom 42 rfl) zc_i3 ?_
  refine zr_cpi (pc := 75) (zq_d eX5_copyFrom 43 rfl) zl_RX5_50 (zq_sc_a5 ga1) (zq_sc_a5 gh) (Nat.le_of_ble_eq_true rfl) (Nat.le_of_ble_eq_true rfl) (fun X6 => ?_)
  refine zr_aload_n (pc := 78) (zq_d eX5_copyFrom 44 rfl) 1 rfl rfl ?_
  refine zr_getC (pc := 79) (zq_d eX5_copyFrom 45 rfl) zf_RX5_27 (zq_sc_k6 ga1) ?_
  refine zr_iconst (pc := 82) (zq_d eX5_copyFrom 46 rfl) zc_i0 ?_
  refine zr_aload_n (pc := 83) (zq_d eX5_copyFrom 47 rfl) 0 rfl rfl ?_
  refine zr_getC (pc := 84) (zq_d eX5_copyFrom 48 rfl) zf_RX5_27 (zq_sc_k6 gh) ?_
  refine zr_iconst (pc := 87) (zq_d eX5_copyFrom 49 rfl) zc_i0 ?_
  refine zr_iconst (pc := 88) (zq_d eX5_copyFrom 50 rfl) zc_i3 ?_
  refine zr_cpi (pc := 89) (zq_d eX5_copyFrom 51 rfl) zl_RX5_50 (zq_sc_a6 ga1) (zq_sc_a6 gh) (Nat.le_of_ble_eq_true rfl) (Nat.le_of_ble_eq_true rfl) (fun X7 => ?_)
  refine zr_aload_n (pc := 92) (zq_d eX5_copyFrom 52 rfl) 0 rfl rfl ?_
  refine zr_aload_n (pc := 93) (zq_d eX5_copyFrom 53 rfl) 1 rfl rfl ?_
  refine zr_getI (pc := 94) (zq_d eX5_copyFrom 54 rfl) zf_RX5_56 (zq_sc_k7 ga1) ?_
  refine zr_putI (pc := 97) (zq_d eX5_copyFrom 55 rfl) zf_RX5_56 (zq_sc_k7 gh) zn_5_7 (fun X8 => ?_)
  refine zr_aload_n (pc := 100) (zq_d eX5_copyFrom 56 rfl) 0 rfl rfl ?_
  refine zr_aload_n (pc := 101) (zq_d eX5_copyFrom 57 rfl) 1 rfl rfl ?_
  refine zr_getI (pc := 102) (zq_d eX5_copyFrom 58 rfl) zf_RX5_59 (zq_sc_k8 ga1) ?_
  refine zr_putI (pc := 105) (zq_d eX5_copyFrom 59 rfl) zf_RX5_59 (zq_sc_k8 gh) zn_5_8 (fun X9 => ?_)
  refine zr_aload_n (pc := 108) (zq_d eX5_copyFrom 60 rfl) 1 rfl rfl ?_
  refine zr_getC (pc := 109) (zq_d eX5_copyFrom 61 rfl) zf_RX5_30 (zq_sc_k9 ga1) ?_
  refine zr_iconst (pc := 112) (zq_d eX5_copyFrom 62 rfl) zc_i0 ?_
  refine zr_aload_n (pc := 113) (zq_d eX5_copyFrom 63 rfl) 0 rfl rfl ?_
  refine zr_getC (pc := 114) (zq_d eX5_copyFrom 64 rfl) zf_RX5_30 (zq_sc_k9 gh) ?_
  refine zr_iconst (pc := 117) (zq_d eX5_copyFrom 65 rfl) zc_i0 ?_
  refine zr_bipush (pc := 118) (zq_d eX5_copyFrom 66 rfl) zc_b12 ?_
  refine zr_cpi (pc := 120) (zq_d eX5_copyFrom 67 rfl) zl_RX5_50 (zq_sc_a7 ga1) (zq_sc_a7 gh) (Nat.le_of_ble_eq_true rfl) (Nat.le_of_ble_eq_true rfl) (fun X10 => ?_)
  refine zr_aload_n (pc := 123) (zq_d eX5_copyFrom 68 rfl) 1 rfl rfl ?_
  refine zr_getC (pc := 124) (zq_d eX5_copyFrom 69 rfl) zf_RX5_33 (zq_sc_k10 ga1) ?_
  refine zr_iconst (pc := 127) (zq_d eX5_copyFrom 70 rfl) zc_i0 ?_
  refine zr_aload_n (pc := 128) (zq_d eX5_copyFrom 71 rfl) 0 rfl rfl ?_
  refine zr_getC (pc := 129) (zq_d eX5_copyFrom 72 rfl) zf_RX5_33 (zq_sc_k10 gh) ?_
  refine zr_iconst (pc := 132) (zq_d eX5_copyFrom 73 rfl) zc_i0 ?_
  refine zr_bipush (pc := 133) (zq_d eX5_copyFrom 74 rfl) zc_b12 ?_
  refine zr_cpi (pc := 135) (zq_d eX5_copyFrom 75 rfl) zl_RX5_50 (zq_sc_a8 ga1) (zq_sc_a8 gh) (Nat.le_of_ble_eq_true rfl) (Nat.le_of_ble_eq_true rfl) (fun X11 => ?_)
  refine zr_aload_n (pc := 138) (zq_d eX5_copyFrom 76 rfl) 0 rfl rfl ?_
  refine zr_aload_n (pc := 139) (zq_d eX5_copyFrom 77 rfl) 1 rfl rfl ?_
  refine zr_getI (pc := 140) (zq_d eX5_copyFrom 78 rfl) zf_RX5_62 (zq_sc_k11 ga1) ?_
  refine zr_putI (pc := 143) (zq_d eX5_copyFrom 79 rfl) zf_RX5_62 (zq_sc_k11 gh) zn_5_11 (fun X12 => ?_)
  refine zr_aload_n (pc := 146) (zq_d eX5_copyFrom 80 rfl) 1 rfl rfl ?_
  refine zr_getC (pc := 147) (zq_d eX5_copyFrom 81 rfl) zf_RX5_36 (zq_sc_k12 ga1) ?_
  refine zr_iconst (pc := 150) (zq_d eX5_copyFrom 82 rfl) zc_i0 ?_
  refine zr_aload_n (pc := 151) (zq_d eX5_copyFrom 83 rfl) 0 rfl rfl ?_
  refine zr_getC (pc := 152) (zq_d eX5_copyFrom 84 rfl) zf_RX5_36 (zq_sc_k12 gh) ?_
  refine zr_iconst (pc := 155) (zq_d eX5_copyFrom 85 rfl) zc_i0 ?_
  refine zr_bipush (pc := 156) (zq_d eX5_copyFrom 86 rfl) zc_b12 ?_
  refine zr_cpi (pc := 158) (zq_d eX5_copyFrom 87 rfl) zl_RX5_50 (zq_sc_a9 ga1) (zq_sc_a9 gh) (Nat.le_of_ble_eq_true rfl) (Nat.le_of_ble_eq_true rfl) (fun X13 => ?_)
  refine zr_aload_n (pc := 161) (zq_d eX5_copyFrom 88 rfl) 0 rfl rfl ?_
  refine zr_aload_n (pc := 162) (zq_d eX5_copyFrom 89 rfl) 1 rfl rfl ?_
  refine zr_getI (pc := 163) (zq_d eX5_copyFrom 90 rfl) zf_RX5_65 (zq_sc_k13 ga1) ?_
  refine zr_putI (pc := 166) (zq_d eX5_copyFrom 91 rfl) zf_RX5_65 (zq_sc_k13 gh) zn_5_13 (fun X14 => ?_)
  refine zr_aload_n (pc := 169) (zq_d eX5_copyFrom 92 rfl) 0 rfl rfl ?_
  refine zr_aload_n (pc := 170) (zq_d eX5_copyFrom 93 rfl) 1 rfl rfl ?_
  refine zr_getI (pc := 171) (zq_d eX5_copyFrom 94 rfl) zf_RX5_39 (zq_sc_k14 ga1) ?_
  refine zr_putI (pc := 174) (zq_d eX5_copyFrom 95 rfl) zf_RX5_39 (zq_sc_k14 gh) zn_5_14 (fun X15 => ?_)
  exact zr_vreturn (pc := 177) (zq_d eX5_copyFrom 96 rfl) rfl rfl (Nat.zero_le _) (Nat.zero_le _)
def f_X6_look (N j : Nat) (X : zq_M) (a1 : Nat) : Option zq_M :=
  zq_b (zq_u3 X 35 1 (some a1)) (fun X1 => some X1)
set_option maxRecDepth 20000 in
set_option maxHeartbeats 8000000 in
theorem s_X6_look (G : zq_G) (N z j : Nat) (X : zq_M) (a1 : Nat) (ga1 : zq_ho (zq_shX j) a1 = true) : zq_V G YX6_look (1, 0, 0) (zq_sv (zq_shX j) z) 0 0 0 (lv_args 0 [.ref (zq_ad G 35), .ref (zq_ad G a1)]) [] (zq_shX j) z X (f_X6_look N j X a1) := by
  unfold f_X6_look
  refine zr_lo (l2 := [(0, .ref (zq_ad G 35)), (1, .ref (zq_ad G a1))]) [0, 1] rfl ?_
  refine zr_aload_n (pc := 0) (zq_d eX6_look 0 rfl) 0 rfl rfl ?_
  refine zr_aload_n (pc := 1) (zq_d eX6_look 1 rfl) 1 rfl rfl ?_
  refine zr_putR (pc := 2) (zq_d eX6_look 2 rfl) zf_RX6_34 (kx_35_1 j) zn_6_1 rfl rfl (fun X1 => ?_)
  exact zr_vreturn (pc := 5) (zq_d eX6_look 3 rfl) rfl rfl (Nat.zero_le _) (Nat.zero_le _)
def j_X6_setFacts_63 (a4 : Int32) (X4 : zq_M) (v5 : Int32) : Option zq_M :=
  zq_ck (4 : Int32) 6 (zq_b (zq_u1 X4 36 (zq_ix (4 : Int32)) v5) (fun X6 => zq_ck (5 : Int32) 6 (zq_b (zq_u1 X6 36 (zq_ix (5 : Int32)) a4) (fun X7 => some X7))))
def f_X6_setFacts (N j : Nat) (X : zq_M) (a1 : Int32) (a2 : Int32) (a3 : Int32) (a4 : Int32) : Option zq_M :=
  zq_ck (0 : Int32) 6 (zq_b (zq_u1 X 36 (zq_ix (0 : Int32)) a1) (fun X1 => zq_ck (1 : Int32) 6 (zq_b (zq_u1 X1 36 (zq_ix (1 : Int32)) a2) (fun X2 => zq_ck a1 5 (zq_ck (2 : Int32) 6 (zq_b (zq_u1 X2 36 (zq_ix (2 : Int32)) ((X2.1 2 (zq_ix a1)) / (10 : Int32))) (fun X3 => zq_ck (3 : Int32) 6 (zq_b (zq_u1 X3 36 (zq_ix (3 : Int32)) a3) (fun X4 => if ¬ a2 = (3 : Int32) then (zq_ck a2 3 (j_X6_setFacts_63 a4 X4 (X4.1 6 (zq_ix a2)))) else (j_X6_setFacts_63 a4 X4 (9 : Int32)))))))))))
set_option maxRecDepth 20000 in
set_option maxHeartbeats 8000000 in
theorem s_X6_setFacts (G : zq_G) (N z j : Nat) (X : zq_M) (a1 : Int32) (a2 : Int32) (a3 : Int32) (a4 : Int32) : zq_V G YX6_setFacts (1, 0, 0) (zq_sv (zq_shX j) z) 0 0 0 (lv_args 0 [.ref (zq_ad G 35), .int a1, .int a2, .int a3, .int a4]) [] (zq_shX j) z X (f_X6_setFacts N j X a1 a2 a3 a4) := by
  unfold f_X6_setFacts
  refine zr_lo (l2 := [(0, .ref (zq_ad G 35)), (1, .int a1), (2, .int a2), (3, .int a3), (4, .int a4)]) [0, 1, 2, 3, 4] rfl ?_
  refine zr_aload_n (pc := 0) (zq_d eX6_setFacts 0 rfl) 0 rfl rfl ?_
  refine zr_getC (pc := 1) (zq_d eX6_setFacts 1 rfl) zf_RX6_11 (kx_35_2 j) ?_
  refine zr_iconst (pc := 4) (zq_d eX6_setFacts 2 rfl) zc_i0 ?_
  refine zr_iload_n (pc := 5) (zq_d eX6_setFacts 3 rfl) 1 rfl rfl ?_
  refine zr_iast (pc := 6) (zq_d eX6_setFacts 4 rfl) (ax_36 j) (fun X1 => ?_)
  refine zr_aload_n (pc := 7) (zq_d eX6_setFacts 5 rfl) 0 rfl rfl ?_
  refine zr_getC (pc := 8) (zq_d eX6_setFacts 6 rfl) zf_RX6_11 (kx_35_2 j) ?_
  refine zr_iconst (pc := 11) (zq_d eX6_setFacts 7 rfl) zc_i1 ?_
  refine zr_iload_n (pc := 12) (zq_d eX6_setFacts 8 rfl) 2 rfl rfl ?_
  refine zr_iast (pc := 13) (zq_d eX6_setFacts 9 rfl) (ax_36 j) (fun X2 => ?_)
  refine zr_aload_n (pc := 14) (zq_d eX6_setFacts 10 rfl) 0 rfl rfl ?_
  refine zr_getC (pc := 15) (zq_d eX6_setFacts 11 rfl) zf_RX6_11 (kx_35_2 j) ?_
  refine zr_iconst (pc := 18) (zq_d eX6_setFacts 12 rfl) zc_i2 ?_
  refine zr_aload_n (pc := 19) (zq_d eX6_setFacts 13 rfl) 0 rfl rfl ?_
  refine zr_getC (pc := 20) (zq_d eX6_setFacts 14 rfl) zf_RX6_30 (kx_35_0 j) ?_
  refine zr_getC (pc := 23) (zq_d eX6_setFacts 15 rfl) zf_RX6_61 (kx_1_1 j) ?_
  refine zr_iload_n (pc := 26) (zq_d eX6_setFacts 16 rfl) 1 rfl rfl ?_
  refine zr_iald (pc := 27) (zq_d eX6_setFacts 17 rfl) (ax_2 j) ?_
  refine zr_bipush (pc := 28) (zq_d eX6_setFacts 18 rfl) zc_b10 ?_
  refine zr_idivk (pc := 30) (zq_d eX6_setFacts 19 rfl) (by decide) ?_
  refine zr_iast (pc := 31) (zq_d eX6_setFacts 20 rfl) (ax_36 j) (fun X3 => ?_)
  refine zr_aload_n (pc := 32) (zq_d eX6_setFacts 21 rfl) 0 rfl rfl ?_
  refine zr_getC (pc := 33) (zq_d eX6_setFacts 22 rfl) zf_RX6_11 (kx_35_2 j) ?_
  refine zr_iconst (pc := 36) (zq_d eX6_setFacts 23 rfl) zc_i3 ?_
  refine zr_iload_n (pc := 37) (zq_d eX6_setFacts 24 rfl) 3 rfl rfl ?_
  refine zr_iast (pc := 38) (zq_d eX6_setFacts 25 rfl) (ax_36 j) (fun X4 => ?_)
  refine zr_aload_n (pc := 39) (zq_d eX6_setFacts 26 rfl) 0 rfl rfl ?_
  refine zr_getC (pc := 40) (zq_d eX6_setFacts 27 rfl) zf_RX6_11 (kx_35_2 j) ?_
  refine zr_iconst (pc := 43) (zq_d eX6_setFacts 28 rfl) zc_i4 ?_
  refine zr_iload_n (pc := 44) (zq_d eX6_setFacts 29 rfl) 2 rfl rfl ?_
  refine zr_iconst (pc := 45) (zq_d eX6_setFacts 30 rfl) zc_i3 ?_
  have hj63_1 : ∀ (v5 : Int32), zq_V G YX6_setFacts (1, 0, 0) (zq_sv (zq_shX j) z) 0 0 63 [(0, .ref (zq_ad G 35)), (4, .int a4)] [.int v5, .int (4 : Int32), .ref (zq_ad G 36)] (zq_shX j) z X4 (j_X6_setFacts_63 a4 X4 v5) := by
    intro v5
    unfold j_X6_setFacts_63
    refine zr_iast (pc := 63) (zq_d eX6_setFacts 39 rfl) (ax_36 j) (fun X6 => ?_)
    refine zr_aload_n (pc := 64) (zq_d eX6_setFacts 40 rfl) 0 rfl rfl ?_
    refine zr_getC (pc := 65) (zq_d eX6_setFacts 41 rfl) zf_RX6_11 (kx_35_2 j) ?_
    refine zr_iconst (pc := 68) (zq_d eX6_setFacts 42 rfl) zc_i5 ?_
    refine zr_iload (pc := 69) (zq_d eX6_setFacts 43 rfl) 1 rfl ?_
    refine zr_iast (pc := 71) (zq_d eX6_setFacts 44 rfl) (ax_36 j) (fun X7 => ?_)
    exact zr_vreturn (pc := 72) (zq_d eX6_setFacts 45 rfl) rfl rfl (Nat.zero_le _) (Nat.zero_le _)
  refine zr_icmp_ne (pc := 46) 54 (zq_d eX6_setFacts 31 rfl) (by decide) (fun _ => ?_) (fun _ => ?_)
  · refine zr_aload_n (pc := 54) (zq_d eX6_setFacts 34 rfl) 0 rfl rfl ?_
    refine zr_getC (pc := 55) (zq_d eX6_setFacts 35 rfl) zf_RX6_30 (kx_35_0 j) ?_
    refine zr_getC (pc := 58) (zq_d eX6_setFacts 36 rfl) zf_RX6_64 (kx_1_5 j) ?_
    refine zr_iload_n (pc := 61) (zq_d eX6_setFacts 37 rfl) 2 rfl rfl ?_
    refine zr_iald (pc := 62) (zq_d eX6_setFacts 38 rfl) (ax_6 j) ?_
    exact zr_lo [0, 4] rfl (hj63_1 (X4.1 6 (zq_ix a2)))
  · refine zr_bipush (pc := 49) (zq_d eX6_setFacts 32 rfl) zc_b9 ?_
    refine zr_goto (pc := 51) 63 (zq_d eX6_setFacts 33 rfl) (by decide) ?_
    exact zr_lo [0, 4] rfl (hj63_1 (9 : Int32))
def f_X6_priceOf (N j : Nat) (X : zq_M) (a1 : Int32) (a2 : Int32) (a3 : Int32) : Option (Int32 × zq_M) :=
  (f_X6_setFacts N j X a1 a2 a3 (99 : Int32)).bind (fun X1 => zq_nn (X1.2.2 35 1) (zq_ho (zq_shX j)) (fun h2 => (f_X2_together N j X1 h2 (0 : Int32)).bind (fun v3 => some (((1 : Int32) + v3), X1))))
set_option maxRecDepth 20000 in
set_option maxHeartbeats 8000000 in
theorem s_X6_priceOf (G : zq_G) (N z j : Nat) (X : zq_M) (a1 : Int32) (a2 : Int32) (a3 : Int32) : zq_V G YX6_priceOf (4, 0, 0) (zq_si (zq_shX j) z) 0 0 0 (lv_args 0 [.ref (zq_ad G 35), .int a1, .int a2, .int a3]) [] (zq_shX j) z X (f_X6_priceOf N j X a1 a2 a3) := by
  unfold f_X6_priceOf
  refine zr_lo (l2 := [(0, .ref (zq_ad G 35)), (1, .int a1), (2, .int a2), (3, .int a3)]) [0, 1, 2, 3] rfl ?_
  refine zr_aload_n (pc := 0) (zq_d eX6_priceOf 0 rfl) 0 rfl rfl ?_
  refine zr_iload_n (pc := 1) (zq_d eX6_priceOf 1 rfl) 1 rfl rfl ?_
  refine zr_iload_n (pc := 2) (zq_d eX6_priceOf 2 rfl) 2 rfl rfl ?_
  refine zr_iload_n (pc := 3) (zq_d eX6_priceOf 3 rfl) 3 rfl rfl ?_
  refine zr_bipush (pc := 4) (zq_d eX6_priceOf 4 rfl) zc_b99 ?_
  refine zr_Vv (pc := 6) [_, _, _, _] (zq_d eX6_priceOf 5 rfl) (s_X6_setFacts G N z j X _ _ _ _) zd_X6_setFacts zl_RX6_38 (ox_35 j) rfl rfl rfl rfl (Nat.le_of_ble_eq_true rfl) (Nat.le_of_ble_eq_true rfl) (Nat.le_of_ble_eq_true rfl) ⟨Nat.le_refl _, Nat.le_refl _⟩ (fun X1 => ?_)
  refine zr_iconst (pc := 9) (zq_d eX6_priceOf 6 rfl) zc_i1 ?_
  refine zr_aload_n (pc := 10) (zq_d eX6_priceOf 7 rfl) 0 rfl rfl ?_
  refine zr_getR (pc := 11) (zq_d eX6_priceOf 8 rfl) zf_RX6_34 (kx_35_1 j) (fun h2 gh2 => ?_)
  refine zr_iconst (pc := 14) (zq_d eX6_priceOf 9 rfl) zc_i0 ?_
  refine zr_aload_n (pc := 15) (zq_d eX6_priceOf 10 rfl) 0 rfl rfl ?_
  refine zr_getC (pc := 16) (zq_d eX6_priceOf 11 rfl) zf_RX6_11 (kx_35_2 j) ?_
  refine zr_Vi (pc := 19) [_, _] (zq_d eX6_priceOf 12 rfl) (s_X2_together G N z j X1 h2 gh2 _) zd_X2_together zl_RX6_42 (zq_ho_s gh2) rfl rfl rfl rfl (Nat.le_of_ble_eq_true rfl) (Nat.le_of_ble_eq_true rfl) (Nat.le_of_ble_eq_true rfl) ⟨Nat.le_refl _, Nat.le_refl _⟩ (fun v3 => ?_)
  refine zr_iadd (pc := 22) (zq_d eX6_priceOf 13 rfl) ?_
  exact zr_ireturn (pc := 23) (zq_d eX6_priceOf 14 rfl) rfl rfl (Nat.zero_le _) (Nat.zero_le _)
def f_X6_isBarred (N j : Nat) (X : zq_M) (a1 : Int32) (a2 : Int32) (a3 : Int32) : Option (Int32 × zq_M) :=
  (f_X6_setFacts N j X a1 a2 a3 (99 : Int32)).bind (fun X1 => zq_nn (X1.2.2 35 1) (zq_ho (zq_shX j)) (fun h2 => (f_X2_hasBar N j X1 h2).bind (fun v3 => zq_gz v3 (some (v3, X1)))))
set_option maxRecDepth 20000 in
set_option maxHeartbeats 8000000 in
theorem s_X6_isBarred (G : zq_G) (N z j : Nat) (X : zq_M) (a1 : Int32) (a2 : Int32) (a3 : Int32) : zq_V G YX6_isBarred (4, 0, 0) (zq_si (zq_shX j) z) 0 0 0 (lv_args 0 [.ref (zq_ad G 35), .int a1, .int a2, .int a3]) [] (zq_shX j) z X (f_X6_isBarred N j X a1 a2 a3) := by
  unfold f_X6_isBarred
  refine zr_lo (l2 := [(0, .ref (zq_ad G 35)), (1, .int a1), (2, .int a2), (3, .int a3)]) [0, 1, 2, 3] rfl ?_
  refine zr_aload_n (pc := 0) (zq_d eX6_isBarred 0 rfl) 0 rfl rfl ?_
  refine zr_iload_n (pc := 1) (zq_d eX6_isBarred 1 rfl) 1 rfl rfl ?_
  refine zr_iload_n (pc := 2) (zq_d eX6_isBarred 2 rfl) 2 rfl rfl ?_
  refine zr_iload_n (pc := 3) (zq_d eX6_isBarred 3 rfl) 3 rfl rfl ?_
  refine zr_bipush (pc := 4) (zq_d eX6_isBarred 4 rfl) zc_b99 ?_
  refine zr_Vv (pc := 6) [_, _, _, _] (zq_d eX6_isBarred 5 rfl) (s_X6_setFacts G N z j X _ _ _ _) zd_X6_setFacts zl_RX6_38 (ox_35 j) rfl rfl rfl rfl (Nat.le_of_ble_eq_true rfl) (Nat.le_of_ble_eq_true rfl) (Nat.le_of_ble_eq_true rfl) ⟨Nat.le_refl _, Nat.le_refl _⟩ (fun X1 => ?_)
  refine zr_aload_n (pc := 9) (zq_d eX6_isBarred 6 rfl) 0 rfl rfl ?_
  refine zr_getR (pc := 10) (zq_d eX6_isBarred 7 rfl) zf_RX6_34 (kx_35_1 j) (fun h2 gh2 => ?_)
  refine zr_aload_n (pc := 13) (zq_d eX6_isBarred 8 rfl) 0 rfl rfl ?_
  refine zr_getC (pc := 14) (zq_d eX6_isBarred 9 rfl) zf_RX6_11 (kx_35_2 j) ?_
  refine zr_Vi (pc := 17) [_] (zq_d eX6_isBarred 10 rfl) (s_X2_hasBar G N z j X1 h2 gh2) zd_X2_hasBar zl_RX6_46 (zq_ho_s gh2) rfl rfl rfl rfl (Nat.le_of_ble_eq_true rfl) (Nat.le_of_ble_eq_true rfl) (Nat.le_of_ble_eq_true rfl) ⟨Nat.le_refl _, Nat.le_refl _⟩ (fun v3 => ?_)
  exact zr_zreturnG (pc := 20) (zq_d eX6_isBarred 11 rfl) rfl rfl (Nat.zero_le _) (Nat.zero_le _)
def f_X6_worthTo (N j : Nat) (X : zq_M) (a1 : Int32) (a2 : Int32) (a3 : Int32) : Option (Int32 × zq_M) :=
  (f_X5_whoIsAt N j X 1 a2).bind (fun v1 => (f_J6_bitCount_0f7a4 N (zq_shX j) X v1).bind (fun v2 => (f_X6_setFacts N j X a1 a2 v2 a3).bind (fun X3 => zq_nn (X3.2.2 35 1) (zq_ho (zq_shX j)) (fun h4 => (f_X2_together N j X3 h4 (2 : Int32)).bind (fun v5 => some (v5, X3))))))
set_option maxRecDepth 20000 in
set_option maxHeartbeats 8000000 in
theorem s_X6_worthTo (G : zq_G) (N z j : Nat) (X : zq_M) (a1 : Int32) (a2 : Int32) (a3 : Int32) : zq_V G YX6_worthTo (4, 0, 0) (zq_si (zq_shX j) z) 0 0 0 (lv_args 0 [.ref (zq_ad G 35), .int a1, .int a2, .int a3]) [] (zq_shX j) z X (f_X6_worthTo N j X a1 a2 a3) := by
  unfold f_X6_worthTo
  refine zr_lo (l2 := [(0, .ref (zq_ad G 35)), (1, .int a1), (2, .int a2), (3, .int a3)]) [0, 1, 2, 3] rfl ?_
  refine zr_aload_n (pc := 0) (zq_d eX6_worthTo 0 rfl) 0 rfl rfl ?_
  refine zr_iload_n (pc := 1) (zq_d eX6_worthTo 1 rfl) 1 rfl rfl ?_
  refine zr_iload_n (pc := 2) (zq_d eX6_worthTo 2 rfl) 2 rfl rfl ?_
  refine zr_aload_n (pc := 3) (zq_d eX6_worthTo 3 rfl) 0 rfl rfl ?_
  refine zr_getC (pc := 4) (zq_d eX6_worthTo 4 rfl) zf_RX6_30 (kx_35_0 j) ?_
  refine zr_iload_n (pc := 7) (zq_d eX6_worthTo 5 rfl) 2 rfl rfl ?_
  refine zr_Vi (pc := 8) [_] (zq_d eX6_worthTo 6 rfl) (s_X5_whoIsAt G N z j X 1 (zsc_1 j) _) zd_X5_whoIsAt zl_RX6_50 (ox_1 j) rfl rfl rfl rfl (Nat.le_of_ble_eq_true rfl) (Nat.le_of_ble_eq_true rfl) (Nat.le_of_ble_eq_true rfl) ⟨Nat.le_refl _, Nat.le_refl _⟩ (fun v1 => ?_)
  refine zr_Si (pc := 11) [_] (zq_d eX6_worthTo 7 rfl) (s_J6_bitCount_0f7a4 G N z (zq_shX j) X _) zd_J6_bitCount_0f7a4 zl_RX6_56 rfl rfl (Nat.le_of_ble_eq_true rfl) (Nat.le_of_ble_eq_true rfl) (Nat.le_of_ble_eq_true rfl) ⟨Nat.le_refl _, Nat.le_refl _⟩ (fun v2 => ?_)
  refine zr_iload_n (pc := 14) (zq_d eX6_worthTo 8 rfl) 3 rfl rfl ?_
  refine zr_Vv (pc := 15) [_, _, _, _] (zq_d eX6_worthTo 9 rfl) (s_X6_setFacts G N z j X _ _ _ _) zd_X6_setFacts zl_RX6_38 (ox_35 j) rfl rfl rfl rfl (Nat.le_of_ble_eq_true rfl) (Nat.le_of_ble_eq_true rfl) (Nat.le_of_ble_eq_true rfl) ⟨Nat.le_refl _, Nat.le_refl _⟩ (fun X3 => ?_)
  refine zr_aload_n (pc := 18) (zq_d eX6_worthTo 10 rfl) 0 rfl rfl ?_
  refine zr_getR (pc := 19) (zq_d eX6_worthTo 11 rfl) zf_RX6_34 (kx_35_1 j) (fun h4 gh4 => ?_)
  refine zr_iconst (pc := 22) (zq_d eX6_worthTo 12 rfl) zc_i2 ?_
  refine zr_aload_n (pc := 23) (zq_d eX6_worthTo 13 rfl) 0 rfl rfl ?_
  refine zr_getC (pc := 24) (zq_d eX6_worthTo 14 rfl) zf_RX6_11 (kx_35_2 j) ?_
  refine zr_Vi (pc := 27) [_, _] (zq_d eX6_worthTo 15 rfl) (s_X2_together G N z j X3 h4 gh4 _) zd_X2_together zl_RX6_42 (zq_ho_s gh4) rfl rfl rfl rfl (Nat.le_of_ble_eq_true rfl) (Nat.le_of_ble_eq_true rfl) (Nat.le_of_ble_eq_true rfl) ⟨Nat.le_refl _, Nat.le_refl _⟩ (fun v5 => ?_)
  exact zr_ireturn (pc := 30) (zq_d eX6_worthTo 16 rfl) rfl rfl (Nat.zero_le _) (Nat.zero_le _)
def b_X6_tellComings_22 (N : Nat) (j : Nat) (v1 : Int32) (v3 : Int32) (rc15_2 : Int32 → zq_M → Option zq_M) (rc22_3 : Int32 → zq_M → Option zq_M) (v5 : Int32) (X6 : zq_M) : Option zq_M :=
  if (X6.1 1 0) < v5 then (rc15_2 (v3 + (1 : Int32)) X6) else ((f_X6_slotOf N j X6 v1 v3 v5).bind (fun v7 => (f_X6_priceOf N j X6 v1 v3 v5).bind (zq_p (fun v8 X9 => zq_ck v7 100 (zq_b (zq_u1 X9 39 (zq_ix v7) v8) (fun X10 => (f_X6_isBarred N j X10 v1 v3 v5).bind (zq_p (fun v11 X12 => zq_ck v7 100 (zq_b (zq_u1 X12 40 (zq_ix v7) (vp_nar .boolean v11)) (fun X13 => rc22_3 (v5 + (1 : Int32)) X13))))))))))
def b_X6_tellComings_15 (N : Nat) (j : Nat) (v1 : Int32) (rc2_1 : Int32 → zq_M → Option zq_M) (rc15_2 : Int32 → zq_M → Option zq_M) (v3 : Int32) (X4 : zq_M) : Option zq_M :=
  if (4 : Int32) ≤ v3 then (rc2_1 (v1 + (1 : Int32)) X4) else (zq_loop (fun _ _ => none) (b_X6_tellComings_22 N j v1 v3 rc15_2) N (1 : Int32) X4)
def b_X6_tellComings_2 (N : Nat) (j : Nat) (rc2_1 : Int32 → zq_M → Option zq_M) (v1 : Int32) (X2 : zq_M) : Option zq_M :=
  if (X2.1 1 0) ≤ v1 then (some X2) else (zq_loop (fun _ _ => none) (b_X6_tellComings_15 N j v1 rc2_1) N (0 : Int32) X2)
def f_X6_tellComings (N j : Nat) (X : zq_M)  : Option zq_M :=
  zq_loop (fun _ _ => none) (b_X6_tellComings_2 N j) N (0 : Int32) X
set_option maxRecDepth 20000 in
set_option maxHeartbeats 8000000 in
theorem s_X6_tellComings (G : zq_G) (N z j : Nat) (X : zq_M)  : zq_V G YX6_tellComings (5, 0, 0) (zq_sv (zq_shX j) z) 0 0 0 (lv_args 0 [.ref (zq_ad G 35)]) [] (zq_shX j) z X (f_X6_tellComings N j X ) := by
  unfold f_X6_tellComings
  refine zr_lo (l2 := [(0, .ref (zq_ad G 35))]) [0] rfl ?_
  refine zr_iconst (pc := 0) (zq_d eX6_tellComings 0 rfl) zc_i0 ?_
  refine zr_istore_n (pc := 1) (lo2 := [(1, .int (0 : Int32)), (0, .ref (zq_ad G 35))]) (zq_d eX6_tellComings 1 rfl) rfl (Nat.le_of_ble_eq_true rfl) rfl ?_
  have hbrc2_1 : ∀ rc2_1 : Int32 → zq_M → Option zq_M, (∀ (v1 : Int32) (X2 : zq_M), zq_V G YX6_tellComings (5, 0, 0) (zq_sv (zq_shX j) z) 0 0 2 [(0, .ref (zq_ad G 35)), (1, .int v1)] [] (zq_shX j) z X2 (rc2_1 v1 X2)) → ∀ (v1 : Int32) (X2 : zq_M), zq_V G YX6_tellComings (5, 0, 0) (zq_sv (zq_shX j) z) 0 0 2 [(0, .ref (zq_ad G 35)), (1, .int v1)] [] (zq_shX j) z X2 (b_X6_tellComings_2 N j rc2_1 v1 X2) := by
    intro rc2_1 hrc2_1 v1 X2
    unfold b_X6_tellComings_2
    refine zr_iload_n (pc := 2) (zq_d eX6_tellComings 2 rfl) 1 rfl rfl ?_
    refine zr_aload_n (pc := 3) (zq_d eX6_tellComings 3 rfl) 0 rfl rfl ?_
    refine zr_getC (pc := 4) (zq_d eX6_tellComings 4 rfl) zf_RX6_30 (kx_35_0 j) ?_
    refine zr_getI (pc := 7) (zq_d eX6_tellComings 5 rfl) zf_RX6_67 (kx_1_0 j) ?_
    refine zr_icmp_ge (pc := 10) 87 (zq_d eX6_tellComings 6 rfl) (by decide) (fun _ => ?_) (fun _ => ?_)
    · exact zr_vreturn (pc := 87) (zq_d eX6_tellComings 48 rfl) rfl rfl (Nat.zero_le _) (Nat.zero_le _)
    · refine zr_iconst (pc := 13) (zq_d eX6_tellComings 7 rfl) zc_i0 ?_
      refine zr_istore_n (pc := 14) (lo2 := [(2, .int (0 : Int32)), (0, .ref (zq_ad G 35)), (1, .int v1)]) (zq_d eX6_tellComings 8 rfl) rfl (Nat.le_of_ble_eq_true rfl) rfl ?_
      have hbrc15_2 : ∀ rc15_2 : Int32 → zq_M → Option zq_M, (∀ (v3 : Int32) (X4 : zq_M), zq_V G YX6_tellComings (5, 0, 0) (zq_sv (zq_shX j) z) 0 0 15 [(0, .ref (zq_ad G 35)), (1, .int v1), (2, .int v3)] [] (zq_shX j) z X4 (rc15_2 v3 X4)) → ∀ (v3 : Int32) (X4 : zq_M), zq_V G YX6_tellComings (5, 0, 0) (zq_sv (zq_shX j) z) 0 0 15 [(0, .ref (zq_ad G 35)), (1, .int v1), (2, .int v3)] [] (zq_shX j) z X4 (b_X6_tellComings_15 N j v1 rc2_1 rc15_2 v3 X4) := by
        intro rc15_2 hrc15_2 v3 X4
        unfold b_X6_tellComings_15
        refine zr_iload_n (pc := 15) (zq_d eX6_tellComings 9 rfl) 2 rfl rfl ?_
        refine zr_iconst (pc := 16) (zq_d eX6_tellComings 10 rfl) zc_i4 ?_
        refine zr_icmp_ge (pc := 17) 81 (zq_d eX6_tellComings 11 rfl) (by decide) (fun _ => ?_) (fun _ => ?_)
        · refine zr_iinc (pc := 81) (j := 1) (v := (v1 + (1 : Int32))) (lo2 := [(1, .int (v1 + (1 : Int32))), (0, .ref (zq_ad G 35)), (2, .int v3)]) (zq_d eX6_tellComings 46 rfl) rfl (by rw [zc_i1]) (Nat.le_of_ble_eq_true rfl) rfl ?_
          refine zr_goto (pc := 84) 2 (zq_d eX6_tellComings 47 rfl) (by decide) ?_
          exact zr_lo [1, 0] rfl (hrc2_1 (v1 + (1 : Int32)) X4)
        · refine zr_iconst (pc := 20) (zq_d eX6_tellComings 12 rfl) zc_i1 ?_
          refine zr_istore_n (pc := 21) (lo2 := [(3, .int (1 : Int32)), (0, .ref (zq_ad G 35)), (1, .int v1), (2, .int v3)]) (zq_d eX6_tellComings 13 rfl) rfl (Nat.le_of_ble_eq_true rfl) rfl ?_
          have hbrc22_3 : ∀ rc22_3 : Int32 → zq_M → Option zq_M, (∀ (v5 : Int32) (X6 : zq_M), zq_V G YX6_tellComings (5, 0, 0) (zq_sv (zq_shX j) z) 0 0 22 [(0, .ref (zq_ad G 35)), (1, .int v1), (2, .int v3), (3, .int v5)] [] (zq_shX j) z X6 (rc22_3 v5 X6)) → ∀ (v5 : Int32) (X6 : zq_M), zq_V G YX6_tellComings (5, 0, 0) (zq_sv (zq_shX j) z) 0 0 22 [(0, .ref (zq_ad G 35)), (1, .int v1), (2, .int v3), (3, .int v5)] [] (zq_shX j) z X6 (b_X6_tellComings_22 N j v1 v3 rc15_2 rc22_3 v5 X6) := by
            intro rc22_3 hrc22_3 v5 X6
            unfold b_X6_tellComings_22
            refine zr_iload_n (pc := 22) (zq_d eX6_tellComings 14 rfl) 3 rfl rfl ?_
            refine zr_aload_n (pc := 23) (zq_d eX6_tellComings 15 rfl) 0 rfl rfl ?_
            refine zr_getC (pc := 24) (zq_d eX6_tellComings 16 rfl) zf_RX6_30 (kx_35_0 j) ?_
            refine zr_getI (pc := 27) (zq_d eX6_tellComings 17 rfl) zf_RX6_67 (kx_1_0 j) ?_
            refine zr_icmp_gt (pc := 30) 75 (zq_d eX6_tellComings 18 rfl) (by decide) (fun _ => ?_) (fun _ => ?_)
            · refine zr_iinc (pc := 75) (j := 2) (v := (v3 + (1 : Int32))) (lo2 := [(2, .int (v3 + (1 : Int32))), (0, .ref (zq_ad G 35)), (1, .int v1), (3, .int v5)]) (zq_d eX6_tellComings 44 rfl) rfl (by rw [zc_i1]) (Nat.le_of_ble_eq_true rfl) rfl ?_
              refine zr_goto (pc := 78) 15 (zq_d eX6_tellComings 45 rfl) (by decide) ?_
              exact zr_lo [1, 2, 0] rfl (hrc15_2 (v3 + (1 : Int32)) X6)
            · refine zr_iload_n (pc := 33) (zq_d eX6_tellComings 19 rfl) 1 rfl rfl ?_
              refine zr_iload_n (pc := 34) (zq_d eX6_tellComings 20 rfl) 2 rfl rfl ?_
              refine zr_iload_n (pc := 35) (zq_d eX6_tellComings 21 rfl) 3 rfl rfl ?_
              refine zr_Si (pc := 36) [_, _, _] (zq_d eX6_tellComings 22 rfl) (s_X6_slotOf G N z j X6 _ _ _) zd_X6_slotOf zl_RX6_71 rfl rfl (Nat.le_of_ble_eq_true rfl) (Nat.le_of_ble_eq_true rfl) (Nat.le_of_ble_eq_true rfl) ⟨Nat.le_refl _, Nat.le_refl _⟩ (fun v7 => ?_)
              refine zr_istore (pc := 39) (lo2 := [(4, .int v7), (0, .ref (zq_ad G 35)), (1, .int v1), (2, .int v3), (3, .int v5)]) (zq_d eX6_tellComings 23 rfl) (Nat.le_of_ble_eq_true rfl) rfl ?_
              refine zr_aload_n (pc := 41) (zq_d eX6_tellComings 24 rfl) 1 rfl rfl ?_
              refine zr_getC (pc := 42) (zq_d eX6_tellComings 25 rfl) zf_RX6_23 (kx_35_5 j) ?_
              refine zr_iload (pc := 45) (zq_d eX6_tellComings 26 rfl) 0 rfl ?_
              refine zr_aload_n (pc := 47) (zq_d eX6_tellComings 27 rfl) 1 rfl rfl ?_
              refine zr_iload_n (pc := 48) (zq_d eX6_tellComings 28 rfl) 2 rfl rfl ?_
              refine zr_iload_n (pc := 49) (zq_d eX6_tellComings 29 rfl) 3 rfl rfl ?_
              refine zr_iload_n (pc := 50) (zq_d eX6_tellComings 30 rfl) 4 rfl rfl ?_
              refine zr_Wsi (pc := 51) [_, _, _] (zq_d eX6_tellComings 31 rfl) (s_X6_priceOf G N z j X6 _ _ _) zd_X6_priceOf zl_RX6_75 (ox_35 j) rfl rfl rfl rfl (Nat.le_of_ble_eq_true rfl) (Nat.le_of_ble_eq_true rfl) (Nat.le_of_ble_eq_true rfl) ⟨Nat.le_refl _, Nat.le_refl _⟩ (fun v8 X9 => ?_)
              refine zr_iast (pc := 54) (zq_d eX6_tellComings 32 rfl) (ax_39 j) (fun X10 => ?_)
              refine zr_aload_n (pc := 55) (zq_d eX6_tellComings 33 rfl) 1 rfl rfl ?_
              refine zr_getC (pc := 56) (zq_d eX6_tellComings 34 rfl) zf_RX6_26 (kx_35_6 j) ?_
              refine zr_iload (pc := 59) (zq_d eX6_tellComings 35 rfl) 0 rfl ?_
              refine zr_aload_n (pc := 61) (zq_d eX6_tellComings 36 rfl) 1 rfl rfl ?_
              refine zr_iload_n (pc := 62) (zq_d eX6_tellComings 37 rfl) 2 rfl rfl ?_
              refine zr_iload_n (pc := 63) (zq_d eX6_tellComings 38 rfl) 3 rfl rfl ?_
              refine zr_iload_n (pc := 64) (zq_d eX6_tellComings 39 rfl) 4 rfl rfl ?_
              refine zr_Wsi (pc := 65) [_, _, _] (zq_d eX6_tellComings 40 rfl) (s_X6_isBarred G N z j X10 _ _ _) zd_X6_isBarred zl_RX6_78 (ox_35 j) rfl rfl rfl rfl (Nat.le_of_ble_eq_true rfl) (Nat.le_of_ble_eq_true rfl) (Nat.le_of_ble_eq_true rfl) ⟨Nat.le_refl _, Nat.le_refl _⟩ (fun v11 X12 => ?_)
              refine zr_zast (pc := 68) (zq_d eX6_tellComings 41 rfl) (ax_40 j) (fun X13 => ?_)
              refine zr_iinc (pc := 69) (j := 4) (v := (v5 + (1 : Int32))) (lo2 := [(3, .int (v5 + (1 : Int32))), (4, .int v7), (0, .ref (zq_ad G 35)), (1, .int v1), (2, .int v3)]) (zq_d eX6_tellComings 42 rfl) rfl (by rw [zc_i1]) (Nat.le_of_ble_eq_true rfl) rfl ?_
              refine zr_goto (pc := 72) 22 (zq_d eX6_tellComings 43 rfl) (by decide) ?_
              exact zr_lo [2, 3, 4, 0] rfl (hrc22_3 (v5 + (1 : Int32)) X13)
          have hlrc22_3 := zr_loop (P := fun (rc22_3 : Int32 → zq_M → Option zq_M) => ∀ (v5 : Int32) (X6 : zq_M), zq_V G YX6_tellComings (5, 0, 0) (zq_sv (zq_shX j) z) 0 0 22 [(0, .ref (zq_ad G 35)), (1, .int v1), (2, .int v3), (3, .int v5)] [] (zq_shX j) z X6 (rc22_3 v5 X6)) (fun _ _ => none) (b_X6_tellComings_22 N j v1 v3 rc15_2) (fun _ _ => zr_none) hbrc22_3 N
          exact zr_lo [1, 2, 3, 0] rfl (hlrc22_3 (1 : Int32) X4)
      have hlrc15_2 := zr_loop (P := fun (rc15_2 : Int32 → zq_M → Option zq_M) => ∀ (v3 : Int32) (X4 : zq_M), zq_V G YX6_tellComings (5, 0, 0) (zq_sv (zq_shX j) z) 0 0 15 [(0, .ref (zq_ad G 35)), (1, .int v1), (2, .int v3)] [] (zq_shX j) z X4 (rc15_2 v3 X4)) (fun _ _ => none) (b_X6_tellComings_15 N j v1 rc2_1) (fun _ _ => zr_none) hbrc15_2 N
      exact zr_lo [1, 2, 0] rfl (hlrc15_2 (0 : Int32) X2)
  have hlrc2_1 := zr_loop (P := fun (rc2_1 : Int32 → zq_M → Option zq_M) => ∀ (v1 : Int32) (X2 : zq_M), zq_V G YX6_tellComings (5, 0, 0) (zq_sv (zq_shX j) z) 0 0 2 [(0, .ref (zq_ad G 35)), (1, .int v1)] [] (zq_shX j) z X2 (rc2_1 v1 X2)) (fun _ _ => none) (b_X6_tellComings_2 N j) (fun _ _ => zr_none) hbrc2_1 N
  exact zr_lo [1, 0] rfl (hlrc2_1 (0 : Int32) X)
def f_X6_priceFrom (N j : Nat) (X : zq_M) (a1 : Int32) (a2 : Int32) (a3 : Int32) : Option Int32 :=
  (f_X6_numberAt N j X a1 a3).bind (fun v1 => (f_X6_slotOf N j X a2 a3 (v1 + (1 : Int32))).bind (fun v2 => zq_ck v2 100 (some (X.1 39 (zq_ix v2)))))
set_option maxRecDepth 20000 in
set_option maxHeartbeats 8000000 in
theorem s_X6_priceFrom (G : zq_G) (N z j : Nat) (X : zq_M) (a1 : Int32) (a2 : Int32) (a3 : Int32) : zq_V G YX6_priceFrom (3, 0, 0) (zq_ei (zq_shX j) z X) 0 0 0 (lv_args 0 [.ref (zq_ad G 35), .int a1, .int a2, .int a3]) [] (zq_shX j) z X (f_X6_priceFrom N j X a1 a2 a3) := by
  unfold f_X6_priceFrom
  refine zr_lo (l2 := [(0, .ref (zq_ad G 35)), (1, .int a1), (2, .int a2), (3, .int a3)]) [0, 1, 2, 3] rfl ?_
  refine zr_aload_n (pc := 0) (zq_d eX6_priceFrom 0 rfl) 0 rfl rfl ?_
  refine zr_getC (pc := 1) (zq_d eX6_priceFrom 1 rfl) zf_RX6_23 (kx_35_5 j) ?_
  refine zr_iload_n (pc := 4) (zq_d eX6_priceFrom 2 rfl) 2 rfl rfl ?_
  refine zr_iload_n (pc := 5) (zq_d eX6_priceFrom 3 rfl) 3 rfl rfl ?_
  refine zr_aload_n (pc := 6) (zq_d eX6_priceFrom 4 rfl) 0 rfl rfl ?_
  refine zr_iload_n (pc := 7) (zq_d eX6_priceFrom 5 rfl) 1 rfl rfl ?_
  refine zr_iload_n (pc := 8) (zq_d eX6_priceFrom 6 rfl) 3 rfl rfl ?_
  refine zr_Vi (pc := 9) [_, _] (zq_d eX6_priceFrom 7 rfl) (s_X6_numberAt G N z j X _ _) zd_X6_numberAt zl_RX6_85 (ox_35 j) rfl rfl rfl rfl (Nat.le_of_ble_eq_true rfl) (Nat.le_of_ble_eq_true rfl) (Nat.le_of_ble_eq_true rfl) ⟨Nat.le_refl _, Nat.le_refl _⟩ (fun v1 => ?_)
  refine zr_iconst (pc := 12) (zq_d eX6_priceFrom 8 rfl) zc_i1 ?_
  refine zr_iadd (pc := 13) (zq_d eX6_priceFrom 9 rfl) ?_
  refine zr_Si (pc := 14) [_, _, _] (zq_d eX6_priceFrom 10 rfl) (s_X6_slotOf G N z j X _ _ _) zd_X6_slotOf zl_RX6_71 rfl rfl (Nat.le_of_ble_eq_true rfl) (Nat.le_of_ble_eq_true rfl) (Nat.le_of_ble_eq_true rfl) ⟨Nat.le_refl _, Nat.le_refl _⟩ (fun v2 => ?_)
  refine zr_iald (pc := 17) (zq_d eX6_priceFrom 11 rfl) (ax_39 j) ?_
  exact zr_ireturn (pc := 18) (zq_d eX6_priceFrom 12 rfl) rfl rfl (Nat.zero_le _) (Nat.zero_le _)
def b_X6_isSaid_78 (a2 : Int32) (v2 : Int32) (rc78_1 : Int32 → zq_M → Option (Int32 × zq_M)) (v5 : Int32) (X6 : zq_M) : Option (Int32 × zq_M) :=
  if (X6.1 1 0) ≤ v5 then (some ((1 : Int32), X6)) else (if ¬ ((zq_shr v2 v5) &&& (1 : Int32)) = (1 : Int32) then (rc78_1 (v5 + (1 : Int32)) X6) else (zq_ck v5 5 (zq_ck v5 5 (zq_b (zq_u1 X6 38 (zq_ix v5) ((X6.1 38 (zq_ix v5)) ||| (zq_shl (1 : Int32) a2))) (fun X7 => rc78_1 (v5 + (1 : Int32)) X7)))))
def f_X6_isSaid (N j : Nat) (X : zq_M) (a1 : Int32) (a2 : Int32) : Option (Int32 × zq_M) :=
  (f_X10_isFromTo N j X a1 (0 : Int32) ((X.1 1 0) - (1 : Int32))).bind (fun v1 => if v1 = 0 then (some ((0 : Int32), X)) else (zq_ck a1 5 (if ¬ ((zq_shr (X.1 38 (zq_ix a1)) a2) &&& (1 : Int32)) = 0 then (zq_ck a1 5 ((f_X5_whoIsAt N j X 1 (X.1 4 (zq_ix a1))).bind (fun v2 => (f_X6_speakers N j X (X.1 4 (zq_ix a1)) v2 (X.1 1 7)).bind (zq_p (fun v3 X4 => if ¬ ((zq_shr v3 a1) &&& (1 : Int32)) = 0 then (zq_loop (fun _ _ => none) (b_X6_isSaid_78 a2 v2) N (0 : Int32) X4) else (some ((0 : Int32), X4))))))) else (some ((0 : Int32), X)))))
set_option maxRecDepth 20000 in
set_option maxHeartbeats 8000000 in
theorem s_X6_isSaid (G : zq_G) (N z j : Nat) (X : zq_M) (a1 : Int32) (a2 : Int32) : zq_V G YX6_isSaid (4, 0, 0) (zq_si (zq_shX j) z) 0 0 0 (lv_args 0 [.ref (zq_ad G 35), .int a1, .int a2]) [] (zq_shX j) z X (f_X6_isSaid N j X a1 a2) := by
  unfold f_X6_isSaid
  refine zr_lo (l2 := [(0, .ref (zq_ad G 35)), (1, .int a1), (2, .int a2)]) [0, 1, 2] rfl ?_
  refine zr_iload_n (pc := 0) (zq_d eX6_isSaid 0 rfl) 1 rfl rfl ?_
  refine zr_iconst (pc := 1) (zq_d eX6_isSaid 1 rfl) zc_i0 ?_
  refine zr_aload_n (pc := 2) (zq_d eX6_isSaid 2 rfl) 0 rfl rfl ?_
  refine zr_getC (pc := 3) (zq_d eX6_isSaid 3 rfl) zf_RX6_30 (kx_35_0 j) ?_
  refine zr_getI (pc := 6) (zq_d eX6_isSaid 4 rfl) zf_RX6_67 (kx_1_0 j) ?_
  refine zr_iconst (pc := 9) (zq_d eX6_isSaid 5 rfl) zc_i1 ?_
  refine zr_isub (pc := 10) (zq_d eX6_isSaid 6 rfl) ?_
  refine zr_Ni (pc := 11) "MiddleSpeaks" [_, _, _] (zq_d eX6_isSaid 7 rfl) (s_X10_isFromTo G N z j X _ _ _) zd_X10_isFromTo (List.mem_of_getElem? (i := 7) rfl) rfl rfl (Nat.le_of_ble_eq_true rfl) (Nat.le_of_ble_eq_true rfl) (Nat.le_of_ble_eq_true rfl) ⟨Nat.le_refl _, Nat.le_refl _⟩ (fun v1 => ?_)
  refine zr_if_eq (pc := 14) 30 (zq_d eX6_isSaid 8 rfl) (by decide) (fun _ => ?_) (fun _ => ?_)
  · refine zr_iconst (pc := 30) (zq_d eX6_isSaid 18 rfl) zc_i0 ?_
    exact zr_zreturn (pc := 31) (zq_d eX6_isSaid 19 rfl) rfl rfl rfl (Nat.zero_le _) (Nat.zero_le _)
  · refine zr_aload_n (pc := 17) (zq_d eX6_isSaid 9 rfl) 0 rfl rfl ?_
    refine zr_getC (pc := 18) (zq_d eX6_isSaid 10 rfl) zf_RX6_20 (kx_35_4 j) ?_
    refine zr_iload_n (pc := 21) (zq_d eX6_isSaid 11 rfl) 1 rfl rfl ?_
    refine zr_iald (pc := 22) (zq_d eX6_isSaid 12 rfl) (ax_38 j) ?_
    refine zr_iload_n (pc := 23) (zq_d eX6_isSaid 13 rfl) 2 rfl rfl ?_
    refine zr_ishr (pc := 24) (zq_d eX6_isSaid 14 rfl) ?_
    refine zr_iconst (pc := 25) (zq_d eX6_isSaid 15 rfl) zc_i1 ?_
    refine zr_iand (pc := 26) (zq_d eX6_isSaid 16 rfl) ?_
    refine zr_if_ne (pc := 27) 32 (zq_d eX6_isSaid 17 rfl) (by decide) (fun _ => ?_) (fun _ => ?_)
    · refine zr_aload_n (pc := 32) (zq_d eX6_isSaid 20 rfl) 0 rfl rfl ?_
      refine zr_getC (pc := 33) (zq_d eX6_isSaid 21 rfl) zf_RX6_30 (kx_35_0 j) ?_
      refine zr_getC (pc := 36) (zq_d eX6_isSaid 22 rfl) zf_RX6_82 (kx_1_3 j) ?_
      refine zr_iload_n (pc := 39) (zq_d eX6_isSaid 23 rfl) 1 rfl rfl ?_
      refine zr_iald (pc := 40) (zq_d eX6_isSaid 24 rfl) (ax_4 j) ?_
      refine zr_istore_n (pc := 41) (lo2 := [(3, .int (X.1 4 (zq_ix a1))), (0, .ref (zq_ad G 35)), (1, .int a1), (2, .int a2)]) (zq_d eX6_isSaid 25 rfl) rfl (Nat.le_of_ble_eq_true rfl) rfl ?_
      refine zr_aload_n (pc := 42) (zq_d eX6_isSaid 26 rfl) 1 rfl rfl ?_
      refine zr_getC (pc := 43) (zq_d eX6_isSaid 27 rfl) zf_RX6_30 (kx_35_0 j) ?_
      refine zr_iload_n (pc := 46) (zq_d eX6_isSaid 28 rfl) 0 rfl rfl ?_
      refine zr_Vi (pc := 47) [_] (zq_d eX6_isSaid 29 rfl) (s_X5_whoIsAt G N z j X 1 (zsc_1 j) _) zd_X5_whoIsAt zl_RX6_50 (ox_1 j) rfl rfl rfl rfl (Nat.le_of_ble_eq_true rfl) (Nat.le_of_ble_eq_true rfl) (Nat.le_of_ble_eq_true rfl) ⟨Nat.le_refl _, Nat.le_refl _⟩ (fun v2 => ?_)
      refine zr_istore (pc := 50) (lo2 := [(4, .int v2), (3, .int (X.1 4 (zq_ix a1))), (0, .ref (zq_ad G 35)), (1, .int a1), (2, .int a2)]) (zq_d eX6_isSaid 30 rfl) (Nat.le_of_ble_eq_true rfl) rfl ?_
      refine zr_aload_n (pc := 52) (zq_d eX6_isSaid 31 rfl) 2 rfl rfl ?_
      refine zr_iload_n (pc := 53) (zq_d eX6_isSaid 32 rfl) 1 rfl rfl ?_
      refine zr_iload (pc := 54) (zq_d eX6_isSaid 33 rfl) 0 rfl ?_
      refine zr_aload_n (pc := 56) (zq_d eX6_isSaid 34 rfl) 2 rfl rfl ?_
      refine zr_getC (pc := 57) (zq_d eX6_isSaid 35 rfl) zf_RX6_30 (kx_35_0 j) ?_
      refine zr_getI (pc := 60) (zq_d eX6_isSaid 36 rfl) zf_RX6_139 (kx_1_7 j) ?_
      refine zr_Wsi (pc := 63) [_, _, _] (zq_d eX6_isSaid 37 rfl) (s_X6_speakers G N z j X _ _ _) zd_X6_speakers zl_RX6_142 (ox_35 j) rfl rfl rfl rfl (Nat.le_of_ble_eq_true rfl) (Nat.le_of_ble_eq_true rfl) (Nat.le_of_ble_eq_true rfl) ⟨Nat.le_refl _, Nat.le_refl _⟩ (fun v3 X4 => ?_)
      refine zr_iload_n (pc := 66) (zq_d eX6_isSaid 38 rfl) 3 rfl rfl ?_
      refine zr_ishr (pc := 67) (zq_d eX6_isSaid 39 rfl) ?_
      refine zr_iconst (pc := 68) (zq_d eX6_isSaid 40 rfl) zc_i1 ?_
      refine zr_iand (pc := 69) (zq_d eX6_isSaid 41 rfl) ?_
      refine zr_if_ne (pc := 70) 75 (zq_d eX6_isSaid 42 rfl) (by decide) (fun _ => ?_) (fun _ => ?_)
      · refine zr_iconst (pc := 75) (zq_d eX6_isSaid 45 rfl) zc_i0 ?_
        refine zr_istore (pc := 76) (lo2 := [(5, .int (0 : Int32)), (4, .int v2), (3, .int (X.1 4 (zq_ix a1))), (0, .ref (zq_ad G 35)), (1, .int a1), (2, .int a2)]) (zq_d eX6_isSaid 46 rfl) (Nat.le_of_ble_eq_true rfl) rfl ?_
        have hbrc78_1 : ∀ rc78_1 : Int32 → zq_M → Option (Int32 × zq_M), (∀ (v5 : Int32) (X6 : zq_M), zq_V G YX6_isSaid (4, 0, 0) (zq_si (zq_shX j) z) 0 0 78 [(0, .ref (zq_ad G 35)), (2, .int a2), (4, .int v2), (5, .int v5)] [] (zq_shX j) z X6 (rc78_1 v5 X6)) → ∀ (v5 : Int32) (X6 : zq_M), zq_V G YX6_isSaid (4, 0, 0) (zq_si (zq_shX j) z) 0 0 78 [(0, .ref (zq_ad G 35)), (2, .int a2), (4, .int v2), (5, .int v5)] [] (zq_shX j) z X6 (b_X6_isSaid_78 a2 v2 rc78_1 v5 X6) := by
          intro rc78_1 hrc78_1 v5 X6
          unfold b_X6_isSaid_78
          refine zr_iload (pc := 78) (zq_d eX6_isSaid 47 rfl) 3 rfl ?_
          refine zr_aload_n (pc := 80) (zq_d eX6_isSaid 48 rfl) 0 rfl rfl ?_
          refine zr_getC (pc := 81) (zq_d eX6_isSaid 49 rfl) zf_RX6_30 (kx_35_0 j) ?_
          refine zr_getI (pc := 84) (zq_d eX6_isSaid 50 rfl) zf_RX6_67 (kx_1_0 j) ?_
          refine zr_icmp_ge (pc := 87) 120 (zq_d eX6_isSaid 51 rfl) (by decide) (fun _ => ?_) (fun _ => ?_)
          · refine zr_iconst (pc := 120) (zq_d eX6_isSaid 71 rfl) zc_i1 ?_
            exact zr_zreturn (pc := 121) (zq_d eX6_isSaid 72 rfl) rfl rfl rfl (Nat.zero_le _) (Nat.zero_le _)
          · refine zr_iload (pc := 90) (zq_d eX6_isSaid 52 rfl) 2 rfl ?_
            refine zr_iload (pc := 92) (zq_d eX6_isSaid 53 rfl) 3 rfl ?_
            refine zr_ishr (pc := 94) (zq_d eX6_isSaid 54 rfl) ?_
            refine zr_iconst (pc := 95) (zq_d eX6_isSaid 55 rfl) zc_i1 ?_
            refine zr_iand (pc := 96) (zq_d eX6_isSaid 56 rfl) ?_
            refine zr_iconst (pc := 97) (zq_d eX6_isSaid 57 rfl) zc_i1 ?_
            refine zr_icmp_ne (pc := 98) 114 (zq_d eX6_isSaid 58 rfl) (by decide) (fun _ => ?_) (fun _ => ?_)
            · refine zr_iinc (pc := 114) (j := 3) (v := (v5 + (1 : Int32))) (lo2 := [(5, .int (v5 + (1 : Int32))), (0, .ref (zq_ad G 35)), (2, .int a2), (4, .int v2)]) (zq_d eX6_isSaid 69 rfl) rfl (by rw [zc_i1]) (Nat.le_of_ble_eq_true rfl) rfl ?_
              refine zr_goto (pc := 117) 78 (zq_d eX6_isSaid 70 rfl) (by decide) ?_
              exact zr_lo [1, 2, 3, 0] rfl (hrc78_1 (v5 + (1 : Int32)) X6)
            · refine zr_aload_n (pc := 101) (zq_d eX6_isSaid 59 rfl) 0 rfl rfl ?_
              refine zr_getC (pc := 102) (zq_d eX6_isSaid 60 rfl) zf_RX6_20 (kx_35_4 j) ?_
              refine zr_iload (pc := 105) (zq_d eX6_isSaid 61 rfl) 3 rfl ?_
              refine zr_dup2 (pc := 107) (zq_d eX6_isSaid 62 rfl) rfl rfl ?_
              refine zr_iald (pc := 108) (zq_d eX6_isSaid 63 rfl) (ax_38 j) ?_
              refine zr_iconst (pc := 109) (zq_d eX6_isSaid 64 rfl) zc_i1 ?_
              refine zr_iload_n (pc := 110) (zq_d eX6_isSaid 65 rfl) 1 rfl rfl ?_
              refine zr_ishl (pc := 111) (zq_d eX6_isSaid 66 rfl) ?_
              refine zr_ior (pc := 112) (zq_d eX6_isSaid 67 rfl) ?_
              refine zr_iast (pc := 113) (zq_d eX6_isSaid 68 rfl) (ax_38 j) (fun X7 => ?_)
              refine zr_iinc (pc := 114) (j := 3) (v := (v5 + (1 : Int32))) (lo2 := [(5, .int (v5 + (1 : Int32))), (0, .ref (zq_ad G 35)), (2, .int a2), (4, .int v2)]) (zq_d eX6_isSaid 69 rfl) rfl (by rw [zc_i1]) (Nat.le_of_ble_eq_true rfl) rfl ?_
              refine zr_goto (pc := 117) 78 (zq_d eX6_isSaid 70 rfl) (by decide) ?_
              exact zr_lo [1, 2, 3, 0] rfl (hrc78_1 (v5 + (1 : Int32)) X7)
        have hlrc78_1 := zr_loop (P := fun (rc78_1 : Int32 → zq_M → Option (Int32 × zq_M)) => ∀ (v5 : Int32) (X6 : zq_M), zq_V G YX6_isSaid (4, 0, 0) (zq_si (zq_shX j) z) 0 0 78 [(0, .ref (zq_ad G 35)), (2, .int a2), (4, .int v2), (5, .int v5)] [] (zq_shX j) z X6 (rc78_1 v5 X6)) (fun _ _ => none) (b_X6_isSaid_78 a2 v2) (fun _ _ => zr_none) hbrc78_1 N
        exact zr_lo [3, 5, 1, 0] rfl (hlrc78_1 (0 : Int32) X4)
      · refine zr_iconst (pc := 73) (zq_d eX6_isSaid 43 rfl) zc_i0 ?_
        exact zr_zreturn (pc := 74) (zq_d eX6_isSaid 44 rfl) rfl rfl rfl (Nat.zero_le _) (Nat.zero_le _)
    · refine zr_iconst (pc := 30) (zq_d eX6_isSaid 18 rfl) zc_i0 ?_
      exact zr_zreturn (pc := 31) (zq_d eX6_isSaid 19 rfl) rfl rfl rfl (Nat.zero_le _) (Nat.zero_le _)
def b_X6_sayable_19 (N : Nat) (j : Nat) (rc19_1 : Int32 → zq_M → Option (Int32 × zq_M)) (v2 : Int32) (X3 : zq_M) : Option (Int32 × zq_M) :=
  if (X3.1 1 13) ≤ v2 then (some ((X3.1 1 13), X3)) else (zq_ck v2 12 (zq_ck v2 12 ((f_X6_isSaid N j X3 ((X3.1 10 (zq_ix v2)) / (10 : Int32)) (zq_irem (X3.1 10 (zq_ix v2)) (10 : Int32))).bind (zq_p (fun v4 X5 => if ¬ v4 = 0 then (rc19_1 (v2 + (1 : Int32)) X5) else (some (v2, X5)))))))
def f_X6_sayable (N j : Nat) (X : zq_M)  : Option (Int32 × zq_M) :=
  zq_ac (0 : Int32) (0 : Int32) (5 : Int32) 5 5 (zq_b (zq_cp1 X 5 (0 : Int32) 38 (0 : Int32) (5 : Int32)) (fun X1 => zq_loop (fun _ _ => none) (b_X6_sayable_19 N j) N (0 : Int32) X1))
set_option maxRecDepth 20000 in
set_option maxHeartbeats 8000000 in
theorem s_X6_sayable (G : zq_G) (N z j : Nat) (X : zq_M)  : zq_V G YX6_sayable (5, 0, 0) (zq_si (zq_shX j) z) 0 0 0 (lv_args 0 [.ref (zq_ad G 35)]) [] (zq_shX j) z X (f_X6_sayable N j X ) := by
  unfold f_X6_sayable
  refine zr_lo (l2 := [(0, .ref (zq_ad G 35))]) [0] rfl ?_
  refine zr_aload_n (pc := 0) (zq_d eX6_sayable 0 rfl) 0 rfl rfl ?_
  refine zr_getC (pc := 1) (zq_d eX6_sayable 1 rfl) zf_RX6_30 (kx_35_0 j) ?_
  refine zr_getC (pc := 4) (zq_d eX6_sayable 2 rfl) zf_RX6_117 (kx_1_4 j) ?_
  refine zr_iconst (pc := 7) (zq_d eX6_sayable 3 rfl) zc_i0 ?_
  refine zr_aload_n (pc := 8) (zq_d eX6_sayable 4 rfl) 0 rfl rfl ?_
  refine zr_getC (pc := 9) (zq_d eX6_sayable 5 rfl) zf_RX6_20 (kx_35_4 j) ?_
  refine zr_iconst (pc := 12) (zq_d eX6_sayable 6 rfl) zc_i0 ?_
  refine zr_iconst (pc := 13) (zq_d eX6_sayable 7 rfl) zc_i5 ?_
  refine zr_cpi (pc := 14) (zq_d eX6_sayable 8 rfl) zl_RX6_120 (ax_5 j) (ax_38 j) (Nat.le_of_ble_eq_true rfl) (Nat.le_of_ble_eq_true rfl) (fun X1 => ?_)
  refine zr_iconst (pc := 17) (zq_d eX6_sayable 9 rfl) zc_i0 ?_
  refine zr_istore_n (pc := 18) (lo2 := [(1, .int (0 : Int32)), (0, .ref (zq_ad G 35))]) (zq_d eX6_sayable 10 rfl) rfl (Nat.le_of_ble_eq_true rfl) rfl ?_
  have hbrc19_1 : ∀ rc19_1 : Int32 → zq_M → Option (Int32 × zq_M), (∀ (v2 : Int32) (X3 : zq_M), zq_V G YX6_sayable (5, 0, 0) (zq_si (zq_shX j) z) 0 0 19 [(0, .ref (zq_ad G 35)), (1, .int v2)] [] (zq_shX j) z X3 (rc19_1 v2 X3)) → ∀ (v2 : Int32) (X3 : zq_M), zq_V G YX6_sayable (5, 0, 0) (zq_si (zq_shX j) z) 0 0 19 [(0, .ref (zq_ad G 35)), (1, .int v2)] [] (zq_shX j) z X3 (b_X6_sayable_19 N j rc19_1 v2 X3) := by
    intro rc19_1 hrc19_1 v2 X3
    unfold b_X6_sayable_19
    refine zr_iload_n (pc := 19) (zq_d eX6_sayable 11 rfl) 1 rfl rfl ?_
    refine zr_aload_n (pc := 20) (zq_d eX6_sayable 12 rfl) 0 rfl rfl ?_
    refine zr_getC (pc := 21) (zq_d eX6_sayable 13 rfl) zf_RX6_30 (kx_35_0 j) ?_
    refine zr_getI (pc := 24) (zq_d eX6_sayable 14 rfl) zf_RX6_126 (kx_1_13 j) ?_
    refine zr_icmp_ge (pc := 27) 69 (zq_d eX6_sayable 15 rfl) (by decide) (fun _ => ?_) (fun _ => ?_)
    · refine zr_aload_n (pc := 69) (zq_d eX6_sayable 37 rfl) 0 rfl rfl ?_
      refine zr_getC (pc := 70) (zq_d eX6_sayable 38 rfl) zf_RX6_30 (kx_35_0 j) ?_
      refine zr_getI (pc := 73) (zq_d eX6_sayable 39 rfl) zf_RX6_126 (kx_1_13 j) ?_
      exact zr_ireturn (pc := 76) (zq_d eX6_sayable 40 rfl) rfl rfl (Nat.zero_le _) (Nat.zero_le _)
    · refine zr_aload_n (pc := 30) (zq_d eX6_sayable 16 rfl) 0 rfl rfl ?_
      refine zr_aload_n (pc := 31) (zq_d eX6_sayable 17 rfl) 0 rfl rfl ?_
      refine zr_getC (pc := 32) (zq_d eX6_sayable 18 rfl) zf_RX6_30 (kx_35_0 j) ?_
      refine zr_getC (pc := 35) (zq_d eX6_sayable 19 rfl) zf_RX6_129 (kx_1_12 j) ?_
      refine zr_iload_n (pc := 38) (zq_d eX6_sayable 20 rfl) 1 rfl rfl ?_
      refine zr_iald (pc := 39) (zq_d eX6_sayable 21 rfl) (ax_10 j) ?_
      refine zr_bipush (pc := 40) (zq_d eX6_sayable 22 rfl) zc_b10 ?_
      refine zr_idivk (pc := 42) (zq_d eX6_sayable 23 rfl) (by decide) ?_
      refine zr_aload_n (pc := 43) (zq_d eX6_sayable 24 rfl) 0 rfl rfl ?_
      refine zr_getC (pc := 44) (zq_d eX6_sayable 25 rfl) zf_RX6_30 (kx_35_0 j) ?_
      refine zr_getC (pc := 47) (zq_d eX6_sayable 26 rfl) zf_RX6_129 (kx_1_12 j) ?_
      refine zr_iload_n (pc := 50) (zq_d eX6_sayable 27 rfl) 1 rfl rfl ?_
      refine zr_iald (pc := 51) (zq_d eX6_sayable 28 rfl) (ax_10 j) ?_
      refine zr_bipush (pc := 52) (zq_d eX6_sayable 29 rfl) zc_b10 ?_
      refine zr_iremk (pc := 54) (zq_d eX6_sayable 30 rfl) (by decide) ?_
      refine zr_Wsi (pc := 55) [_, _] (zq_d eX6_sayable 31 rfl) (s_X6_isSaid G N z j X3 _ _) zd_X6_isSaid zl_RX6_132 (ox_35 j) rfl rfl rfl rfl (Nat.le_of_ble_eq_true rfl) (Nat.le_of_ble_eq_true rfl) (Nat.le_of_ble_eq_true rfl) ⟨Nat.le_refl _, Nat.le_refl _⟩ (fun v4 X5 => ?_)
      refine zr_if_ne (pc := 58) 63 (zq_d eX6_sayable 32 rfl) (by decide) (fun _ => ?_) (fun _ => ?_)
      · refine zr_iinc (pc := 63) (j := 1) (v := (v2 + (1 : Int32))) (lo2 := [(1, .int (v2 + (1 : Int32))), (0, .ref (zq_ad G 35))]) (zq_d eX6_sayable 35 rfl) rfl (by rw [zc_i1]) (Nat.le_of_ble_eq_true rfl) rfl ?_
        refine zr_goto (pc := 66) 19 (zq_d eX6_sayable 36 rfl) (by decide) ?_
        exact zr_lo [1, 0] rfl (hrc19_1 (v2 + (1 : Int32)) X5)
      · refine zr_iload_n (pc := 61) (zq_d eX6_sayable 33 rfl) 1 rfl rfl ?_
        exact zr_ireturn (pc := 62) (zq_d eX6_sayable 34 rfl) rfl rfl (Nat.zero_le _) (Nat.zero_le _)
  have hlrc19_1 := zr_loop (P := fun (rc19_1 : Int32 → zq_M → Option (Int32 × zq_M)) => ∀ (v2 : Int32) (X3 : zq_M), zq_V G YX6_sayable (5, 0, 0) (zq_si (zq_shX j) z) 0 0 19 [(0, .ref (zq_ad G 35)), (1, .int v2)] [] (zq_shX j) z X3 (rc19_1 v2 X3)) (fun _ _ => none) (b_X6_sayable_19 N j) (fun _ _ => zr_none) hbrc19_1 N
  exact zr_lo [1, 0] rfl (hlrc19_1 (0 : Int32) X1)
