def f_X10_coming (N j : Nat) (X : zq_M) (a1 : Int32) (a2 : Int32) (a3 : Int32) : Option (Int32 × zq_M) :=
  (f_X10_isPerson N j X a1).bind (fun v1 => if v1 = 0 then (some ((-1 : Int32), X)) else ((f_X10_isPlace N j X a2).bind (fun v2 => if v2 = 0 then (some ((-1 : Int32), X)) else ((f_X10_isFromTo N j X a3 (0 : Int32) (1 : Int32)).bind (fun v3 => if ¬ v3 = 0 then (zq_ck a1 5 (if ¬ (X.1 4 (zq_ix a1)) = a2 then (if ¬ a3 = 0 then ((f_X10_isBarredNow N j X a1 a2).bind (zq_p (fun v4 X5 => if v4 = 0 then (some ((0 : Int32), X5)) else (some ((1 : Int32), X5))))) else ((f_X10_priceNow N j X a1 a2).bind (zq_p (fun v6 X7 => some (v6, X7))))) else (some ((-2 : Int32), X)))) else (some ((-1 : Int32), X)))))))
set_option maxRecDepth 20000 in
set_option maxHeartbeats 8000000 in
theorem s_X10_coming (G : zq_G) (N z j : Nat) (X : zq_M) (a1 : Int32) (a2 : Int32) (a3 : Int32) : zq_V G YX10_coming (6, 0, 0) (zq_si (zq_shX j) z) 0 0 0 (lv_args 0 [.ref (zq_ad G 0), .int a1, .int a2, .int a3]) [] (zq_shX j) z X (f_X10_coming N j X a1 a2 a3) := by
  unfold f_X10_coming
  refine zr_lo (l2 := [(0, .ref (zq_ad G 0)), (1, .int a1), (2, .int a2), (3, .int a3)]) [0, 1, 2, 3] rfl ?_
  refine zr_aload_n (pc := 0) (zq_d eX10_coming 0 rfl) 0 rfl rfl ?_
  refine zr_iload_n (pc := 1) (zq_d eX10_coming 1 rfl) 1 rfl rfl ?_
  refine zr_Vi (pc := 2) [_] (zq_d eX10_coming 2 rfl) (s_X10_isPerson G N z j X _) zd_X10_isPerson zl_RX10_114 (ox_0 j) rfl rfl rfl rfl (Nat.le_of_ble_eq_true rfl) (Nat.le_of_ble_eq_true rfl) (Nat.le_of_ble_eq_true rfl) ⟨Nat.le_refl _, Nat.le_refl _⟩ (fun v1 => ?_)
  refine zr_if_eq (pc := 5) 24 (zq_d eX10_coming 3 rfl) (by decide) (fun _ => ?_) (fun _ => ?_)
  · refine zr_iconst (pc := 24) (zq_d eX10_coming 12 rfl) zc_im1 ?_
    exact zr_ireturn (pc := 25) (zq_d eX10_coming 13 rfl) rfl rfl (Nat.zero_le _) (Nat.zero_le _)
  · refine zr_iload_n (pc := 8) (zq_d eX10_coming 4 rfl) 2 rfl rfl ?_
    refine zr_Si (pc := 9) [_] (zq_d eX10_coming 5 rfl) (s_X10_isPlace G N z j X _) zd_X10_isPlace zl_RX10_102 rfl rfl (Nat.le_of_ble_eq_true rfl) (Nat.le_of_ble_eq_true rfl) (Nat.le_of_ble_eq_true rfl) ⟨Nat.le_refl _, Nat.le_refl _⟩ (fun v2 => ?_)
    refine zr_if_eq (pc := 12) 24 (zq_d eX10_coming 6 rfl) (by decide) (fun _ => ?_) (fun _ => ?_)
    · refine zr_iconst (pc := 24) (zq_d eX10_coming 12 rfl) zc_im1 ?_
      exact zr_ireturn (pc := 25) (zq_d eX10_coming 13 rfl) rfl rfl (Nat.zero_le _) (Nat.zero_le _)
    · refine zr_iload_n (pc := 15) (zq_d eX10_coming 7 rfl) 3 rfl rfl ?_
      refine zr_iconst (pc := 16) (zq_d eX10_coming 8 rfl) zc_i0 ?_
      refine zr_iconst (pc := 17) (zq_d eX10_coming 9 rfl) zc_i1 ?_
      refine zr_Si (pc := 18) [_, _, _] (zq_d eX10_coming 10 rfl) (s_X10_isFromTo G N z j X _ _ _) zd_X10_isFromTo zl_RX10_98 rfl rfl (Nat.le_of_ble_eq_true rfl) (Nat.le_of_ble_eq_true rfl) (Nat.le_of_ble_eq_true rfl) ⟨Nat.le_refl _, Nat.le_refl _⟩ (fun v3 => ?_)
      refine zr_if_ne (pc := 21) 26 (zq_d eX10_coming 11 rfl) (by decide) (fun _ => ?_) (fun _ => ?_)
      · refine zr_aload_n (pc := 26) (zq_d eX10_coming 14 rfl) 0 rfl rfl ?_
        refine zr_getC (pc := 27) (zq_d eX10_coming 15 rfl) zf_RX10_12 (kx_0_0 j) ?_
        refine zr_getC (pc := 30) (zq_d eX10_coming 16 rfl) zf_RX10_123 (kx_1_3 j) ?_
        refine zr_iload_n (pc := 33) (zq_d eX10_coming 17 rfl) 1 rfl rfl ?_
        refine zr_iald (pc := 34) (zq_d eX10_coming 18 rfl) (ax_4 j) ?_
        refine zr_iload_n (pc := 35) (zq_d eX10_coming 19 rfl) 2 rfl rfl ?_
        refine zr_icmp_ne (pc := 36) 42 (zq_d eX10_coming 20 rfl) (by decide) (fun _ => ?_) (fun _ => ?_)
        · refine zr_iload_n (pc := 42) (zq_d eX10_coming 23 rfl) 3 rfl rfl ?_
          refine zr_if_ne (pc := 43) 53 (zq_d eX10_coming 24 rfl) (by decide) (fun _ => ?_) (fun _ => ?_)
          · refine zr_aload_n (pc := 53) (zq_d eX10_coming 30 rfl) 0 rfl rfl ?_
            refine zr_iload_n (pc := 54) (zq_d eX10_coming 31 rfl) 1 rfl rfl ?_
            refine zr_iload_n (pc := 55) (zq_d eX10_coming 32 rfl) 2 rfl rfl ?_
            refine zr_Wsi (pc := 56) [_, _] (zq_d eX10_coming 33 rfl) (s_X10_isBarredNow G N z j X _ _) zd_X10_isBarredNow zl_RX10_178 (ox_0 j) rfl rfl rfl rfl (Nat.le_of_ble_eq_true rfl) (Nat.le_of_ble_eq_true rfl) (Nat.le_of_ble_eq_true rfl) ⟨Nat.le_refl _, Nat.le_refl _⟩ (fun v4 X5 => ?_)
            refine zr_if_eq (pc := 59) 66 (zq_d eX10_coming 34 rfl) (by decide) (fun _ => ?_) (fun _ => ?_)
            · refine zr_iconst (pc := 66) (zq_d eX10_coming 37 rfl) zc_i0 ?_
              exact zr_ireturn (pc := 67) (zq_d eX10_coming 38 rfl) rfl rfl (Nat.zero_le _) (Nat.zero_le _)
            · refine zr_iconst (pc := 62) (zq_d eX10_coming 35 rfl) zc_i1 ?_
              refine zr_goto (pc := 63) 67 (zq_d eX10_coming 36 rfl) (by decide) ?_
              exact zr_ireturn (pc := 67) (zq_d eX10_coming 38 rfl) rfl rfl (Nat.zero_le _) (Nat.zero_le _)
          · refine zr_aload_n (pc := 46) (zq_d eX10_coming 25 rfl) 0 rfl rfl ?_
            refine zr_iload_n (pc := 47) (zq_d eX10_coming 26 rfl) 1 rfl rfl ?_
            refine zr_iload_n (pc := 48) (zq_d eX10_coming 27 rfl) 2 rfl rfl ?_
            refine zr_Wsi (pc := 49) [_, _] (zq_d eX10_coming 28 rfl) (s_X10_priceNow G N z j X _ _) zd_X10_priceNow zl_RX10_174 (ox_0 j) rfl rfl rfl rfl (Nat.le_of_ble_eq_true rfl) (Nat.le_of_ble_eq_true rfl) (Nat.le_of_ble_eq_true rfl) ⟨Nat.le_refl _, Nat.le_refl _⟩ (fun v6 X7 => ?_)
            exact zr_ireturn (pc := 52) (zq_d eX10_coming 29 rfl) rfl rfl (Nat.zero_le _) (Nat.zero_le _)
        · refine zr_bipush (pc := 39) (zq_d eX10_coming 21 rfl) zc_bm2 ?_
          exact zr_ireturn (pc := 41) (zq_d eX10_coming 22 rfl) rfl rfl (Nat.zero_le _) (Nat.zero_le _)
      · refine zr_iconst (pc := 24) (zq_d eX10_coming 12 rfl) zc_im1 ?_
        exact zr_ireturn (pc := 25) (zq_d eX10_coming 13 rfl) rfl rfl (Nat.zero_le _) (Nat.zero_le _)
def f_X10_come (N j : Nat) (X : zq_M) (a1 : Int32) (a2 : Int32) : Option (Int32 × zq_M) :=
  (f_X10_isPerson N j X a1).bind (fun v1 => if v1 = 0 then (some ((-1 : Int32), X)) else ((f_X10_isPlace N j X a2).bind (fun v2 => if ¬ v2 = 0 then (zq_ck a1 5 (if ¬ (X.1 4 (zq_ix a1)) = a2 then ((f_X10_isBarredNow N j X a1 a2).bind (zq_p (fun v3 X4 => if ¬ v3 = 0 then (some ((-3 : Int32), X4)) else (if (X4.1 1 7) < (9999 : Int32) then ((f_X10_priceNow N j X4 a1 a2).bind (zq_p (fun v5 X6 => zq_ck a1 5 (zq_b (zq_u1 X6 4 (zq_ix a1) a2) (fun X7 => zq_b (zq_u1 X7 1 8 (if ((X7.1 1 8) + v5) < (9999 : Int32) then ((X7.1 1 8) + v5) else (9999 : Int32))) (fun X8 => zq_b (zq_u1 X8 1 7 ((X8.1 1 7) + (1 : Int32))) (fun X9 => some (v5, X9)))))))) else (some ((-3 : Int32), X4)))))) else (some ((-2 : Int32), X)))) else (some ((-1 : Int32), X)))))
set_option maxRecDepth 20000 in
set_option maxHeartbeats 8000000 in
theorem s_X10_come (G : zq_G) (N z j : Nat) (X : zq_M) (a1 : Int32) (a2 : Int32) : zq_V G YX10_come (6, 0, 0) (zq_si (zq_shX j) z) 0 0 0 (lv_args 0 [.ref (zq_ad G 0), .int a1, .int a2]) [] (zq_shX j) z X (f_X10_come N j X a1 a2) := by
  unfold f_X10_come
  refine zr_lo (l2 := [(0, .ref (zq_ad G 0)), (1, .int a1), (2, .int a2)]) [0, 1, 2] rfl ?_
  refine zr_aload_n (pc := 0) (zq_d eX10_come 0 rfl) 0 rfl rfl ?_
  refine zr_iload_n (pc := 1) (zq_d eX10_come 1 rfl) 1 rfl rfl ?_
  refine zr_Vi (pc := 2) [_] (zq_d eX10_come 2 rfl) (s_X10_isPerson G N z j X _) zd_X10_isPerson zl_RX10_114 (ox_0 j) rfl rfl rfl rfl (Nat.le_of_ble_eq_true rfl) (Nat.le_of_ble_eq_true rfl) (Nat.le_of_ble_eq_true rfl) ⟨Nat.le_refl _, Nat.le_refl _⟩ (fun v1 => ?_)
  refine zr_if_eq (pc := 5) 15 (zq_d eX10_come 3 rfl) (by decide) (fun _ => ?_) (fun _ => ?_)
  · refine zr_iconst (pc := 15) (zq_d eX10_come 7 rfl) zc_im1 ?_
    exact zr_ireturn (pc := 16) (zq_d eX10_come 8 rfl) rfl rfl (Nat.zero_le _) (Nat.zero_le _)
  · refine zr_iload_n (pc := 8) (zq_d eX10_come 4 rfl) 2 rfl rfl ?_
    refine zr_Si (pc := 9) [_] (zq_d eX10_come 5 rfl) (s_X10_isPlace G N z j X _) zd_X10_isPlace zl_RX10_102 rfl rfl (Nat.le_of_ble_eq_true rfl) (Nat.le_of_ble_eq_true rfl) (Nat.le_of_ble_eq_true rfl) ⟨Nat.le_refl _, Nat.le_refl _⟩ (fun v2 => ?_)
    refine zr_if_ne (pc := 12) 17 (zq_d eX10_come 6 rfl) (by decide) (fun _ => ?_) (fun _ => ?_)
    · refine zr_aload_n (pc := 17) (zq_d eX10_come 9 rfl) 0 rfl rfl ?_
      refine zr_getC (pc := 18) (zq_d eX10_come 10 rfl) zf_RX10_12 (kx_0_0 j) ?_
      refine zr_getC (pc := 21) (zq_d eX10_come 11 rfl) zf_RX10_123 (kx_1_3 j) ?_
      refine zr_iload_n (pc := 24) (zq_d eX10_come 12 rfl) 1 rfl rfl ?_
      refine zr_iald (pc := 25) (zq_d eX10_come 13 rfl) (ax_4 j) ?_
      refine zr_iload_n (pc := 26) (zq_d eX10_come 14 rfl) 2 rfl rfl ?_
      refine zr_icmp_ne (pc := 27) 33 (zq_d eX10_come 15 rfl) (by decide) (fun _ => ?_) (fun _ => ?_)
      · refine zr_aload_n (pc := 33) (zq_d eX10_come 18 rfl) 0 rfl rfl ?_
        refine zr_iload_n (pc := 34) (zq_d eX10_come 19 rfl) 1 rfl rfl ?_
        refine zr_iload_n (pc := 35) (zq_d eX10_come 20 rfl) 2 rfl rfl ?_
        refine zr_Wsi (pc := 36) [_, _] (zq_d eX10_come 21 rfl) (s_X10_isBarredNow G N z j X _ _) zd_X10_isBarredNow zl_RX10_178 (ox_0 j) rfl rfl rfl rfl (Nat.le_of_ble_eq_true rfl) (Nat.le_of_ble_eq_true rfl) (Nat.le_of_ble_eq_true rfl) ⟨Nat.le_refl _, Nat.le_refl _⟩ (fun v3 X4 => ?_)
        refine zr_if_ne (pc := 39) 55 (zq_d eX10_come 22 rfl) (by decide) (fun _ => ?_) (fun _ => ?_)
        · refine zr_bipush (pc := 55) (zq_d eX10_come 28 rfl) zc_bm3 ?_
          exact zr_ireturn (pc := 57) (zq_d eX10_come 29 rfl) rfl rfl (Nat.zero_le _) (Nat.zero_le _)
        · refine zr_aload_n (pc := 42) (zq_d eX10_come 23 rfl) 0 rfl rfl ?_
          refine zr_getC (pc := 43) (zq_d eX10_come 24 rfl) zf_RX10_12 (kx_0_0 j) ?_
          refine zr_getI (pc := 46) (zq_d eX10_come 25 rfl) zf_RX10_168 (kx_1_7 j) ?_
          refine zr_sipush (pc := 49) (zq_d eX10_come 26 rfl) zc_s9999 ?_
          refine zr_icmp_lt (pc := 52) 58 (zq_d eX10_come 27 rfl) (by decide) (fun _ => ?_) (fun _ => ?_)
          · refine zr_aload_n (pc := 58) (zq_d eX10_come 30 rfl) 0 rfl rfl ?_
            refine zr_iload_n (pc := 59) (zq_d eX10_come 31 rfl) 1 rfl rfl ?_
            refine zr_iload_n (pc := 60) (zq_d eX10_come 32 rfl) 2 rfl rfl ?_
            refine zr_Wsi (pc := 61) [_, _] (zq_d eX10_come 33 rfl) (s_X10_priceNow G N z j X4 _ _) zd_X10_priceNow zl_RX10_174 (ox_0 j) rfl rfl rfl rfl (Nat.le_of_ble_eq_true rfl) (Nat.le_of_ble_eq_true rfl) (Nat.le_of_ble_eq_true rfl) ⟨Nat.le_refl _, Nat.le_refl _⟩ (fun v5 X6 => ?_)
            refine zr_istore_n (pc := 64) (lo2 := [(3, .int v5), (0, .ref (zq_ad G 0)), (1, .int a1), (2, .int a2)]) (zq_d eX10_come 34 rfl) rfl (Nat.le_of_ble_eq_true rfl) rfl ?_
            refine zr_aload_n (pc := 65) (zq_d eX10_come 35 rfl) 1 rfl rfl ?_
            refine zr_getC (pc := 66) (zq_d eX10_come 36 rfl) zf_RX10_12 (kx_0_0 j) ?_
            refine zr_getC (pc := 69) (zq_d eX10_come 37 rfl) zf_RX10_123 (kx_1_3 j) ?_
            refine zr_iload_n (pc := 72) (zq_d eX10_come 38 rfl) 2 rfl rfl ?_
            refine zr_iload_n (pc := 73) (zq_d eX10_come 39 rfl) 3 rfl rfl ?_
            refine zr_iast (pc := 74) (zq_d eX10_come 40 rfl) (ax_4 j) (fun X7 => ?_)
            refine zr_aload_n (pc := 75) (zq_d eX10_come 41 rfl) 1 rfl rfl ?_
            refine zr_getC (pc := 76) (zq_d eX10_come 42 rfl) zf_RX10_12 (kx_0_0 j) ?_
            refine zr_sipush (pc := 79) (zq_d eX10_come 43 rfl) zc_s9999 ?_
            refine zr_aload_n (pc := 82) (zq_d eX10_come 44 rfl) 1 rfl rfl ?_
            refine zr_getC (pc := 83) (zq_d eX10_come 45 rfl) zf_RX10_12 (kx_0_0 j) ?_
            refine zr_getI (pc := 86) (zq_d eX10_come 46 rfl) zf_RX10_171 (kx_1_8 j) ?_
            refine zr_iload_n (pc := 89) (zq_d eX10_come 47 rfl) 0 rfl rfl ?_
            refine zr_iadd (pc := 90) (zq_d eX10_come 48 rfl) ?_
            refine zr_min (pc := 91) (zq_d eX10_come 49 rfl) zl_RX10_182 zx_min1 zx_min2 zx_min3 (Nat.le_of_ble_eq_true rfl) (Nat.le_of_ble_eq_true rfl) ⟨Nat.le_refl _, Nat.le_refl _⟩ ?_
            refine zr_putI (pc := 94) (zq_d eX10_come 50 rfl) zf_RX10_171 (kx_1_8 j) zn_5_8 (fun X8 => ?_)
            refine zr_aload_n (pc := 97) (zq_d eX10_come 51 rfl) 1 rfl rfl ?_
            refine zr_getC (pc := 98) (zq_d eX10_come 52 rfl) zf_RX10_12 (kx_0_0 j) ?_
            refine zr_dup (pc := 101) (zq_d eX10_come 53 rfl) rfl ?_
            refine zr_getI (pc := 102) (zq_d eX10_come 54 rfl) zf_RX10_168 (kx_1_7 j) ?_
            refine zr_iconst (pc := 105) (zq_d eX10_come 55 rfl) zc_i1 ?_
            refine zr_iadd (pc := 106) (zq_d eX10_come 56 rfl) ?_
            refine zr_putI (pc := 107) (zq_d eX10_come 57 rfl) zf_RX10_168 (kx_1_7 j) zn_5_7 (fun X9 => ?_)
            refine zr_iload_n (pc := 110) (zq_d eX10_come 58 rfl) 0 rfl rfl ?_
            exact zr_ireturn (pc := 111) (zq_d eX10_come 59 rfl) rfl rfl (Nat.zero_le _) (Nat.zero_le _)
          · refine zr_bipush (pc := 55) (zq_d eX10_come 28 rfl) zc_bm3 ?_
            exact zr_ireturn (pc := 57) (zq_d eX10_come 29 rfl) rfl rfl (Nat.zero_le _) (Nat.zero_le _)
      · refine zr_bipush (pc := 30) (zq_d eX10_come 16 rfl) zc_bm2 ?_
        exact zr_ireturn (pc := 32) (zq_d eX10_come 17 rfl) rfl rfl (Nat.zero_le _) (Nat.zero_le _)
    · refine zr_iconst (pc := 15) (zq_d eX10_come 7 rfl) zc_im1 ?_
      exact zr_ireturn (pc := 16) (zq_d eX10_come 8 rfl) rfl rfl (Nat.zero_le _) (Nat.zero_le _)
def f_X10_isThing (N j : Nat) (X : zq_M) (a1 : Int32) : Option Int32 :=
  (f_X10_isFromTo N j X a1 (0 : Int32) (7 : Int32)).bind (fun v1 => zq_gz v1 (some v1))
set_option maxRecDepth 20000 in
set_option maxHeartbeats 8000000 in
theorem s_X10_isThing (G : zq_G) (N z j : Nat) (X : zq_M) (a1 : Int32) : zq_V G YX10_isThing (2, 0, 0) (zq_ei (zq_shX j) z X) 0 0 0 (lv_args 0 [.int a1]) [] (zq_shX j) z X (f_X10_isThing N j X a1) := by
  unfold f_X10_isThing
  refine zr_lo (l2 := [(0, .int a1)]) [0] rfl ?_
  refine zr_iload_n (pc := 0) (zq_d eX10_isThing 0 rfl) 0 rfl rfl ?_
  refine zr_iconst (pc := 1) (zq_d eX10_isThing 1 rfl) zc_i0 ?_
  refine zr_bipush (pc := 2) (zq_d eX10_isThing 2 rfl) zc_b7 ?_
  refine zr_Si (pc := 4) [_, _, _] (zq_d eX10_isThing 3 rfl) (s_X10_isFromTo G N z j X _ _ _) zd_X10_isFromTo zl_RX10_98 rfl rfl (Nat.le_of_ble_eq_true rfl) (Nat.le_of_ble_eq_true rfl) (Nat.le_of_ble_eq_true rfl) ⟨Nat.le_refl _, Nat.le_refl _⟩ (fun v1 => ?_)
  exact zr_zreturnG (pc := 7) (zq_d eX10_isThing 4 rfl) rfl rfl (Nat.zero_le _) (Nat.zero_le _)
def b_X10_say_59 (N : Nat) (j : Nat) (a1 : Int32) (a2 : Int32) (X4 : zq_M) (rc59_1 : Int32 → Int32 → zq_M → Option (Int32 × zq_M)) (v6 : Int32) (v7 : Int32) (X8 : zq_M) : Option (Int32 × zq_M) :=
  if (X8.1 1 0) ≤ v7 then (some (v6, X8)) else (zq_ck v7 5 (if ¬ (X8.1 4 (zq_ix v7)) = (X4.1 4 (zq_ix a1)) then (rc59_1 v6 (v7 + (1 : Int32)) X8) else ((f_X5_isKnown N j X8 1 v7 a2).bind (fun v9 => if ¬ v9 = 0 then (rc59_1 v6 (v7 + (1 : Int32)) X8) else ((f_X6_worthTo N j X8 v7 (X4.1 4 (zq_ix a1)) a2).bind (zq_p (fun v10 X11 => zq_ck v7 5 (zq_ck v7 5 (zq_b (zq_u1 X11 5 (zq_ix v7) ((X11.1 5 (zq_ix v7)) ||| (zq_shl (1 : Int32) a2))) (fun X12 => rc59_1 (v6 + v10) (v7 + (1 : Int32)) X12))))))))))
def f_X10_say (N j : Nat) (X : zq_M) (a1 : Int32) (a2 : Int32) : Option (Int32 × zq_M) :=
  (f_X10_isPerson N j X a1).bind (fun v1 => if v1 = 0 then (some ((-10001 : Int32), X)) else ((f_X10_isThing N j X a2).bind (fun v2 => if ¬ v2 = 0 then ((f_X10_maySpeakNow N j X a1).bind (zq_p (fun v3 X4 => if v3 = 0 then (some ((-10003 : Int32), X4)) else ((f_X5_isKnown N j X4 1 a1 a2).bind (fun v5 => if ¬ v5 = 0 then (zq_ck a1 5 (zq_loop (fun _ _ _ => none) (b_X10_say_59 N j a1 a2 X4) N (0 : Int32) (0 : Int32) X4)) else (some ((-10003 : Int32), X4))))))) else (some ((-10001 : Int32), X)))))
set_option maxRecDepth 20000 in
set_option maxHeartbeats 8000000 in
theorem s_X10_say (G : zq_G) (N z j : Nat) (X : zq_M) (a1 : Int32) (a2 : Int32) : zq_V G YX10_say (6, 0, 0) (zq_si (zq_shX j) z) 0 0 0 (lv_args 0 [.ref (zq_ad G 0), .int a1, .int a2]) [] (zq_shX j) z X (f_X10_say N j X a1 a2) := by
  unfold f_X10_say
  refine zr_lo (l2 := [(0, .ref (zq_ad G 0)), (1, .int a1), (2, .int a2)]) [0, 1, 2] rfl ?_
  refine zr_aload_n (pc := 0) (zq_d eX10_say 0 rfl) 0 rfl rfl ?_
  refine zr_iload_n (pc := 1) (zq_d eX10_say 1 rfl) 1 rfl rfl ?_
  refine zr_Vi (pc := 2) [_] (zq_d eX10_say 2 rfl) (s_X10_isPerson G N z j X _) zd_X10_isPerson zl_RX10_114 (ox_0 j) rfl rfl rfl rfl (Nat.le_of_ble_eq_true rfl) (Nat.le_of_ble_eq_true rfl) (Nat.le_of_ble_eq_true rfl) ⟨Nat.le_refl _, Nat.le_refl _⟩ (fun v1 => ?_)
  refine zr_if_eq (pc := 5) 15 (zq_d eX10_say 3 rfl) (by decide) (fun _ => ?_) (fun _ => ?_)
  · refine zr_sipush (pc := 15) (zq_d eX10_say 7 rfl) zc_sm10001 ?_
    exact zr_ireturn (pc := 18) (zq_d eX10_say 8 rfl) rfl rfl (Nat.zero_le _) (Nat.zero_le _)
  · refine zr_iload_n (pc := 8) (zq_d eX10_say 4 rfl) 2 rfl rfl ?_
    refine zr_Si (pc := 9) [_] (zq_d eX10_say 5 rfl) (s_X10_isThing G N z j X _) zd_X10_isThing zl_RX10_187 rfl rfl (Nat.le_of_ble_eq_true rfl) (Nat.le_of_ble_eq_true rfl) (Nat.le_of_ble_eq_true rfl) ⟨Nat.le_refl _, Nat.le_refl _⟩ (fun v2 => ?_)
    refine zr_if_ne (pc := 12) 19 (zq_d eX10_say 6 rfl) (by decide) (fun _ => ?_) (fun _ => ?_)
    · refine zr_aload_n (pc := 19) (zq_d eX10_say 9 rfl) 0 rfl rfl ?_
      refine zr_iload_n (pc := 20) (zq_d eX10_say 10 rfl) 1 rfl rfl ?_
      refine zr_Wsi (pc := 21) [_] (zq_d eX10_say 11 rfl) (s_X10_maySpeakNow G N z j X _) zd_X10_maySpeakNow zl_RX10_129 (ox_0 j) rfl rfl rfl rfl (Nat.le_of_ble_eq_true rfl) (Nat.le_of_ble_eq_true rfl) (Nat.le_of_ble_eq_true rfl) ⟨Nat.le_refl _, Nat.le_refl _⟩ (fun v3 X4 => ?_)
      refine zr_if_eq (pc := 24) 39 (zq_d eX10_say 12 rfl) (by decide) (fun _ => ?_) (fun _ => ?_)
      · refine zr_sipush (pc := 39) (zq_d eX10_say 19 rfl) zc_sm10003 ?_
        exact zr_ireturn (pc := 42) (zq_d eX10_say 20 rfl) rfl rfl (Nat.zero_le _) (Nat.zero_le _)
      · refine zr_aload_n (pc := 27) (zq_d eX10_say 13 rfl) 0 rfl rfl ?_
        refine zr_getC (pc := 28) (zq_d eX10_say 14 rfl) zf_RX10_12 (kx_0_0 j) ?_
        refine zr_iload_n (pc := 31) (zq_d eX10_say 15 rfl) 1 rfl rfl ?_
        refine zr_iload_n (pc := 32) (zq_d eX10_say 16 rfl) 2 rfl rfl ?_
        refine zr_Vi (pc := 33) [_, _] (zq_d eX10_say 17 rfl) (s_X5_isKnown G N z j X4 1 (zsc_1 j) _ _) zd_X5_isKnown zl_RX10_190 (ox_1 j) rfl rfl rfl rfl (Nat.le_of_ble_eq_true rfl) (Nat.le_of_ble_eq_true rfl) (Nat.le_of_ble_eq_true rfl) ⟨Nat.le_refl _, Nat.le_refl _⟩ (fun v5 => ?_)
        refine zr_if_ne (pc := 36) 43 (zq_d eX10_say 18 rfl) (by decide) (fun _ => ?_) (fun _ => ?_)
        · refine zr_aload_n (pc := 43) (zq_d eX10_say 21 rfl) 0 rfl rfl ?_
          refine zr_getC (pc := 44) (zq_d eX10_say 22 rfl) zf_RX10_12 (kx_0_0 j) ?_
          refine zr_getC (pc := 47) (zq_d eX10_say 23 rfl) zf_RX10_123 (kx_1_3 j) ?_
          refine zr_iload_n (pc := 50) (zq_d eX10_say 24 rfl) 1 rfl rfl ?_
          refine zr_iald (pc := 51) (zq_d eX10_say 25 rfl) (ax_4 j) ?_
          refine zr_istore_n (pc := 52) (lo2 := [(3, .int (X4.1 4 (zq_ix a1))), (0, .ref (zq_ad G 0)), (1, .int a1), (2, .int a2)]) (zq_d eX10_say 26 rfl) rfl (Nat.le_of_ble_eq_true rfl) rfl ?_
          refine zr_iconst (pc := 53) (zq_d eX10_say 27 rfl) zc_i0 ?_
          refine zr_istore (pc := 54) (lo2 := [(4, .int (0 : Int32)), (3, .int (X4.1 4 (zq_ix a1))), (0, .ref (zq_ad G 0)), (1, .int a1), (2, .int a2)]) (zq_d eX10_say 28 rfl) (Nat.le_of_ble_eq_true rfl) rfl ?_
          refine zr_iconst (pc := 56) (zq_d eX10_say 29 rfl) zc_i0 ?_
          refine zr_istore (pc := 57) (lo2 := [(5, .int (0 : Int32)), (4, .int (0 : Int32)), (3, .int (X4.1 4 (zq_ix a1))), (0, .ref (zq_ad G 0)), (1, .int a1), (2, .int a2)]) (zq_d eX10_say 30 rfl) (Nat.le_of_ble_eq_true rfl) rfl ?_
          have hbrc59_1 : ∀ rc59_1 : Int32 → Int32 → zq_M → Option (Int32 × zq_M), (∀ (v6 : Int32) (v7 : Int32) (X8 : zq_M), zq_V G YX10_say (6, 0, 0) (zq_si (zq_shX j) z) 0 0 59 [(0, .ref (zq_ad G 0)), (2, .int a2), (3, .int (X4.1 4 (zq_ix a1))), (4, .int v6), (5, .int v7)] [] (zq_shX j) z X8 (rc59_1 v6 v7 X8)) → ∀ (v6 : Int32) (v7 : Int32) (X8 : zq_M), zq_V G YX10_say (6, 0, 0) (zq_si (zq_shX j) z) 0 0 59 [(0, .ref (zq_ad G 0)), (2, .int a2), (3, .int (X4.1 4 (zq_ix a1))), (4, .int v6), (5, .int v7)] [] (zq_shX j) z X8 (b_X10_say_59 N j a1 a2 X4 rc59_1 v6 v7 X8) := by
            intro rc59_1 hrc59_1 v6 v7 X8
            unfold b_X10_say_59
            refine zr_iload (pc := 59) (zq_d eX10_say 31 rfl) 4 rfl ?_
            refine zr_aload_n (pc := 61) (zq_d eX10_say 32 rfl) 0 rfl rfl ?_
            refine zr_getC (pc := 62) (zq_d eX10_say 33 rfl) zf_RX10_12 (kx_0_0 j) ?_
            refine zr_getI (pc := 65) (zq_d eX10_say 34 rfl) zf_RX10_106 (kx_1_0 j) ?_
            refine zr_icmp_ge (pc := 68) 136 (zq_d eX10_say 35 rfl) (by decide) (fun _ => ?_) (fun _ => ?_)
            · refine zr_iload (pc := 136) (zq_d eX10_say 71 rfl) 3 rfl ?_
              exact zr_ireturn (pc := 138) (zq_d eX10_say 72 rfl) rfl rfl (Nat.zero_le _) (Nat.zero_le _)
            · refine zr_aload_n (pc := 71) (zq_d eX10_say 36 rfl) 0 rfl rfl ?_
              refine zr_getC (pc := 72) (zq_d eX10_say 37 rfl) zf_RX10_12 (kx_0_0 j) ?_
              refine zr_getC (pc := 75) (zq_d eX10_say 38 rfl) zf_RX10_123 (kx_1_3 j) ?_
              refine zr_iload (pc := 78) (zq_d eX10_say 39 rfl) 4 rfl ?_
              refine zr_iald (pc := 80) (zq_d eX10_say 40 rfl) (ax_4 j) ?_
              refine zr_iload_n (pc := 81) (zq_d eX10_say 41 rfl) 2 rfl rfl ?_
              refine zr_icmp_ne (pc := 82) 130 (zq_d eX10_say 42 rfl) (by decide) (fun _ => ?_) (fun _ => ?_)
              · refine zr_iinc (pc := 130) (j := 4) (v := (v7 + (1 : Int32))) (lo2 := [(5, .int (v7 + (1 : Int32))), (0, .ref (zq_ad G 0)), (2, .int a2), (3, .int (X4.1 4 (zq_ix a1))), (4, .int v6)]) (zq_d eX10_say 69 rfl) rfl (by rw [zc_i1]) (Nat.le_of_ble_eq_true rfl) rfl ?_
                refine zr_goto (pc := 133) 59 (zq_d eX10_say 70 rfl) (by decide) ?_
                exact zr_lo [1, 2, 3, 4, 0] rfl (hrc59_1 v6 (v7 + (1 : Int32)) X8)
              · refine zr_aload_n (pc := 85) (zq_d eX10_say 43 rfl) 0 rfl rfl ?_
                refine zr_getC (pc := 86) (zq_d eX10_say 44 rfl) zf_RX10_12 (kx_0_0 j) ?_
                refine zr_iload (pc := 89) (zq_d eX10_say 45 rfl) 4 rfl ?_
                refine zr_iload_n (pc := 91) (zq_d eX10_say 46 rfl) 1 rfl rfl ?_
                refine zr_Vi (pc := 92) [_, _] (zq_d eX10_say 47 rfl) (s_X5_isKnown G N z j X8 1 (zsc_1 j) _ _) zd_X5_isKnown zl_RX10_190 (ox_1 j) rfl rfl rfl rfl (Nat.le_of_ble_eq_true rfl) (Nat.le_of_ble_eq_true rfl) (Nat.le_of_ble_eq_true rfl) ⟨Nat.le_refl _, Nat.le_refl _⟩ (fun v9 => ?_)
                refine zr_if_ne (pc := 95) 130 (zq_d eX10_say 48 rfl) (by decide) (fun _ => ?_) (fun _ => ?_)
                · refine zr_iinc (pc := 130) (j := 4) (v := (v7 + (1 : Int32))) (lo2 := [(5, .int (v7 + (1 : Int32))), (0, .ref (zq_ad G 0)), (2, .int a2), (3, .int (X4.1 4 (zq_ix a1))), (4, .int v6)]) (zq_d eX10_say 69 rfl) rfl (by rw [zc_i1]) (Nat.le_of_ble_eq_true rfl) rfl ?_
                  refine zr_goto (pc := 133) 59 (zq_d eX10_say 70 rfl) (by decide) ?_
                  exact zr_lo [1, 2, 3, 4, 0] rfl (hrc59_1 v6 (v7 + (1 : Int32)) X8)
                · refine zr_iload (pc := 98) (zq_d eX10_say 49 rfl) 3 rfl ?_
                  refine zr_aload_n (pc := 100) (zq_d eX10_say 50 rfl) 0 rfl rfl ?_
                  refine zr_getC (pc := 101) (zq_d eX10_say 51 rfl) zf_RX10_48 (kx_0_9 j) ?_
                  refine zr_iload (pc := 104) (zq_d eX10_say 52 rfl) 4 rfl ?_
                  refine zr_iload_n (pc := 106) (zq_d eX10_say 53 rfl) 2 rfl rfl ?_
                  refine zr_iload_n (pc := 107) (zq_d eX10_say 54 rfl) 1 rfl rfl ?_
                  refine zr_Wsi (pc := 108) [_, _, _] (zq_d eX10_say 55 rfl) (s_X6_worthTo G N z j X8 _ _ _) zd_X6_worthTo zl_RX10_193 (ox_35 j) rfl rfl rfl rfl (Nat.le_of_ble_eq_true rfl) (Nat.le_of_ble_eq_true rfl) (Nat.le_of_ble_eq_true rfl) ⟨Nat.le_refl _, Nat.le_refl _⟩ (fun v10 X11 => ?_)
                  refine zr_iadd (pc := 111) (zq_d eX10_say 56 rfl) ?_
                  refine zr_istore (pc := 112) (lo2 := [(4, .int (v6 + v10)), (0, .ref (zq_ad G 0)), (2, .int a2), (3, .int (X4.1 4 (zq_ix a1))), (5, .int v7)]) (zq_d eX10_say 57 rfl) (Nat.le_of_ble_eq_true rfl) rfl ?_
                  refine zr_aload_n (pc := 114) (zq_d eX10_say 58 rfl) 1 rfl rfl ?_
                  refine zr_getC (pc := 115) (zq_d eX10_say 59 rfl) zf_RX10_12 (kx_0_0 j) ?_
                  refine zr_getC (pc := 118) (zq_d eX10_say 60 rfl) zf_RX10_126 (kx_1_4 j) ?_
                  refine zr_iload (pc := 121) (zq_d eX10_say 61 rfl) 4 rfl ?_
                  refine zr_dup2 (pc := 123) (zq_d eX10_say 62 rfl) rfl rfl ?_
                  refine zr_iald (pc := 124) (zq_d eX10_say 63 rfl) (ax_5 j) ?_
                  refine zr_iconst (pc := 125) (zq_d eX10_say 64 rfl) zc_i1 ?_
                  refine zr_iload_n (pc := 126) (zq_d eX10_say 65 rfl) 2 rfl rfl ?_
                  refine zr_ishl (pc := 127) (zq_d eX10_say 66 rfl) ?_
                  refine zr_ior (pc := 128) (zq_d eX10_say 67 rfl) ?_
                  refine zr_iast (pc := 129) (zq_d eX10_say 68 rfl) (ax_5 j) (fun X12 => ?_)
                  refine zr_iinc (pc := 130) (j := 4) (v := (v7 + (1 : Int32))) (lo2 := [(5, .int (v7 + (1 : Int32))), (4, .int (v6 + v10)), (0, .ref (zq_ad G 0)), (2, .int a2), (3, .int (X4.1 4 (zq_ix a1)))]) (zq_d eX10_say 69 rfl) rfl (by rw [zc_i1]) (Nat.le_of_ble_eq_true rfl) rfl ?_
                  refine zr_goto (pc := 133) 59 (zq_d eX10_say 70 rfl) (by decide) ?_
                  exact zr_lo [2, 3, 4, 1, 0] rfl (hrc59_1 (v6 + v10) (v7 + (1 : Int32)) X12)
          have hlrc59_1 := zr_loop (P := fun (rc59_1 : Int32 → Int32 → zq_M → Option (Int32 × zq_M)) => ∀ (v6 : Int32) (v7 : Int32) (X8 : zq_M), zq_V G YX10_say (6, 0, 0) (zq_si (zq_shX j) z) 0 0 59 [(0, .ref (zq_ad G 0)), (2, .int a2), (3, .int (X4.1 4 (zq_ix a1))), (4, .int v6), (5, .int v7)] [] (zq_shX j) z X8 (rc59_1 v6 v7 X8)) (fun _ _ _ => none) (b_X10_say_59 N j a1 a2 X4) (fun _ _ _ => zr_none) hbrc59_1 N
          exact zr_lo [3, 5, 2, 1, 0] rfl (hlrc59_1 (0 : Int32) (0 : Int32) X4)
        · refine zr_sipush (pc := 39) (zq_d eX10_say 19 rfl) zc_sm10003 ?_
          exact zr_ireturn (pc := 42) (zq_d eX10_say 20 rfl) rfl rfl (Nat.zero_le _) (Nat.zero_le _)
    · refine zr_sipush (pc := 15) (zq_d eX10_say 7 rfl) zc_sm10001 ?_
      exact zr_ireturn (pc := 18) (zq_d eX10_say 8 rfl) rfl rfl (Nat.zero_le _) (Nat.zero_le _)
def f_X10_lookAhead (N j : Nat) (X : zq_M)  : Option zq_M :=
  (f_X10_holding N j X).bind (fun h1 => zq_gd (zq_ho (zq_shX j) h1) ((f_X6_look N j X h1).bind (fun X2 => (f_X6_tellComings N j X2).bind (fun X3 => some X3))))
set_option maxRecDepth 20000 in
set_option maxHeartbeats 8000000 in
theorem s_X10_lookAhead (G : zq_G) (N z j : Nat) (X : zq_M)  : zq_V G YX10_lookAhead (6, 0, 0) (zq_sv (zq_shX j) z) 0 0 0 (lv_args 0 [.ref (zq_ad G 0)]) [] (zq_shX j) z X (f_X10_lookAhead N j X ) := by
  unfold f_X10_lookAhead
  refine zr_lo (l2 := [(0, .ref (zq_ad G 0))]) [0] rfl ?_
  refine zr_aload_n (pc := 0) (zq_d eX10_lookAhead 0 rfl) 0 rfl rfl ?_
  refine zr_getC (pc := 1) (zq_d eX10_lookAhead 1 rfl) zf_RX10_48 (kx_0_9 j) ?_
  refine zr_aload_n (pc := 4) (zq_d eX10_lookAhead 2 rfl) 0 rfl rfl ?_
  refine zr_Vr (pc := 5) [] (zq_d eX10_lookAhead 3 rfl) (s_X10_holding G N z j X ) zd_X10_holding zl_RX10_161 (ox_0 j) rfl rfl rfl rfl (Nat.le_of_ble_eq_true rfl) (Nat.le_of_ble_eq_true rfl) (Nat.le_of_ble_eq_true rfl) ⟨Nat.le_refl _, Nat.le_refl _⟩ (fun h1 => zr_gd (fun gh1 => ?_))
  refine zr_Vv (pc := 8) [_] (zq_d eX10_lookAhead 4 rfl) (s_X6_look G N z j X h1 gh1) zd_X6_look zl_RX10_254 (ox_35 j) rfl rfl rfl rfl (Nat.le_of_ble_eq_true rfl) (Nat.le_of_ble_eq_true rfl) (Nat.le_of_ble_eq_true rfl) ⟨Nat.le_refl _, Nat.le_refl _⟩ (fun X2 => ?_)
  refine zr_aload_n (pc := 11) (zq_d eX10_lookAhead 5 rfl) 0 rfl rfl ?_
  refine zr_getC (pc := 12) (zq_d eX10_lookAhead 6 rfl) zf_RX10_48 (kx_0_9 j) ?_
  refine zr_Vv (pc := 15) [] (zq_d eX10_lookAhead 7 rfl) (s_X6_tellComings G N z j X2 ) zd_X6_tellComings zl_RX10_328 (ox_35 j) rfl rfl rfl rfl (Nat.le_of_ble_eq_true rfl) (Nat.le_of_ble_eq_true rfl) (Nat.le_of_ble_eq_true rfl) ⟨Nat.le_refl _, Nat.le_refl _⟩ (fun X3 => ?_)
  exact zr_vreturn (pc := 18) (zq_d eX10_lookAhead 8 rfl) rfl rfl (Nat.zero_le _) (Nat.zero_le _)
def j_X10_soonest_46 (N : Nat) (j : Nat) (a1 : Int32) (a2 : Int32) (X4 : zq_M) (v5 : Int32) : Option (Int32 × zq_M) :=
  (f_X9_fewestComings N j X4 a1 a2 v5).bind (zq_p (fun v6 X7 => some (v6, X7)))
def f_X10_soonest (N j : Nat) (X : zq_M) (a1 : Int32) (a2 : Int32) (a3 : Int32) : Option (Int32 × zq_M) :=
  (f_X10_isPerson N j X a1).bind (fun v1 => if v1 = 0 then (some ((-1 : Int32), X)) else ((f_X10_isRoom N j X a2).bind (fun v2 => if v2 = 0 then (some ((-1 : Int32), X)) else ((f_X10_isFromTo N j X a3 (0 : Int32) (1 : Int32)).bind (fun v3 => if ¬ v3 = 0 then ((f_X10_lookAhead N j X).bind (fun X4 => if ¬ a3 = (1 : Int32) then (j_X10_soonest_46 N j a1 a2 X4 (0 : Int32)) else (j_X10_soonest_46 N j a1 a2 X4 (1 : Int32)))) else (some ((-1 : Int32), X)))))))
set_option maxRecDepth 20000 in
set_option maxHeartbeats 8000000 in
theorem s_X10_soonest (G : zq_G) (N z j : Nat) (X : zq_M) (a1 : Int32) (a2 : Int32) (a3 : Int32) : zq_V G YX10_soonest (8, 0, 0) (zq_si (zq_shX j) z) 0 0 0 (lv_args 0 [.ref (zq_ad G 0), .int a1, .int a2, .int a3]) [] (zq_shX j) z X (f_X10_soonest N j X a1 a2 a3) := by
  unfold f_X10_soonest
  refine zr_lo (l2 := [(0, .ref (zq_ad G 0)), (1, .int a1), (2, .int a2), (3, .int a3)]) [0, 1, 2, 3] rfl ?_
  refine zr_aload_n (pc := 0) (zq_d eX10_soonest 0 rfl) 0 rfl rfl ?_
  refine zr_iload_n (pc := 1) (zq_d eX10_soonest 1 rfl) 1 rfl rfl ?_
  refine zr_Vi (pc := 2) [_] (zq_d eX10_soonest 2 rfl) (s_X10_isPerson G N z j X _) zd_X10_isPerson zl_RX10_114 (ox_0 j) rfl rfl rfl rfl (Nat.le_of_ble_eq_true rfl) (Nat.le_of_ble_eq_true rfl) (Nat.le_of_ble_eq_true rfl) ⟨Nat.le_refl _, Nat.le_refl _⟩ (fun v1 => ?_)
  refine zr_if_eq (pc := 5) 24 (zq_d eX10_soonest 3 rfl) (by decide) (fun _ => ?_) (fun _ => ?_)
  · refine zr_iconst (pc := 24) (zq_d eX10_soonest 12 rfl) zc_im1 ?_
    exact zr_ireturn (pc := 25) (zq_d eX10_soonest 13 rfl) rfl rfl (Nat.zero_le _) (Nat.zero_le _)
  · refine zr_iload_n (pc := 8) (zq_d eX10_soonest 4 rfl) 2 rfl rfl ?_
    refine zr_Si (pc := 9) [_] (zq_d eX10_soonest 5 rfl) (s_X10_isRoom G N z j X _) zd_X10_isRoom zl_RX10_132 rfl rfl (Nat.le_of_ble_eq_true rfl) (Nat.le_of_ble_eq_true rfl) (Nat.le_of_ble_eq_true rfl) ⟨Nat.le_refl _, Nat.le_refl _⟩ (fun v2 => ?_)
    refine zr_if_eq (pc := 12) 24 (zq_d eX10_soonest 6 rfl) (by decide) (fun _ => ?_) (fun _ => ?_)
    · refine zr_iconst (pc := 24) (zq_d eX10_soonest 12 rfl) zc_im1 ?_
      exact zr_ireturn (pc := 25) (zq_d eX10_soonest 13 rfl) rfl rfl (Nat.zero_le _) (Nat.zero_le _)
    · refine zr_iload_n (pc := 15) (zq_d eX10_soonest 7 rfl) 3 rfl rfl ?_
      refine zr_iconst (pc := 16) (zq_d eX10_soonest 8 rfl) zc_i0 ?_
      refine zr_iconst (pc := 17) (zq_d eX10_soonest 9 rfl) zc_i1 ?_
      refine zr_Si (pc := 18) [_, _, _] (zq_d eX10_soonest 10 rfl) (s_X10_isFromTo G N z j X _ _ _) zd_X10_isFromTo zl_RX10_98 rfl rfl (Nat.le_of_ble_eq_true rfl) (Nat.le_of_ble_eq_true rfl) (Nat.le_of_ble_eq_true rfl) ⟨Nat.le_refl _, Nat.le_refl _⟩ (fun v3 => ?_)
      refine zr_if_ne (pc := 21) 26 (zq_d eX10_soonest 11 rfl) (by decide) (fun _ => ?_) (fun _ => ?_)
      · refine zr_aload_n (pc := 26) (zq_d eX10_soonest 14 rfl) 0 rfl rfl ?_
        refine zr_Vv (pc := 27) [] (zq_d eX10_soonest 15 rfl) (s_X10_lookAhead G N z j X ) zd_X10_lookAhead zl_RX10_196 (ox_0 j) rfl rfl rfl rfl (Nat.le_of_ble_eq_true rfl) (Nat.le_of_ble_eq_true rfl) (Nat.le_of_ble_eq_true rfl) ⟨Nat.le_refl _, Nat.le_refl _⟩ (fun X4 => ?_)
        refine zr_aload_n (pc := 30) (zq_d eX10_soonest 16 rfl) 0 rfl rfl ?_
        refine zr_getC (pc := 31) (zq_d eX10_soonest 17 rfl) zf_RX10_57 (kx_0_10 j) ?_
        refine zr_iload_n (pc := 34) (zq_d eX10_soonest 18 rfl) 1 rfl rfl ?_
        refine zr_iload_n (pc := 35) (zq_d eX10_soonest 19 rfl) 2 rfl rfl ?_
        refine zr_iload_n (pc := 36) (zq_d eX10_soonest 20 rfl) 3 rfl rfl ?_
        refine zr_iconst (pc := 37) (zq_d eX10_soonest 21 rfl) zc_i1 ?_
        have hj46_1 : ∀ (v5 : Int32), zq_V G YX10_soonest (8, 0, 0) (zq_si (zq_shX j) z) 0 0 46 [] [.int v5, .int a2, .int a1, .ref (zq_ad G 41)] (zq_shX j) z X4 (j_X10_soonest_46 N j a1 a2 X4 v5) := by
          intro v5
          unfold j_X10_soonest_46
          refine zr_Wsi (pc := 46) [_, _, _] (zq_d eX10_soonest 26 rfl) (s_X9_fewestComings G N z j X4 _ _ _) zd_X9_fewestComings zl_RX10_199 (ox_41 j) rfl rfl rfl rfl (Nat.le_of_ble_eq_true rfl) (Nat.le_of_ble_eq_true rfl) (Nat.le_of_ble_eq_true rfl) ⟨Nat.le_refl _, Nat.le_refl _⟩ (fun v6 X7 => ?_)
          exact zr_ireturn (pc := 49) (zq_d eX10_soonest 27 rfl) rfl rfl (Nat.zero_le _) (Nat.zero_le _)
        refine zr_icmp_ne (pc := 38) 45 (zq_d eX10_soonest 22 rfl) (by decide) (fun _ => ?_) (fun _ => ?_)
        · refine zr_iconst (pc := 45) (zq_d eX10_soonest 25 rfl) zc_i0 ?_
          exact zr_lo [] rfl (hj46_1 (0 : Int32))
        · refine zr_iconst (pc := 41) (zq_d eX10_soonest 23 rfl) zc_i1 ?_
          refine zr_goto (pc := 42) 46 (zq_d eX10_soonest 24 rfl) (by decide) ?_
          exact zr_lo [] rfl (hj46_1 (1 : Int32))
      · refine zr_iconst (pc := 24) (zq_d eX10_soonest 12 rfl) zc_im1 ?_
        exact zr_ireturn (pc := 25) (zq_d eX10_soonest 13 rfl) rfl rfl (Nat.zero_le _) (Nat.zero_le _)
def f_X10_cheapest (N j : Nat) (X : zq_M) (a1 : Int32) (a2 : Int32) (a3 : Int32) : Option (Int32 × zq_M) :=
  (f_X10_isPerson N j X a1).bind (fun v1 => if v1 = 0 then (some ((-1 : Int32), X)) else ((f_X10_isRoom N j X a2).bind (fun v2 => if ¬ v2 = 0 then ((f_X10_isFromTo N j X a3 (0 : Int32) (4 : Int32)).bind (fun v3 => if ¬ v3 = 0 then ((f_X10_lookAhead N j X).bind (fun X4 => (f_X9_leastCost N j X4 a1 a2 a3).bind (zq_p (fun v5 X6 => some (v5, X6))))) else (some ((-2 : Int32), X)))) else (some ((-1 : Int32), X)))))
set_option maxRecDepth 20000 in
set_option maxHeartbeats 8000000 in
theorem s_X10_cheapest (G : zq_G) (N z j : Nat) (X : zq_M) (a1 : Int32) (a2 : Int32) (a3 : Int32) : zq_V G YX10_cheapest (8, 0, 0) (zq_si (zq_shX j) z) 0 0 0 (lv_args 0 [.ref (zq_ad G 0), .int a1, .int a2, .int a3]) [] (zq_shX j) z X (f_X10_cheapest N j X a1 a2 a3) := by
  unfold f_X10_cheapest
  refine zr_lo (l2 := [(0, .ref (zq_ad G 0)), (1, .int a1), (2, .int a2), (3, .int a3)]) [0, 1, 2, 3] rfl ?_
  refine zr_aload_n (pc := 0) (zq_d eX10_cheapest 0 rfl) 0 rfl rfl ?_
  refine zr_iload_n (pc := 1) (zq_d eX10_cheapest 1 rfl) 1 rfl rfl ?_
  refine zr_Vi (pc := 2) [_] (zq_d eX10_cheapest 2 rfl) (s_X10_isPerson G N z j X _) zd_X10_isPerson zl_RX10_114 (ox_0 j) rfl rfl rfl rfl (Nat.le_of_ble_eq_true rfl) (Nat.le_of_ble_eq_true rfl) (Nat.le_of_ble_eq_true rfl) ⟨Nat.le_refl _, Nat.le_refl _⟩ (fun v1 => ?_)
  refine zr_if_eq (pc := 5) 15 (zq_d eX10_cheapest 3 rfl) (by decide) (fun _ => ?_) (fun _ => ?_)
  · refine zr_iconst (pc := 15) (zq_d eX10_cheapest 7 rfl) zc_im1 ?_
    exact zr_ireturn (pc := 16) (zq_d eX10_cheapest 8 rfl) rfl rfl (Nat.zero_le _) (Nat.zero_le _)
  · refine zr_iload_n (pc := 8) (zq_d eX10_cheapest 4 rfl) 2 rfl rfl ?_
    refine zr_Si (pc := 9) [_] (zq_d eX10_cheapest 5 rfl) (s_X10_isRoom G N z j X _) zd_X10_isRoom zl_RX10_132 rfl rfl (Nat.le_of_ble_eq_true rfl) (Nat.le_of_ble_eq_true rfl) (Nat.le_of_ble_eq_true rfl) ⟨Nat.le_refl _, Nat.le_refl _⟩ (fun v2 => ?_)
    refine zr_if_ne (pc := 12) 17 (zq_d eX10_cheapest 6 rfl) (by decide) (fun _ => ?_) (fun _ => ?_)
    · refine zr_iload_n (pc := 17) (zq_d eX10_cheapest 9 rfl) 3 rfl rfl ?_
      refine zr_iconst (pc := 18) (zq_d eX10_cheapest 10 rfl) zc_i0 ?_
      refine zr_iconst (pc := 19) (zq_d eX10_cheapest 11 rfl) zc_i4 ?_
      refine zr_Si (pc := 20) [_, _, _] (zq_d eX10_cheapest 12 rfl) (s_X10_isFromTo G N z j X _ _ _) zd_X10_isFromTo zl_RX10_98 rfl rfl (Nat.le_of_ble_eq_true rfl) (Nat.le_of_ble_eq_true rfl) (Nat.le_of_ble_eq_true rfl) ⟨Nat.le_refl _, Nat.le_refl _⟩ (fun v3 => ?_)
      refine zr_if_ne (pc := 23) 29 (zq_d eX10_cheapest 13 rfl) (by decide) (fun _ => ?_) (fun _ => ?_)
      · refine zr_aload_n (pc := 29) (zq_d eX10_cheapest 16 rfl) 0 rfl rfl ?_
        refine zr_Vv (pc := 30) [] (zq_d eX10_cheapest 17 rfl) (s_X10_lookAhead G N z j X ) zd_X10_lookAhead zl_RX10_196 (ox_0 j) rfl rfl rfl rfl (Nat.le_of_ble_eq_true rfl) (Nat.le_of_ble_eq_true rfl) (Nat.le_of_ble_eq_true rfl) ⟨Nat.le_refl _, Nat.le_refl _⟩ (fun X4 => ?_)
        refine zr_aload_n (pc := 33) (zq_d eX10_cheapest 18 rfl) 0 rfl rfl ?_
        refine zr_getC (pc := 34) (zq_d eX10_cheapest 19 rfl) zf_RX10_57 (kx_0_10 j) ?_
        refine zr_iload_n (pc := 37) (zq_d eX10_cheapest 20 rfl) 1 rfl rfl ?_
        refine zr_iload_n (pc := 38) (zq_d eX10_cheapest 21 rfl) 2 rfl rfl ?_
        refine zr_iload_n (pc := 39) (zq_d eX10_cheapest 22 rfl) 3 rfl rfl ?_
        refine zr_Wsi (pc := 40) [_, _, _] (zq_d eX10_cheapest 23 rfl) (s_X9_leastCost G N z j X4 _ _ _) zd_X9_leastCost zl_RX10_203 (ox_41 j) rfl rfl rfl rfl (Nat.le_of_ble_eq_true rfl) (Nat.le_of_ble_eq_true rfl) (Nat.le_of_ble_eq_true rfl) ⟨Nat.le_refl _, Nat.le_refl _⟩ (fun v5 X6 => ?_)
        exact zr_ireturn (pc := 43) (zq_d eX10_cheapest 24 rfl) rfl rfl (Nat.zero_le _) (Nat.zero_le _)
      · refine zr_bipush (pc := 26) (zq_d eX10_cheapest 14 rfl) zc_bm2 ?_
        exact zr_ireturn (pc := 28) (zq_d eX10_cheapest 15 rfl) rfl rfl (Nat.zero_le _) (Nat.zero_le _)
    · refine zr_iconst (pc := 15) (zq_d eX10_cheapest 7 rfl) zc_im1 ?_
      exact zr_ireturn (pc := 16) (zq_d eX10_cheapest 8 rfl) rfl rfl (Nat.zero_le _) (Nat.zero_le _)
def f_X10_never (N j : Nat) (X : zq_M) (a1 : Int32) : Option (Int32 × zq_M) :=
  (f_X10_isRoom N j X a1).bind (fun v1 => if ¬ v1 = 0 then ((f_X10_lookAhead N j X).bind (fun X2 => (f_X9_whoNeverCan N j X2 a1).bind (zq_p (fun v3 X4 => some (v3, X4))))) else (some ((-1 : Int32), X)))
set_option maxRecDepth 20000 in
set_option maxHeartbeats 8000000 in
theorem s_X10_never (G : zq_G) (N z j : Nat) (X : zq_M) (a1 : Int32) : zq_V G YX10_never (8, 0, 0) (zq_si (zq_shX j) z) 0 0 0 (lv_args 0 [.ref (zq_ad G 0), .int a1]) [] (zq_shX j) z X (f_X10_never N j X a1) := by
  unfold f_X10_never
  refine zr_lo (l2 := [(0, .ref (zq_ad G 0)), (1, .int a1)]) [0, 1] rfl ?_
  refine zr_iload_n (pc := 0) (zq_d eX10_never 0 rfl) 1 rfl rfl ?_
  refine zr_Si (pc := 1) [_] (zq_d eX10_never 1 rfl) (s_X10_isRoom G N z j X _) zd_X10_isRoom zl_RX10_132 rfl rfl (Nat.le_of_ble_eq_true rfl) (Nat.le_of_ble_eq_true rfl) (Nat.le_of_ble_eq_true rfl) ⟨Nat.le_refl _, Nat.le_refl _⟩ (fun v1 => ?_)
  refine zr_if_ne (pc := 4) 9 (zq_d eX10_never 2 rfl) (by decide) (fun _ => ?_) (fun _ => ?_)
  · refine zr_aload_n (pc := 9) (zq_d eX10_never 5 rfl) 0 rfl rfl ?_
    refine zr_Vv (pc := 10) [] (zq_d eX10_never 6 rfl) (s_X10_lookAhead G N z j X ) zd_X10_lookAhead zl_RX10_196 (ox_0 j) rfl rfl rfl rfl (Nat.le_of_ble_eq_true rfl) (Nat.le_of_ble_eq_true rfl) (Nat.le_of_ble_eq_true rfl) ⟨Nat.le_refl _, Nat.le_refl _⟩ (fun X2 => ?_)
    refine zr_aload_n (pc := 13) (zq_d eX10_never 7 rfl) 0 rfl rfl ?_
    refine zr_getC (pc := 14) (zq_d eX10_never 8 rfl) zf_RX10_57 (kx_0_10 j) ?_
    refine zr_iload_n (pc := 17) (zq_d eX10_never 9 rfl) 1 rfl rfl ?_
    refine zr_Wsi (pc := 18) [_] (zq_d eX10_never 10 rfl) (s_X9_whoNeverCan G N z j X2 _) zd_X9_whoNeverCan zl_RX10_206 (ox_41 j) rfl rfl rfl rfl (Nat.le_of_ble_eq_true rfl) (Nat.le_of_ble_eq_true rfl) (Nat.le_of_ble_eq_true rfl) ⟨Nat.le_refl _, Nat.le_refl _⟩ (fun v3 X4 => ?_)
    exact zr_ireturn (pc := 21) (zq_d eX10_never 11 rfl) rfl rfl (Nat.zero_le _) (Nat.zero_le _)
  · refine zr_iconst (pc := 7) (zq_d eX10_never 3 rfl) zc_im1 ?_
    exact zr_ireturn (pc := 8) (zq_d eX10_never 4 rfl) rfl rfl (Nat.zero_le _) (Nat.zero_le _)
def f_X10_heard (N j : Nat) (X : zq_M) (a1 : Int32) : Option (Int32 × zq_M) :=
  (f_X10_isThing N j X a1).bind (fun v1 => if ¬ v1 = 0 then ((f_X10_lookAhead N j X).bind (fun X2 => (f_X5_whoKnows N j X2 1 a1).bind (fun v3 => (f_X5_everybody N j X2 1).bind (fun v4 => (f_X1_fewestTill N j X2 v3 (zq_shl (1 : Int32) v4)).bind (zq_p (fun v5 X6 => some (v5, X6))))))) else (some ((-1 : Int32), X)))
set_option maxRecDepth 20000 in
set_option maxHeartbeats 8000000 in
theorem s_X10_heard (G : zq_G) (N z j : Nat) (X : zq_M) (a1 : Int32) : zq_V G YX10_heard (7, 0, 0) (zq_si (zq_shX j) z) 0 0 0 (lv_args 0 [.ref (zq_ad G 0), .int a1]) [] (zq_shX j) z X (f_X10_heard N j X a1) := by
  unfold f_X10_heard
  refine zr_lo (l2 := [(0, .ref (zq_ad G 0)), (1, .int a1)]) [0, 1] rfl ?_
  refine zr_iload_n (pc := 0) (zq_d eX10_heard 0 rfl) 1 rfl rfl ?_
  refine zr_Si (pc := 1) [_] (zq_d eX10_heard 1 rfl) (s_X10_isThing G N z j X _) zd_X10_isThing zl_RX10_187 rfl rfl (Nat.le_of_ble_eq_true rfl) (Nat.le_of_ble_eq_true rfl) (Nat.le_of_ble_eq_true rfl) ⟨Nat.le_refl _, Nat.le_refl _⟩ (fun v1 => ?_)
  refine zr_if_ne (pc := 4) 9 (zq_d eX10_heard 2 rfl) (by decide) (fun _ => ?_) (fun _ => ?_)
  · refine zr_aload_n (pc := 9) (zq_d eX10_heard 5 rfl) 0 rfl rfl ?_
    refine zr_Vv (pc := 10) [] (zq_d eX10_heard 6 rfl) (s_X10_lookAhead G N z j X ) zd_X10_lookAhead zl_RX10_196 (ox_0 j) rfl rfl rfl rfl (Nat.le_of_ble_eq_true rfl) (Nat.le_of_ble_eq_true rfl) (Nat.le_of_ble_eq_true rfl) ⟨Nat.le_refl _, Nat.le_refl _⟩ (fun X2 => ?_)
    refine zr_aload_n (pc := 13) (zq_d eX10_heard 7 rfl) 0 rfl rfl ?_
    refine zr_getC (pc := 14) (zq_d eX10_heard 8 rfl) zf_RX10_64 (kx_0_11 j) ?_
    refine zr_aload_n (pc := 17) (zq_d eX10_heard 9 rfl) 0 rfl rfl ?_
    refine zr_getC (pc := 18) (zq_d eX10_heard 10 rfl) zf_RX10_12 (kx_0_0 j) ?_
    refine zr_iload_n (pc := 21) (zq_d eX10_heard 11 rfl) 1 rfl rfl ?_
    refine zr_Vi (pc := 22) [_] (zq_d eX10_heard 12 rfl) (s_X5_whoKnows G N z j X2 1 (zsc_1 j) _) zd_X5_whoKnows zl_RX10_209 (ox_1 j) rfl rfl rfl rfl (Nat.le_of_ble_eq_true rfl) (Nat.le_of_ble_eq_true rfl) (Nat.le_of_ble_eq_true rfl) ⟨Nat.le_refl _, Nat.le_refl _⟩ (fun v3 => ?_)
    refine zr_iconst (pc := 25) (zq_d eX10_heard 13 rfl) zc_i1 ?_
    refine zr_aload_n (pc := 26) (zq_d eX10_heard 14 rfl) 0 rfl rfl ?_
    refine zr_getC (pc := 27) (zq_d eX10_heard 15 rfl) zf_RX10_12 (kx_0_0 j) ?_
    refine zr_Vi (pc := 30) [] (zq_d eX10_heard 16 rfl) (s_X5_everybody G N z j X2 1 (zsc_1 j)) zd_X5_everybody zl_RX10_212 (ox_1 j) rfl rfl rfl rfl (Nat.le_of_ble_eq_true rfl) (Nat.le_of_ble_eq_true rfl) (Nat.le_of_ble_eq_true rfl) ⟨Nat.le_refl _, Nat.le_refl _⟩ (fun v4 => ?_)
    refine zr_ishl (pc := 33) (zq_d eX10_heard 17 rfl) ?_
    refine zr_Wsi (pc := 34) [_, _] (zq_d eX10_heard 18 rfl) (s_X1_fewestTill G N z j X2 _ _) zd_X1_fewestTill zl_RX10_216 (ox_45 j) rfl rfl rfl rfl (Nat.le_of_ble_eq_true rfl) (Nat.le_of_ble_eq_true rfl) (Nat.le_of_ble_eq_true rfl) ⟨Nat.le_refl _, Nat.le_refl _⟩ (fun v5 X6 => ?_)
    exact zr_ireturn (pc := 37) (zq_d eX10_heard 19 rfl) rfl rfl (Nat.zero_le _) (Nat.zero_le _)
  · refine zr_iconst (pc := 7) (zq_d eX10_heard 3 rfl) zc_im1 ?_
    exact zr_ireturn (pc := 8) (zq_d eX10_heard 4 rfl) rfl rfl (Nat.zero_le _) (Nat.zero_le _)
def f_X10_secret (N j : Nat) (X : zq_M) (a1 : Int32) (a2 : Int32) (a3 : Int32) : Option (Int32 × zq_M) :=
  (f_X10_isPerson N j X a1).bind (fun v1 => if v1 = 0 then (some ((-1 : Int32), X)) else ((f_X10_isPerson N j X a2).bind (fun v2 => if v2 = 0 then (some ((-1 : Int32), X)) else ((f_X10_isThing N j X a3).bind (fun v3 => if ¬ v3 = 0 then (if ¬ a1 = a2 then ((f_X10_lookAhead N j X).bind (fun X4 => (f_X5_whoKnows N j X4 1 a3).bind (fun v5 => (f_X1_setsOfOneWithout N j X4 a1 a2).bind (fun v6 => (f_X1_fewestTill N j X4 v5 v6).bind (zq_p (fun v7 X8 => some (v7, X8))))))) else (some ((-2 : Int32), X))) else (some ((-1 : Int32), X)))))))
set_option maxRecDepth 20000 in
set_option maxHeartbeats 8000000 in
theorem s_X10_secret (G : zq_G) (N z j : Nat) (X : zq_M) (a1 : Int32) (a2 : Int32) (a3 : Int32) : zq_V G YX10_secret (7, 0, 0) (zq_si (zq_shX j) z) 0 0 0 (lv_args 0 [.ref (zq_ad G 0), .int a1, .int a2, .int a3]) [] (zq_shX j) z X (f_X10_secret N j X a1 a2 a3) := by
  unfold f_X10_secret
  refine zr_lo (l2 := [(0, .ref (zq_ad G 0)), (1, .int a1), (2, .int a2), (3, .int a3)]) [0, 1, 2, 3] rfl ?_
  refine zr_aload_n (pc := 0) (zq_d eX10_secret 0 rfl) 0 rfl rfl ?_
  refine zr_iload_n (pc := 1) (zq_d eX10_secret 1 rfl) 1 rfl rfl ?_
  refine zr_Vi (pc := 2) [_] (zq_d eX10_secret 2 rfl) (s_X10_isPerson G N z j X _) zd_X10_isPerson zl_RX10_114 (ox_0 j) rfl rfl rfl rfl (Nat.le_of_ble_eq_true rfl) (Nat.le_of_ble_eq_true rfl) (Nat.le_of_ble_eq_true rfl) ⟨Nat.le_refl _, Nat.le_refl _⟩ (fun v1 => ?_)
  refine zr_if_eq (pc := 5) 23 (zq_d eX10_secret 3 rfl) (by decide) (fun _ => ?_) (fun _ => ?_)
  · refine zr_iconst (pc := 23) (zq_d eX10_secret 11 rfl) zc_im1 ?_
    exact zr_ireturn (pc := 24) (zq_d eX10_secret 12 rfl) rfl rfl (Nat.zero_le _) (Nat.zero_le _)
  · refine zr_aload_n (pc := 8) (zq_d eX10_secret 4 rfl) 0 rfl rfl ?_
    refine zr_iload_n (pc := 9) (zq_d eX10_secret 5 rfl) 2 rfl rfl ?_
    refine zr_Vi (pc := 10) [_] (zq_d eX10_secret 6 rfl) (s_X10_isPerson G N z j X _) zd_X10_isPerson zl_RX10_114 (ox_0 j) rfl rfl rfl rfl (Nat.le_of_ble_eq_true rfl) (Nat.le_of_ble_eq_true rfl) (Nat.le_of_ble_eq_true rfl) ⟨Nat.le_refl _, Nat.le_refl _⟩ (fun v2 => ?_)
    refine zr_if_eq (pc := 13) 23 (zq_d eX10_secret 7 rfl) (by decide) (fun _ => ?_) (fun _ => ?_)
    · refine zr_iconst (pc := 23) (zq_d eX10_secret 11 rfl) zc_im1 ?_
      exact zr_ireturn (pc := 24) (zq_d eX10_secret 12 rfl) rfl rfl (Nat.zero_le _) (Nat.zero_le _)
    · refine zr_iload_n (pc := 16) (zq_d eX10_secret 8 rfl) 3 rfl rfl ?_
      refine zr_Si (pc := 17) [_] (zq_d eX10_secret 9 rfl) (s_X10_isThing G N z j X _) zd_X10_isThing zl_RX10_187 rfl rfl (Nat.le_of_ble_eq_true rfl) (Nat.le_of_ble_eq_true rfl) (Nat.le_of_ble_eq_true rfl) ⟨Nat.le_refl _, Nat.le_refl _⟩ (fun v3 => ?_)
      refine zr_if_ne (pc := 20) 25 (zq_d eX10_secret 10 rfl) (by decide) (fun _ => ?_) (fun _ => ?_)
      · refine zr_iload_n (pc := 25) (zq_d eX10_secret 13 rfl) 1 rfl rfl ?_
        refine zr_iload_n (pc := 26) (zq_d eX10_secret 14 rfl) 2 rfl rfl ?_
        refine zr_icmp_ne (pc := 27) 33 (zq_d eX10_secret 15 rfl) (by decide) (fun _ => ?_) (fun _ => ?_)
        · refine zr_aload_n (pc := 33) (zq_d eX10_secret 18 rfl) 0 rfl rfl ?_
          refine zr_Vv (pc := 34) [] (zq_d eX10_secret 19 rfl) (s_X10_lookAhead G N z j X ) zd_X10_lookAhead zl_RX10_196 (ox_0 j) rfl rfl rfl rfl (Nat.le_of_ble_eq_true rfl) (Nat.le_of_ble_eq_true rfl) (Nat.le_of_ble_eq_true rfl) ⟨Nat.le_refl _, Nat.le_refl _⟩ (fun X4 => ?_)
          refine zr_aload_n (pc := 37) (zq_d eX10_secret 20 rfl) 0 rfl rfl ?_
          refine zr_getC (pc := 38) (zq_d eX10_secret 21 rfl) zf_RX10_64 (kx_0_11 j) ?_
          refine zr_aload_n (pc := 41) (zq_d eX10_secret 22 rfl) 0 rfl rfl ?_
          refine zr_getC (pc := 42) (zq_d eX10_secret 23 rfl) zf_RX10_12 (kx_0_0 j) ?_
          refine zr_iload_n (pc := 45) (zq_d eX10_secret 24 rfl) 3 rfl rfl ?_
          refine zr_Vi (pc := 46) [_] (zq_d eX10_secret 25 rfl) (s_X5_whoKnows G N z j X4 1 (zsc_1 j) _) zd_X5_whoKnows zl_RX10_209 (ox_1 j) rfl rfl rfl rfl (Nat.le_of_ble_eq_true rfl) (Nat.le_of_ble_eq_true rfl) (Nat.le_of_ble_eq_true rfl) ⟨Nat.le_refl _, Nat.le_refl _⟩ (fun v5 => ?_)
          refine zr_iload_n (pc := 49) (zq_d eX10_secret 26 rfl) 1 rfl rfl ?_
          refine zr_iload_n (pc := 50) (zq_d eX10_secret 27 rfl) 2 rfl rfl ?_
          refine zr_Si (pc := 51) [_, _] (zq_d eX10_secret 28 rfl) (s_X1_setsOfOneWithout G N z j X4 _ _) zd_X1_setsOfOneWithout zl_RX10_219 rfl rfl (Nat.le_of_ble_eq_true rfl) (Nat.le_of_ble_eq_true rfl) (Nat.le_of_ble_eq_true rfl) ⟨Nat.le_refl _, Nat.le_refl _⟩ (fun v6 => ?_)
          refine zr_Wsi (pc := 54) [_, _] (zq_d eX10_secret 29 rfl) (s_X1_fewestTill G N z j X4 _ _) zd_X1_fewestTill zl_RX10_216 (ox_45 j) rfl rfl rfl rfl (Nat.le_of_ble_eq_true rfl) (Nat.le_of_ble_eq_true rfl) (Nat.le_of_ble_eq_true rfl) ⟨Nat.le_refl _, Nat.le_refl _⟩ (fun v7 X8 => ?_)
          exact zr_ireturn (pc := 57) (zq_d eX10_secret 30 rfl) rfl rfl (Nat.zero_le _) (Nat.zero_le _)
        · refine zr_bipush (pc := 30) (zq_d eX10_secret 16 rfl) zc_bm2 ?_
          exact zr_ireturn (pc := 32) (zq_d eX10_secret 17 rfl) rfl rfl (Nat.zero_le _) (Nat.zero_le _)
      · refine zr_iconst (pc := 23) (zq_d eX10_secret 11 rfl) zc_im1 ?_
        exact zr_ireturn (pc := 24) (zq_d eX10_secret 12 rfl) rfl rfl (Nat.zero_le _) (Nat.zero_le _)
def f_X10_game (N j : Nat) (X : zq_M) (a1 : Int32) (a2 : Int32) (a3 : Int32) : Option (Int32 × zq_M) :=
  (f_X10_isRoom N j X a1).bind (fun v1 => if ¬ v1 = 0 then ((f_X5_everybody N j X 1).bind (fun v2 => (f_X10_isFromTo N j X a2 (0 : Int32) v2).bind (fun v3 => if v3 = 0 then (some ((-2 : Int32), X)) else ((f_X10_isFromTo N j X a3 (1 : Int32) (3 : Int32)).bind (fun v4 => if ¬ v4 = 0 then ((f_X10_lookAhead N j X).bind (fun X5 => (f_X8_canWin N j X5 a1 a2 a3).bind (zq_p (fun v6 X7 => if v6 = 0 then (some ((0 : Int32), X7)) else (some ((1 : Int32), X7)))))) else (some ((-2 : Int32), X))))))) else (some ((-1 : Int32), X)))
set_option maxRecDepth 20000 in
set_option maxHeartbeats 8000000 in
theorem s_X10_game (G : zq_G) (N z j : Nat) (X : zq_M) (a1 : Int32) (a2 : Int32) (a3 : Int32) : zq_V G YX10_game (69, 0, 0) (zq_si (zq_shX j) z) 0 0 0 (lv_args 0 [.ref (zq_ad G 0), .int a1, .int a2, .int a3]) [] (zq_shX j) z X (f_X10_game N j X a1 a2 a3) := by
  unfold f_X10_game
  refine zr_lo (l2 := [(0, .ref (zq_ad G 0)), (1, .int a1), (2, .int a2), (3, .int a3)]) [0, 1, 2, 3] rfl ?_
  refine zr_iload_n (pc := 0) (zq_d eX10_game 0 rfl) 1 rfl rfl ?_
  refine zr_Si (pc := 1) [_] (zq_d eX10_game 1 rfl) (s_X10_isRoom G N z j X _) zd_X10_isRoom zl_RX10_132 rfl rfl (Nat.le_of_ble_eq_true rfl) (Nat.le_of_ble_eq_true rfl) (Nat.le_of_ble_eq_true rfl) ⟨Nat.le_refl _, Nat.le_refl _⟩ (fun v1 => ?_)
  refine zr_if_ne (pc := 4) 9 (zq_d eX10_game 2 rfl) (by decide) (fun _ => ?_) (fun _ => ?_)
  · refine zr_iload_n (pc := 9) (zq_d eX10_game 5 rfl) 2 rfl rfl ?_
    refine zr_iconst (pc := 10) (zq_d eX10_game 6 rfl) zc_i0 ?_
    refine zr_aload_n (pc := 11) (zq_d eX10_game 7 rfl) 0 rfl rfl ?_
    refine zr_getC (pc := 12) (zq_d eX10_game 8 rfl) zf_RX10_12 (kx_0_0 j) ?_
    refine zr_Vi (pc := 15) [] (zq_d eX10_game 9 rfl) (s_X5_everybody G N z j X 1 (zsc_1 j)) zd_X5_everybody zl_RX10_212 (ox_1 j) rfl rfl rfl rfl (Nat.le_of_ble_eq_true rfl) (Nat.le_of_ble_eq_true rfl) (Nat.le_of_ble_eq_true rfl) ⟨Nat.le_refl _, Nat.le_refl _⟩ (fun v2 => ?_)
    refine zr_Si (pc := 18) [_, _, _] (zq_d eX10_game 10 rfl) (s_X10_isFromTo G N z j X _ _ _) zd_X10_isFromTo zl_RX10_98 rfl rfl (Nat.le_of_ble_eq_true rfl) (Nat.le_of_ble_eq_true rfl) (Nat.le_of_ble_eq_true rfl) ⟨Nat.le_refl _, Nat.le_refl _⟩ (fun v3 => ?_)
    refine zr_if_eq (pc := 21) 33 (zq_d eX10_game 11 rfl) (by decide) (fun _ => ?_) (fun _ => ?_)
    · refine zr_bipush (pc := 33) (zq_d eX10_game 17 rfl) zc_bm2 ?_
      exact zr_ireturn (pc := 35) (zq_d eX10_game 18 rfl) rfl rfl (Nat.zero_le _) (Nat.zero_le _)
    · refine zr_iload_n (pc := 24) (zq_d eX10_game 12 rfl) 3 rfl rfl ?_
      refine zr_iconst (pc := 25) (zq_d eX10_game 13 rfl) zc_i1 ?_
      refine zr_iconst (pc := 26) (zq_d eX10_game 14 rfl) zc_i3 ?_
      refine zr_Si (pc := 27) [_, _, _] (zq_d eX10_game 15 rfl) (s_X10_isFromTo G N z j X _ _ _) zd_X10_isFromTo zl_RX10_98 rfl rfl (Nat.le_of_ble_eq_true rfl) (Nat.le_of_ble_eq_true rfl) (Nat.le_of_ble_eq_true rfl) ⟨Nat.le_refl _, Nat.le_refl _⟩ (fun v4 => ?_)
      refine zr_if_ne (pc := 30) 36 (zq_d eX10_game 16 rfl) (by decide) (fun _ => ?_) (fun _ => ?_)
      · refine zr_aload_n (pc := 36) (zq_d eX10_game 19 rfl) 0 rfl rfl ?_
        refine zr_Vv (pc := 37) [] (zq_d eX10_game 20 rfl) (s_X10_lookAhead G N z j X ) zd_X10_lookAhead zl_RX10_196 (ox_0 j) rfl rfl rfl rfl (Nat.le_of_ble_eq_true rfl) (Nat.le_of_ble_eq_true rfl) (Nat.le_of_ble_eq_true rfl) ⟨Nat.le_refl _, Nat.le_refl _⟩ (fun X5 => ?_)
        refine zr_aload_n (pc := 40) (zq_d eX10_game 21 rfl) 0 rfl rfl ?_
        refine zr_getC (pc := 41) (zq_d eX10_game 22 rfl) zf_RX10_71 (kx_0_12 j) ?_
        refine zr_iload_n (pc := 44) (zq_d eX10_game 23 rfl) 1 rfl rfl ?_
        refine zr_iload_n (pc := 45) (zq_d eX10_game 24 rfl) 2 rfl rfl ?_
        refine zr_iload_n (pc := 46) (zq_d eX10_game 25 rfl) 3 rfl rfl ?_
        refine zr_Wsi (pc := 47) [_, _, _] (zq_d eX10_game 26 rfl) (s_X8_canWin G N z j X5 _ _ _) zd_X8_canWin zl_RX10_222 (ox_51 j) rfl rfl rfl rfl (Nat.le_of_ble_eq_true rfl) (Nat.le_of_ble_eq_true rfl) (Nat.le_of_ble_eq_true rfl) ⟨Nat.le_refl _, Nat.le_refl _⟩ (fun v6 X7 => ?_)
        refine zr_if_eq (pc := 50) 57 (zq_d eX10_game 27 rfl) (by decide) (fun _ => ?_) (fun _ => ?_)
        · refine zr_iconst (pc := 57) (zq_d eX10_game 30 rfl) zc_i0 ?_
          exact zr_ireturn (pc := 58) (zq_d eX10_game 31 rfl) rfl rfl (Nat.zero_le _) (Nat.zero_le _)
        · refine zr_iconst (pc := 53) (zq_d eX10_game 28 rfl) zc_i1 ?_
          refine zr_goto (pc := 54) 58 (zq_d eX10_game 29 rfl) (by decide) ?_
          exact zr_ireturn (pc := 58) (zq_d eX10_game 31 rfl) rfl rfl (Nat.zero_le _) (Nat.zero_le _)
      · refine zr_bipush (pc := 33) (zq_d eX10_game 17 rfl) zc_bm2 ?_
        exact zr_ireturn (pc := 35) (zq_d eX10_game 18 rfl) rfl rfl (Nat.zero_le _) (Nat.zero_le _)
  · refine zr_iconst (pc := 7) (zq_d eX10_game 3 rfl) zc_im1 ?_
    exact zr_ireturn (pc := 8) (zq_d eX10_game 4 rfl) rfl rfl (Nat.zero_le _) (Nat.zero_le _)
def f_X10_votes (N j : Nat) (X : zq_M) (a1 : Int32) (a2 : Int32) : Option Int32 :=
  (f_X10_isRoom N j X a1).bind (fun v1 => if v1 = 0 then (some (-1 : Int32)) else ((f_X10_isThing N j X a2).bind (fun v2 => if ¬ v2 = 0 then ((f_X5_whoIsAt N j X 1 a1).bind (fun v3 => (f_X5_whoKnows N j X 1 a2).bind (fun v4 => (f_J6_bitCount_0f7a4 N (zq_shX j) X (v3 &&& v4)).bind (fun v5 => (f_J6_bitCount_0f7a4 N (zq_shX j) X v3).bind (fun v6 => if (v5 * (2 : Int32)) ≤ v6 then (some (0 : Int32)) else (some (1 : Int32))))))) else (some (-1 : Int32)))))
set_option maxRecDepth 20000 in
set_option maxHeartbeats 8000000 in
theorem s_X10_votes (G : zq_G) (N z j : Nat) (X : zq_M) (a1 : Int32) (a2 : Int32) : zq_V G YX10_votes (3, 0, 0) (zq_ei (zq_shX j) z X) 0 0 0 (lv_args 0 [.ref (zq_ad G 0), .int a1, .int a2]) [] (zq_shX j) z X (f_X10_votes N j X a1 a2) := by
  unfold f_X10_votes
  refine zr_lo (l2 := [(0, .ref (zq_ad G 0)), (1, .int a1), (2, .int a2)]) [0, 1, 2] rfl ?_
  refine zr_iload_n (pc := 0) (zq_d eX10_votes 0 rfl) 1 rfl rfl ?_
  refine zr_Si (pc := 1) [_] (zq_d eX10_votes 1 rfl) (s_X10_isRoom G N z j X _) zd_X10_isRoom zl_RX10_132 rfl rfl (Nat.le_of_ble_eq_true rfl) (Nat.le_of_ble_eq_true rfl) (Nat.le_of_ble_eq_true rfl) ⟨Nat.le_refl _, Nat.le_refl _⟩ (fun v1 => ?_)
  refine zr_if_eq (pc := 4) 14 (zq_d eX10_votes 2 rfl) (by decide) (fun _ => ?_) (fun _ => ?_)
  · refine zr_iconst (pc := 14) (zq_d eX10_votes 6 rfl) zc_im1 ?_
    exact zr_ireturn (pc := 15) (zq_d eX10_votes 7 rfl) rfl rfl (Nat.zero_le _) (Nat.zero_le _)
  · refine zr_iload_n (pc := 7) (zq_d eX10_votes 3 rfl) 2 rfl rfl ?_
    refine zr_Si (pc := 8) [_] (zq_d eX10_votes 4 rfl) (s_X10_isThing G N z j X _) zd_X10_isThing zl_RX10_187 rfl rfl (Nat.le_of_ble_eq_true rfl) (Nat.le_of_ble_eq_true rfl) (Nat.le_of_ble_eq_true rfl) ⟨Nat.le_refl _, Nat.le_refl _⟩ (fun v2 => ?_)
    refine zr_if_ne (pc := 11) 16 (zq_d eX10_votes 5 rfl) (by decide) (fun _ => ?_) (fun _ => ?_)
    · refine zr_aload_n (pc := 16) (zq_d eX10_votes 8 rfl) 0 rfl rfl ?_
      refine zr_getC (pc := 17) (zq_d eX10_votes 9 rfl) zf_RX10_12 (kx_0_0 j) ?_
      refine zr_iload_n (pc := 20) (zq_d eX10_votes 10 rfl) 1 rfl rfl ?_
      refine zr_Vi (pc := 21) [_] (zq_d eX10_votes 11 rfl) (s_X5_whoIsAt G N z j X 1 (zsc_1 j) _) zd_X5_whoIsAt zl_RX10_141 (ox_1 j) rfl rfl rfl rfl (Nat.le_of_ble_eq_true rfl) (Nat.le_of_ble_eq_true rfl) (Nat.le_of_ble_eq_true rfl) ⟨Nat.le_refl _, Nat.le_refl _⟩ (fun v3 => ?_)
      refine zr_istore_n (pc := 24) (lo2 := [(3, .int v3), (0, .ref (zq_ad G 0)), (1, .int a1), (2, .int a2)]) (zq_d eX10_votes 12 rfl) rfl (Nat.le_of_ble_eq_true rfl) rfl ?_
      refine zr_iload_n (pc := 25) (zq_d eX10_votes 13 rfl) 0 rfl rfl ?_
      refine zr_aload_n (pc := 26) (zq_d eX10_votes 14 rfl) 1 rfl rfl ?_
      refine zr_getC (pc := 27) (zq_d eX10_votes 15 rfl) zf_RX10_12 (kx_0_0 j) ?_
      refine zr_iload_n (pc := 30) (zq_d eX10_votes 16 rfl) 3 rfl rfl ?_
      refine zr_Vi (pc := 31) [_] (zq_d eX10_votes 17 rfl) (s_X5_whoKnows G N z j X 1 (zsc_1 j) _) zd_X5_whoKnows zl_RX10_209 (ox_1 j) rfl rfl rfl rfl (Nat.le_of_ble_eq_true rfl) (Nat.le_of_ble_eq_true rfl) (Nat.le_of_ble_eq_true rfl) ⟨Nat.le_refl _, Nat.le_refl _⟩ (fun v4 => ?_)
      refine zr_iand (pc := 34) (zq_d eX10_votes 18 rfl) ?_
      refine zr_Si (pc := 35) [_] (zq_d eX10_votes 19 rfl) (s_J6_bitCount_0f7a4 G N z (zq_shX j) X _) zd_J6_bitCount_0f7a4 zl_RX10_225 rfl rfl (Nat.le_of_ble_eq_true rfl) (Nat.le_of_ble_eq_true rfl) (Nat.le_of_ble_eq_true rfl) ⟨Nat.le_refl _, Nat.le_refl _⟩ (fun v5 => ?_)
      refine zr_istore (pc := 38) (lo2 := [(4, .int v5), (3, .int v3), (0, .ref (zq_ad G 0)), (1, .int a1), (2, .int a2)]) (zq_d eX10_votes 20 rfl) (Nat.le_of_ble_eq_true rfl) rfl ?_
      refine zr_iload (pc := 40) (zq_d eX10_votes 21 rfl) 0 rfl ?_
      refine zr_iconst (pc := 42) (zq_d eX10_votes 22 rfl) zc_i2 ?_
      refine zr_imul (pc := 43) (zq_d eX10_votes 23 rfl) ?_
      refine zr_iload_n (pc := 44) (zq_d eX10_votes 24 rfl) 1 rfl rfl ?_
      refine zr_Si (pc := 45) [_] (zq_d eX10_votes 25 rfl) (s_J6_bitCount_0f7a4 G N z (zq_shX j) X _) zd_J6_bitCount_0f7a4 zl_RX10_225 rfl rfl (Nat.le_of_ble_eq_true rfl) (Nat.le_of_ble_eq_true rfl) (Nat.le_of_ble_eq_true rfl) ⟨Nat.le_refl _, Nat.le_refl _⟩ (fun v6 => ?_)
      refine zr_icmp_le (pc := 48) 55 (zq_d eX10_votes 26 rfl) (by decide) (fun _ => ?_) (fun _ => ?_)
      · refine zr_iconst (pc := 55) (zq_d eX10_votes 29 rfl) zc_i0 ?_
        exact zr_ireturn (pc := 56) (zq_d eX10_votes 30 rfl) rfl rfl (Nat.zero_le _) (Nat.zero_le _)
      · refine zr_iconst (pc := 51) (zq_d eX10_votes 27 rfl) zc_i1 ?_
        refine zr_goto (pc := 52) 56 (zq_d eX10_votes 28 rfl) (by decide) ?_
        exact zr_ireturn (pc := 56) (zq_d eX10_votes 30 rfl) rfl rfl (Nat.zero_le _) (Nat.zero_le _)
    · refine zr_iconst (pc := 14) (zq_d eX10_votes 6 rfl) zc_im1 ?_
      exact zr_ireturn (pc := 15) (zq_d eX10_votes 7 rfl) rfl rfl (Nat.zero_le _) (Nat.zero_le _)
def f_X10_spoken (N j : Nat) (X : zq_M) (a1 : Int32) (a2 : Int32) : Option (Int32 × zq_M) :=
  if ¬ a1 = (-1 : Int32) then ((f_X5_everybody N j X 1).bind (fun v1 => (f_X10_isFromTo N j X a1 (1 : Int32) v1).bind (fun v2 => if v2 = 0 then (some ((-2 : Int32), X)) else ((f_J6_bitCount_0f7a4 N (zq_shX j) X a1).bind (fun v3 => if ¬ (zq_irem v3 (2 : Int32)) = 0 then ((f_X10_isPerson N j X a2).bind (fun v4 => if v4 = 0 then (some ((-1 : Int32), X)) else (if ¬ ((zq_shr a1 a2) &&& (1 : Int32)) = 0 then (if (X.1 1 11) < (12 : Int32) then (zq_ck (X.1 1 11) 12 (zq_b (zq_u1 X 8 (zq_ix (X.1 1 11)) a1) (fun X5 => zq_ck (X5.1 1 11) 12 (zq_b (zq_u1 X5 9 (zq_ix (X5.1 1 11)) a2) (fun X6 => zq_b (zq_u1 X6 1 11 ((X6.1 1 11) + (1 : Int32))) (fun X7 => some ((X7.1 1 11), X7))))))) else (some ((-4 : Int32), X))) else (some ((-1 : Int32), X))))) else (some ((-2 : Int32), X))))))) else (zq_b (zq_u1 X 1 11 (0 : Int32)) (fun X8 => some ((0 : Int32), X8)))
set_option maxRecDepth 20000 in
set_option maxHeartbeats 8000000 in
theorem s_X10_spoken (G : zq_G) (N z j : Nat) (X : zq_M) (a1 : Int32) (a2 : Int32) : zq_V G YX10_spoken (3, 0, 0) (zq_si (zq_shX j) z) 0 0 0 (lv_args 0 [.ref (zq_ad G 0), .int a1, .int a2]) [] (zq_shX j) z X (f_X10_spoken N j X a1 a2) := by
  unfold f_X10_spoken
  refine zr_lo (l2 := [(0, .ref (zq_ad G 0)), (1, .int a1), (2, .int a2)]) [0, 1, 2] rfl ?_
  refine zr_iload_n (pc := 0) (zq_d eX10_spoken 0 rfl) 1 rfl rfl ?_
  refine zr_iconst (pc := 1) (zq_d eX10_spoken 1 rfl) zc_im1 ?_
  refine zr_icmp_ne (pc := 2) 15 (zq_d eX10_spoken 2 rfl) (by decide) (fun _ => ?_) (fun _ => ?_)
  · refine zr_iload_n (pc := 15) (zq_d eX10_spoken 9 rfl) 1 rfl rfl ?_
    refine zr_iconst (pc := 16) (zq_d eX10_spoken 10 rfl) zc_i1 ?_
    refine zr_aload_n (pc := 17) (zq_d eX10_spoken 11 rfl) 0 rfl rfl ?_
    refine zr_getC (pc := 18) (zq_d eX10_spoken 12 rfl) zf_RX10_12 (kx_0_0 j) ?_
    refine zr_Vi (pc := 21) [] (zq_d eX10_spoken 13 rfl) (s_X5_everybody G N z j X 1 (zsc_1 j)) zd_X5_everybody zl_RX10_212 (ox_1 j) rfl rfl rfl rfl (Nat.le_of_ble_eq_true rfl) (Nat.le_of_ble_eq_true rfl) (Nat.le_of_ble_eq_true rfl) ⟨Nat.le_refl _, Nat.le_refl _⟩ (fun v1 => ?_)
    refine zr_Si (pc := 24) [_, _, _] (zq_d eX10_spoken 14 rfl) (s_X10_isFromTo G N z j X _ _ _) zd_X10_isFromTo zl_RX10_98 rfl rfl (Nat.le_of_ble_eq_true rfl) (Nat.le_of_ble_eq_true rfl) (Nat.le_of_ble_eq_true rfl) ⟨Nat.le_refl _, Nat.le_refl _⟩ (fun v2 => ?_)
    refine zr_if_eq (pc := 27) 39 (zq_d eX10_spoken 15 rfl) (by decide) (fun _ => ?_) (fun _ => ?_)
    · refine zr_bipush (pc := 39) (zq_d eX10_spoken 21 rfl) zc_bm2 ?_
      exact zr_ireturn (pc := 41) (zq_d eX10_spoken 22 rfl) rfl rfl (Nat.zero_le _) (Nat.zero_le _)
    · refine zr_iload_n (pc := 30) (zq_d eX10_spoken 16 rfl) 1 rfl rfl ?_
      refine zr_Si (pc := 31) [_] (zq_d eX10_spoken 17 rfl) (s_J6_bitCount_0f7a4 G N z (zq_shX j) X _) zd_J6_bitCount_0f7a4 zl_RX10_225 rfl rfl (Nat.le_of_ble_eq_true rfl) (Nat.le_of_ble_eq_true rfl) (Nat.le_of_ble_eq_true rfl) ⟨Nat.le_refl _, Nat.le_refl _⟩ (fun v3 => ?_)
      refine zr_iconst (pc := 34) (zq_d eX10_spoken 18 rfl) zc_i2 ?_
      refine zr_iremk (pc := 35) (zq_d eX10_spoken 19 rfl) (by decide) ?_
      refine zr_if_ne (pc := 36) 42 (zq_d eX10_spoken 20 rfl) (by decide) (fun _ => ?_) (fun _ => ?_)
      · refine zr_aload_n (pc := 42) (zq_d eX10_spoken 23 rfl) 0 rfl rfl ?_
        refine zr_iload_n (pc := 43) (zq_d eX10_spoken 24 rfl) 2 rfl rfl ?_
        refine zr_Vi (pc := 44) [_] (zq_d eX10_spoken 25 rfl) (s_X10_isPerson G N z j X _) zd_X10_isPerson zl_RX10_114 (ox_0 j) rfl rfl rfl rfl (Nat.le_of_ble_eq_true rfl) (Nat.le_of_ble_eq_true rfl) (Nat.le_of_ble_eq_true rfl) ⟨Nat.le_refl _, Nat.le_refl _⟩ (fun v4 => ?_)
        refine zr_if_eq (pc := 47) 58 (zq_d eX10_spoken 26 rfl) (by decide) (fun _ => ?_) (fun _ => ?_)
        · refine zr_iconst (pc := 58) (zq_d eX10_spoken 33 rfl) zc_im1 ?_
          exact zr_ireturn (pc := 59) (zq_d eX10_spoken 34 rfl) rfl rfl (Nat.zero_le _) (Nat.zero_le _)
        · refine zr_iload_n (pc := 50) (zq_d eX10_spoken 27 rfl) 1 rfl rfl ?_
          refine zr_iload_n (pc := 51) (zq_d eX10_spoken 28 rfl) 2 rfl rfl ?_
          refine zr_ishr (pc := 52) (zq_d eX10_spoken 29 rfl) ?_
          refine zr_iconst (pc := 53) (zq_d eX10_spoken 30 rfl) zc_i1 ?_
          refine zr_iand (pc := 54) (zq_d eX10_spoken 31 rfl) ?_
          refine zr_if_ne (pc := 55) 60 (zq_d eX10_spoken 32 rfl) (by decide) (fun _ => ?_) (fun _ => ?_)
          · refine zr_aload_n (pc := 60) (zq_d eX10_spoken 35 rfl) 0 rfl rfl ?_
            refine zr_getC (pc := 61) (zq_d eX10_spoken 36 rfl) zf_RX10_12 (kx_0_0 j) ?_
            refine zr_getI (pc := 64) (zq_d eX10_spoken 37 rfl) zf_RX10_230 (kx_1_11 j) ?_
            refine zr_bipush (pc := 67) (zq_d eX10_spoken 38 rfl) zc_b12 ?_
            refine zr_icmp_lt (pc := 69) 75 (zq_d eX10_spoken 39 rfl) (by decide) (fun _ => ?_) (fun _ => ?_)
            · refine zr_aload_n (pc := 75) (zq_d eX10_spoken 42 rfl) 0 rfl rfl ?_
              refine zr_getC (pc := 76) (zq_d eX10_spoken 43 rfl) zf_RX10_12 (kx_0_0 j) ?_
              refine zr_getC (pc := 79) (zq_d eX10_spoken 44 rfl) zf_RX10_233 (kx_1_9 j) ?_
              refine zr_aload_n (pc := 82) (zq_d eX10_spoken 45 rfl) 0 rfl rfl ?_
              refine zr_getC (pc := 83) (zq_d eX10_spoken 46 rfl) zf_RX10_12 (kx_0_0 j) ?_
              refine zr_getI (pc := 86) (zq_d eX10_spoken 47 rfl) zf_RX10_230 (kx_1_11 j) ?_
              refine zr_iload_n (pc := 89) (zq_d eX10_spoken 48 rfl) 1 rfl rfl ?_
              refine zr_iast (pc := 90) (zq_d eX10_spoken 49 rfl) (ax_8 j) (fun X5 => ?_)
              refine zr_aload_n (pc := 91) (zq_d eX10_spoken 50 rfl) 0 rfl rfl ?_
              refine zr_getC (pc := 92) (zq_d eX10_spoken 51 rfl) zf_RX10_12 (kx_0_0 j) ?_
              refine zr_getC (pc := 95) (zq_d eX10_spoken 52 rfl) zf_RX10_236 (kx_1_10 j) ?_
              refine zr_aload_n (pc := 98) (zq_d eX10_spoken 53 rfl) 0 rfl rfl ?_
              refine zr_getC (pc := 99) (zq_d eX10_spoken 54 rfl) zf_RX10_12 (kx_0_0 j) ?_
              refine zr_getI (pc := 102) (zq_d eX10_spoken 55 rfl) zf_RX10_230 (kx_1_11 j) ?_
              refine zr_iload_n (pc := 105) (zq_d eX10_spoken 56 rfl) 2 rfl rfl ?_
              refine zr_iast (pc := 106) (zq_d eX10_spoken 57 rfl) (ax_9 j) (fun X6 => ?_)
              refine zr_aload_n (pc := 107) (zq_d eX10_spoken 58 rfl) 0 rfl rfl ?_
              refine zr_getC (pc := 108) (zq_d eX10_spoken 59 rfl) zf_RX10_12 (kx_0_0 j) ?_
              refine zr_dup (pc := 111) (zq_d eX10_spoken 60 rfl) rfl ?_
              refine zr_getI (pc := 112) (zq_d eX10_spoken 61 rfl) zf_RX10_230 (kx_1_11 j) ?_
              refine zr_iconst (pc := 115) (zq_d eX10_spoken 62 rfl) zc_i1 ?_
              refine zr_iadd (pc := 116) (zq_d eX10_spoken 63 rfl) ?_
              refine zr_putI (pc := 117) (zq_d eX10_spoken 64 rfl) zf_RX10_230 (kx_1_11 j) zn_5_11 (fun X7 => ?_)
              refine zr_aload_n (pc := 120) (zq_d eX10_spoken 65 rfl) 0 rfl rfl ?_
              refine zr_getC (pc := 121) (zq_d eX10_spoken 66 rfl) zf_RX10_12 (kx_0_0 j) ?_
              refine zr_getI (pc := 124) (zq_d eX10_spoken 67 rfl) zf_RX10_230 (kx_1_11 j) ?_
              exact zr_ireturn (pc := 127) (zq_d eX10_spoken 68 rfl) rfl rfl (Nat.zero_le _) (Nat.zero_le _)
            · refine zr_bipush (pc := 72) (zq_d eX10_spoken 40 rfl) zc_bm4 ?_
              exact zr_ireturn (pc := 74) (zq_d eX10_spoken 41 rfl) rfl rfl (Nat.zero_le _) (Nat.zero_le _)
          · refine zr_iconst (pc := 58) (zq_d eX10_spoken 33 rfl) zc_im1 ?_
            exact zr_ireturn (pc := 59) (zq_d eX10_spoken 34 rfl) rfl rfl (Nat.zero_le _) (Nat.zero_le _)
      · refine zr_bipush (pc := 39) (zq_d eX10_spoken 21 rfl) zc_bm2 ?_
        exact zr_ireturn (pc := 41) (zq_d eX10_spoken 22 rfl) rfl rfl (Nat.zero_le _) (Nat.zero_le _)
  · refine zr_aload_n (pc := 5) (zq_d eX10_spoken 3 rfl) 0 rfl rfl ?_
    refine zr_getC (pc := 6) (zq_d eX10_spoken 4 rfl) zf_RX10_12 (kx_0_0 j) ?_
    refine zr_iconst (pc := 9) (zq_d eX10_spoken 5 rfl) zc_i0 ?_
    refine zr_putI (pc := 10) (zq_d eX10_spoken 6 rfl) zf_RX10_230 (kx_1_11 j) zn_5_11 (fun X8 => ?_)
    refine zr_iconst (pc := 13) (zq_d eX10_spoken 7 rfl) zc_i0 ?_
    exact zr_ireturn (pc := 14) (zq_d eX10_spoken 8 rfl) rfl rfl (Nat.zero_le _) (Nat.zero_le _)
def f_X10_fits (N j : Nat) (X : zq_M)  : Option (Int32 × zq_M) :=
  if ¬ (X.1 1 0) = 0 then ((f_X4_fitting N j X).bind (zq_p (fun v1 X2 => some (v1, X2)))) else (some ((-5 : Int32), X))
set_option maxRecDepth 20000 in
set_option maxHeartbeats 8000000 in
theorem s_X10_fits (G : zq_G) (N z j : Nat) (X : zq_M)  : zq_V G YX10_fits (69, 0, 0) (zq_si (zq_shX j) z) 0 0 0 (lv_args 0 [.ref (zq_ad G 0)]) [] (zq_shX j) z X (f_X10_fits N j X ) := by
  unfold f_X10_fits
  refine zr_lo (l2 := [(0, .ref (zq_ad G 0))]) [0] rfl ?_
  refine zr_aload_n (pc := 0) (zq_d eX10_fits 0 rfl) 0 rfl rfl ?_
  refine zr_getC (pc := 1) (zq_d eX10_fits 1 rfl) zf_RX10_12 (kx_0_0 j) ?_
  refine zr_getI (pc := 4) (zq_d eX10_fits 2 rfl) zf_RX10_106 (kx_1_0 j) ?_
  refine zr_if_ne (pc := 7) 15 (zq_d eX10_fits 3 rfl) (by decide) (fun _ => ?_) (fun _ => ?_)
  · refine zr_aload_n (pc := 15) (zq_d eX10_fits 6 rfl) 0 rfl rfl ?_
    refine zr_getC (pc := 16) (zq_d eX10_fits 7 rfl) zf_RX10_80 (kx_0_13 j) ?_
    refine zr_Wsi (pc := 19) [] (zq_d eX10_fits 8 rfl) (s_X4_fitting G N z j X ) zd_X4_fitting zl_RX10_239 (ox_52 j) rfl rfl rfl rfl (Nat.le_of_ble_eq_true rfl) (Nat.le_of_ble_eq_true rfl) (Nat.le_of_ble_eq_true rfl) ⟨Nat.le_refl _, Nat.le_refl _⟩ (fun v1 X2 => ?_)
    exact zr_ireturn (pc := 22) (zq_d eX10_fits 9 rfl) rfl rfl (Nat.zero_le _) (Nat.zero_le _)
  · refine zr_bipush (pc := 10) (zq_d eX10_fits 4 rfl) zc_bm5 ?_
    refine zr_goto (pc := 12) 22 (zq_d eX10_fits 5 rfl) (by decide) ?_
    exact zr_ireturn (pc := 22) (zq_d eX10_fits 9 rfl) rfl rfl (Nat.zero_le _) (Nat.zero_le _)
def j_X10_lot_49 (N : Nat) (j : Nat) (a1 : Int32) (a2 : Int32) (X4 : zq_M) (v5 : Int32) : Option (Int64 × zq_M) :=
  (f_X8_oddsOfSpeaking N j X4 a1 a2 v5).bind (zq_p (fun w6 X7 => some (w6, X7)))
def f_X10_lot (N j : Nat) (X : zq_M) (a1 : Int32) (a2 : Int32) (a3 : Int32) : Option (Int64 × zq_M) :=
  (f_X10_isPerson N j X a1).bind (fun v1 => if v1 = 0 then (some ((-9223372036854775808 : Int64), X)) else ((f_X10_isFromTo N j X a2 (0 : Int32) (2 : Int32)).bind (fun v2 => if v2 = 0 then (some ((-9223372036854775808 : Int64), X)) else ((f_X10_isFromTo N j X a3 (0 : Int32) (1 : Int32)).bind (fun v3 => if ¬ v3 = 0 then ((f_X10_lookAhead N j X).bind (fun X4 => if ¬ a3 = 0 then (j_X10_lot_49 N j a1 a2 X4 (0 : Int32)) else (j_X10_lot_49 N j a1 a2 X4 (1 : Int32)))) else (some ((-9223372036854775808 : Int64), X)))))))
set_option maxRecDepth 20000 in
set_option maxHeartbeats 8000000 in
theorem s_X10_lot (G : zq_G) (N z j : Nat) (X : zq_M) (a1 : Int32) (a2 : Int32) (a3 : Int32) : zq_V G YX10_lot (70, 0, 0) (zq_sl (zq_shX j) z) 0 0 0 (lv_args 0 [.ref (zq_ad G 0), .int a1, .int a2, .int a3]) [] (zq_shX j) z X (f_X10_lot N j X a1 a2 a3) := by
  unfold f_X10_lot
  refine zr_lo (l2 := [(0, .ref (zq_ad G 0)), (1, .int a1), (2, .int a2), (3, .int a3)]) [0, 1, 2, 3] rfl ?_
  refine zr_aload_n (pc := 0) (zq_d eX10_lot 0 rfl) 0 rfl rfl ?_
  refine zr_iload_n (pc := 1) (zq_d eX10_lot 1 rfl) 1 rfl rfl ?_
  refine zr_Vi (pc := 2) [_] (zq_d eX10_lot 2 rfl) (s_X10_isPerson G N z j X _) zd_X10_isPerson zl_RX10_114 (ox_0 j) rfl rfl rfl rfl (Nat.le_of_ble_eq_true rfl) (Nat.le_of_ble_eq_true rfl) (Nat.le_of_ble_eq_true rfl) ⟨Nat.le_refl _, Nat.le_refl _⟩ (fun v1 => ?_)
  refine zr_if_eq (pc := 5) 26 (zq_d eX10_lot 3 rfl) (by decide) (fun _ => ?_) (fun _ => ?_)
  · refine zr_ldc2 (pc := 26) (zq_d eX10_lot 14 rfl) zk_RX10_242 ?_
    exact zr_lreturn (pc := 29) (zq_d eX10_lot 15 rfl) rfl rfl (Nat.zero_le _) (Nat.zero_le _)
  · refine zr_iload_n (pc := 8) (zq_d eX10_lot 4 rfl) 2 rfl rfl ?_
    refine zr_iconst (pc := 9) (zq_d eX10_lot 5 rfl) zc_i0 ?_
    refine zr_iconst (pc := 10) (zq_d eX10_lot 6 rfl) zc_i2 ?_
    refine zr_Si (pc := 11) [_, _, _] (zq_d eX10_lot 7 rfl) (s_X10_isFromTo G N z j X _ _ _) zd_X10_isFromTo zl_RX10_98 rfl rfl (Nat.le_of_ble_eq_true rfl) (Nat.le_of_ble_eq_true rfl) (Nat.le_of_ble_eq_true rfl) ⟨Nat.le_refl _, Nat.le_refl _⟩ (fun v2 => ?_)
    refine zr_if_eq (pc := 14) 26 (zq_d eX10_lot 8 rfl) (by decide) (fun _ => ?_) (fun _ => ?_)
    · refine zr_ldc2 (pc := 26) (zq_d eX10_lot 14 rfl) zk_RX10_242 ?_
      exact zr_lreturn (pc := 29) (zq_d eX10_lot 15 rfl) rfl rfl (Nat.zero_le _) (Nat.zero_le _)
    · refine zr_iload_n (pc := 17) (zq_d eX10_lot 9 rfl) 3 rfl rfl ?_
      refine zr_iconst (pc := 18) (zq_d eX10_lot 10 rfl) zc_i0 ?_
      refine zr_iconst (pc := 19) (zq_d eX10_lot 11 rfl) zc_i1 ?_
      refine zr_Si (pc := 20) [_, _, _] (zq_d eX10_lot 12 rfl) (s_X10_isFromTo G N z j X _ _ _) zd_X10_isFromTo zl_RX10_98 rfl rfl (Nat.le_of_ble_eq_true rfl) (Nat.le_of_ble_eq_true rfl) (Nat.le_of_ble_eq_true rfl) ⟨Nat.le_refl _, Nat.le_refl _⟩ (fun v3 => ?_)
      refine zr_if_ne (pc := 23) 30 (zq_d eX10_lot 13 rfl) (by decide) (fun _ => ?_) (fun _ => ?_)
      · refine zr_aload_n (pc := 30) (zq_d eX10_lot 16 rfl) 0 rfl rfl ?_
        refine zr_Vv (pc := 31) [] (zq_d eX10_lot 17 rfl) (s_X10_lookAhead G N z j X ) zd_X10_lookAhead zl_RX10_196 (ox_0 j) rfl rfl rfl rfl (Nat.le_of_ble_eq_true rfl) (Nat.le_of_ble_eq_true rfl) (Nat.le_of_ble_eq_true rfl) ⟨Nat.le_refl _, Nat.le_refl _⟩ (fun X4 => ?_)
        refine zr_aload_n (pc := 34) (zq_d eX10_lot 18 rfl) 0 rfl rfl ?_
        refine zr_getC (pc := 35) (zq_d eX10_lot 19 rfl) zf_RX10_71 (kx_0_12 j) ?_
        refine zr_iload_n (pc := 38) (zq_d eX10_lot 20 rfl) 1 rfl rfl ?_
        refine zr_iload_n (pc := 39) (zq_d eX10_lot 21 rfl) 2 rfl rfl ?_
        refine zr_iload_n (pc := 40) (zq_d eX10_lot 22 rfl) 3 rfl rfl ?_
        have hj49_1 : ∀ (v5 : Int32), zq_V G YX10_lot (70, 0, 0) (zq_sl (zq_shX j) z) 0 0 49 [] [.int v5, .int a2, .int a1, .ref (zq_ad G 51)] (zq_shX j) z X4 (j_X10_lot_49 N j a1 a2 X4 v5) := by
          intro v5
          unfold j_X10_lot_49
          refine zr_Wsl (pc := 49) [_, _, _] (zq_d eX10_lot 27 rfl) (s_X8_oddsOfSpeaking G N z j X4 _ _ _) zd_X8_oddsOfSpeaking zl_RX10_244 (ox_51 j) rfl rfl rfl rfl (Nat.le_of_ble_eq_true rfl) (Nat.le_of_ble_eq_true rfl) (Nat.le_of_ble_eq_true rfl) ⟨Nat.le_refl _, Nat.le_refl _⟩ (fun w6 X7 => ?_)
          exact zr_lreturn (pc := 52) (zq_d eX10_lot 28 rfl) rfl rfl (Nat.zero_le _) (Nat.zero_le _)
        refine zr_if_ne (pc := 41) 48 (zq_d eX10_lot 23 rfl) (by decide) (fun _ => ?_) (fun _ => ?_)
        · refine zr_iconst (pc := 48) (zq_d eX10_lot 26 rfl) zc_i0 ?_
          exact zr_lo [] rfl (hj49_1 (0 : Int32))
        · refine zr_iconst (pc := 44) (zq_d eX10_lot 24 rfl) zc_i1 ?_
          refine zr_goto (pc := 45) 49 (zq_d eX10_lot 25 rfl) (by decide) ?_
          exact zr_lo [] rfl (hj49_1 (1 : Int32))
      · refine zr_ldc2 (pc := 26) (zq_d eX10_lot 14 rfl) zk_RX10_242 ?_
        exact zr_lreturn (pc := 29) (zq_d eX10_lot 15 rfl) rfl rfl (Nat.zero_le _) (Nat.zero_le _)
def f_X10_book (N j : Nat) (X : zq_M) (a1 : Int32) : Option (Int32 × zq_M) :=
  if ¬ a1 = (-1 : Int32) then (if a1 < 0 then (some ((-1 : Int32), X)) else (if (5 : Int32) ≤ (a1 / (10 : Int32)) then (some ((-1 : Int32), X)) else ((f_X10_isThing N j X (zq_irem a1 (10 : Int32))).bind (fun v1 => if ¬ v1 = 0 then (if (X.1 1 13) < (12 : Int32) then (zq_ck (X.1 1 13) 12 (zq_b (zq_u1 X 10 (zq_ix (X.1 1 13)) a1) (fun X2 => zq_b (zq_u1 X2 1 13 ((X2.1 1 13) + (1 : Int32))) (fun X3 => some ((X3.1 1 13), X3))))) else (some ((-4 : Int32), X))) else (some ((-1 : Int32), X)))))) else (zq_b (zq_u1 X 1 13 (0 : Int32)) (fun X4 => some ((0 : Int32), X4)))
set_option maxRecDepth 20000 in
set_option maxHeartbeats 8000000 in
theorem s_X10_book (G : zq_G) (N z j : Nat) (X : zq_M) (a1 : Int32) : zq_V G YX10_book (3, 0, 0) (zq_si (zq_shX j) z) 0 0 0 (lv_args 0 [.ref (zq_ad G 0), .int a1]) [] (zq_shX j) z X (f_X10_book N j X a1) := by
  unfold f_X10_book
  refine zr_lo (l2 := [(0, .ref (zq_ad G 0)), (1, .int a1)]) [0, 1] rfl ?_
  refine zr_iload_n (pc := 0) (zq_d eX10_book 0 rfl) 1 rfl rfl ?_
  refine zr_iconst (pc := 1) (zq_d eX10_book 1 rfl) zc_im1 ?_
  refine zr_icmp_ne (pc := 2) 15 (zq_d eX10_book 2 rfl) (by decide) (fun _ => ?_) (fun _ => ?_)
  · refine zr_iload_n (pc := 15) (zq_d eX10_book 9 rfl) 1 rfl rfl ?_
    refine zr_if_lt (pc := 16) 37 (zq_d eX10_book 10 rfl) (by decide) (fun _ => ?_) (fun _ => ?_)
    · refine zr_iconst (pc := 37) (zq_d eX10_book 21 rfl) zc_im1 ?_
      exact zr_ireturn (pc := 38) (zq_d eX10_book 22 rfl) rfl rfl (Nat.zero_le _) (Nat.zero_le _)
    · refine zr_iload_n (pc := 19) (zq_d eX10_book 11 rfl) 1 rfl rfl ?_
      refine zr_bipush (pc := 20) (zq_d eX10_book 12 rfl) zc_b10 ?_
      refine zr_idivk (pc := 22) (zq_d eX10_book 13 rfl) (by decide) ?_
      refine zr_iconst (pc := 23) (zq_d eX10_book 14 rfl) zc_i5 ?_
      refine zr_icmp_ge (pc := 24) 37 (zq_d eX10_book 15 rfl) (by decide) (fun _ => ?_) (fun _ => ?_)
      · refine zr_iconst (pc := 37) (zq_d eX10_book 21 rfl) zc_im1 ?_
        exact zr_ireturn (pc := 38) (zq_d eX10_book 22 rfl) rfl rfl (Nat.zero_le _) (Nat.zero_le _)
      · refine zr_iload_n (pc := 27) (zq_d eX10_book 16 rfl) 1 rfl rfl ?_
        refine zr_bipush (pc := 28) (zq_d eX10_book 17 rfl) zc_b10 ?_
        refine zr_iremk (pc := 30) (zq_d eX10_book 18 rfl) (by decide) ?_
        refine zr_Si (pc := 31) [_] (zq_d eX10_book 19 rfl) (s_X10_isThing G N z j X _) zd_X10_isThing zl_RX10_187 rfl rfl (Nat.le_of_ble_eq_true rfl) (Nat.le_of_ble_eq_true rfl) (Nat.le_of_ble_eq_true rfl) ⟨Nat.le_refl _, Nat.le_refl _⟩ (fun v1 => ?_)
        refine zr_if_ne (pc := 34) 39 (zq_d eX10_book 20 rfl) (by decide) (fun _ => ?_) (fun _ => ?_)
        · refine zr_aload_n (pc := 39) (zq_d eX10_book 23 rfl) 0 rfl rfl ?_
          refine zr_getC (pc := 40) (zq_d eX10_book 24 rfl) zf_RX10_12 (kx_0_0 j) ?_
          refine zr_getI (pc := 43) (zq_d eX10_book 25 rfl) zf_RX10_248 (kx_1_13 j) ?_
          refine zr_bipush (pc := 46) (zq_d eX10_book 26 rfl) zc_b12 ?_
          refine zr_icmp_lt (pc := 48) 54 (zq_d eX10_book 27 rfl) (by decide) (fun _ => ?_) (fun _ => ?_)
          · refine zr_aload_n (pc := 54) (zq_d eX10_book 30 rfl) 0 rfl rfl ?_
            refine zr_getC (pc := 55) (zq_d eX10_book 31 rfl) zf_RX10_12 (kx_0_0 j) ?_
            refine zr_getC (pc := 58) (zq_d eX10_book 32 rfl) zf_RX10_251 (kx_1_12 j) ?_
            refine zr_aload_n (pc := 61) (zq_d eX10_book 33 rfl) 0 rfl rfl ?_
            refine zr_getC (pc := 62) (zq_d eX10_book 34 rfl) zf_RX10_12 (kx_0_0 j) ?_
            refine zr_getI (pc := 65) (zq_d eX10_book 35 rfl) zf_RX10_248 (kx_1_13 j) ?_
            refine zr_iload_n (pc := 68) (zq_d eX10_book 36 rfl) 1 rfl rfl ?_
            refine zr_iast (pc := 69) (zq_d eX10_book 37 rfl) (ax_10 j) (fun X2 => ?_)
            refine zr_aload_n (pc := 70) (zq_d eX10_book 38 rfl) 0 rfl rfl ?_
            refine zr_getC (pc := 71) (zq_d eX10_book 39 rfl) zf_RX10_12 (kx_0_0 j) ?_
            refine zr_dup (pc := 74) (zq_d eX10_book 40 rfl) rfl ?_
            refine zr_getI (pc := 75) (zq_d eX10_book 41 rfl) zf_RX10_248 (kx_1_13 j) ?_
            refine zr_iconst (pc := 78) (zq_d eX10_book 42 rfl) zc_i1 ?_
            refine zr_iadd (pc := 79) (zq_d eX10_book 43 rfl) ?_
            refine zr_putI (pc := 80) (zq_d eX10_book 44 rfl) zf_RX10_248 (kx_1_13 j) zn_5_13 (fun X3 => ?_)
            refine zr_aload_n (pc := 83) (zq_d eX10_book 45 rfl) 0 rfl rfl ?_
            refine zr_getC (pc := 84) (zq_d eX10_book 46 rfl) zf_RX10_12 (kx_0_0 j) ?_
            refine zr_getI (pc := 87) (zq_d eX10_book 47 rfl) zf_RX10_248 (kx_1_13 j) ?_
            exact zr_ireturn (pc := 90) (zq_d eX10_book 48 rfl) rfl rfl (Nat.zero_le _) (Nat.zero_le _)
          · refine zr_bipush (pc := 51) (zq_d eX10_book 28 rfl) zc_bm4 ?_
            exact zr_ireturn (pc := 53) (zq_d eX10_book 29 rfl) rfl rfl (Nat.zero_le _) (Nat.zero_le _)
        · refine zr_iconst (pc := 37) (zq_d eX10_book 21 rfl) zc_im1 ?_
          exact zr_ireturn (pc := 38) (zq_d eX10_book 22 rfl) rfl rfl (Nat.zero_le _) (Nat.zero_le _)
  · refine zr_aload_n (pc := 5) (zq_d eX10_book 3 rfl) 0 rfl rfl ?_
    refine zr_getC (pc := 6) (zq_d eX10_book 4 rfl) zf_RX10_12 (kx_0_0 j) ?_
    refine zr_iconst (pc := 9) (zq_d eX10_book 5 rfl) zc_i0 ?_
    refine zr_putI (pc := 10) (zq_d eX10_book 6 rfl) zf_RX10_248 (kx_1_13 j) zn_5_13 (fun X4 => ?_)
    refine zr_iconst (pc := 13) (zq_d eX10_book 7 rfl) zc_i0 ?_
    exact zr_ireturn (pc := 14) (zq_d eX10_book 8 rfl) rfl rfl (Nat.zero_le _) (Nat.zero_le _)
def f_X10_readBook (N j : Nat) (X : zq_M)  : Option (Int32 × zq_M) :=
  (f_X10_holding N j X).bind (fun h1 => zq_gd (zq_ho (zq_shX j) h1) ((f_X6_look N j X h1).bind (fun X2 => (f_X6_sayable N j X2).bind (zq_p (fun v3 X4 => some (v3, X4))))))
set_option maxRecDepth 20000 in
set_option maxHeartbeats 8000000 in
theorem s_X10_readBook (G : zq_G) (N z j : Nat) (X : zq_M)  : zq_V G YX10_readBook (6, 0, 0) (zq_si (zq_shX j) z) 0 0 0 (lv_args 0 [.ref (zq_ad G 0)]) [] (zq_shX j) z X (f_X10_readBook N j X ) := by
  unfold f_X10_readBook
  refine zr_lo (l2 := [(0, .ref (zq_ad G 0))]) [0] rfl ?_
  refine zr_aload_n (pc := 0) (zq_d eX10_readBook 0 rfl) 0 rfl rfl ?_
  refine zr_getC (pc := 1) (zq_d eX10_readBook 1 rfl) zf_RX10_48 (kx_0_9 j) ?_
  refine zr_aload_n (pc := 4) (zq_d eX10_readBook 2 rfl) 0 rfl rfl ?_
  refine zr_Vr (pc := 5) [] (zq_d eX10_readBook 3 rfl) (s_X10_holding G N z j X ) zd_X10_holding zl_RX10_161 (ox_0 j) rfl rfl rfl rfl (Nat.le_of_ble_eq_true rfl) (Nat.le_of_ble_eq_true rfl) (Nat.le_of_ble_eq_true rfl) ⟨Nat.le_refl _, Nat.le_refl _⟩ (fun h1 => zr_gd (fun gh1 => ?_))
  refine zr_Vv (pc := 8) [_] (zq_d eX10_readBook 4 rfl) (s_X6_look G N z j X h1 gh1) zd_X6_look zl_RX10_254 (ox_35 j) rfl rfl rfl rfl (Nat.le_of_ble_eq_true rfl) (Nat.le_of_ble_eq_true rfl) (Nat.le_of_ble_eq_true rfl) ⟨Nat.le_refl _, Nat.le_refl _⟩ (fun X2 => ?_)
  refine zr_aload_n (pc := 11) (zq_d eX10_readBook 5 rfl) 0 rfl rfl ?_
  refine zr_getC (pc := 12) (zq_d eX10_readBook 6 rfl) zf_RX10_48 (kx_0_9 j) ?_
  refine zr_Wsi (pc := 15) [] (zq_d eX10_readBook 7 rfl) (s_X6_sayable G N z j X2 ) zd_X6_sayable zl_RX10_258 (ox_35 j) rfl rfl rfl rfl (Nat.le_of_ble_eq_true rfl) (Nat.le_of_ble_eq_true rfl) (Nat.le_of_ble_eq_true rfl) ⟨Nat.le_refl _, Nat.le_refl _⟩ (fun v3 X4 => ?_)
  exact zr_ireturn (pc := 18) (zq_d eX10_readBook 8 rfl) rfl rfl (Nat.zero_le _) (Nat.zero_le _)
def f_X10_isTape (N j : Nat) (X : zq_M) (a1 : Int32) : Option Int32 :=
  (f_X10_isFromTo N j X a1 (0 : Int32) (5 : Int32)).bind (fun v1 => zq_gz v1 (some v1))
set_option maxRecDepth 20000 in
set_option maxHeartbeats 8000000 in
theorem s_X10_isTape (G : zq_G) (N z j : Nat) (X : zq_M) (a1 : Int32) : zq_V G YX10_isTape (2, 0, 0) (zq_ei (zq_shX j) z X) 0 0 0 (lv_args 0 [.int a1]) [] (zq_shX j) z X (f_X10_isTape N j X a1) := by
  unfold f_X10_isTape
  refine zr_lo (l2 := [(0, .int a1)]) [0] rfl ?_
  refine zr_iload_n (pc := 0) (zq_d eX10_isTape 0 rfl) 0 rfl rfl ?_
  refine zr_iconst (pc := 1) (zq_d eX10_isTape 1 rfl) zc_i0 ?_
  refine zr_iconst (pc := 2) (zq_d eX10_isTape 2 rfl) zc_i5 ?_
  refine zr_Si (pc := 3) [_, _, _] (zq_d eX10_isTape 3 rfl) (s_X10_isFromTo G N z j X _ _ _) zd_X10_isFromTo zl_RX10_98 rfl rfl (Nat.le_of_ble_eq_true rfl) (Nat.le_of_ble_eq_true rfl) (Nat.le_of_ble_eq_true rfl) ⟨Nat.le_refl _, Nat.le_refl _⟩ (fun v1 => ?_)
  exact zr_zreturnG (pc := 6) (zq_d eX10_isTape 4 rfl) rfl rfl (Nat.zero_le _) (Nat.zero_le _)
def b_X10_firstOtherwise_2 (N : Nat) (j : Nat) (X : zq_M) (a1 : Nat) (a2 : Int32) (rc2_1 : Int32 → Option Int32) (v1 : Int32) : Option Int32 :=
  if (X.1 1 0) ≤ v1 then (some (-5 : Int32)) else ((f_X7_hasPlace N j X a1 a2).bind (fun v2 => if v2 = 0 then (some ((100 : Int32) + v1)) else ((f_X7_hasPlace N j X a1 (a2 + v1)).bind (fun v3 => if ¬ v3 = 0 then (zq_ck (a2 + v1) 60 (zq_ck v1 5 (if (lg_cmp (X.2.1 (a1 + 1) (zq_ix (a2 + v1))) ((X.1 5 (zq_ix v1)).toInt64)) = 0 then (rc2_1 (v1 + (1 : Int32))) else (some v1)))) else (some ((100 : Int32) + v1))))))
def f_X10_firstOtherwise (N j : Nat) (X : zq_M) (a1 : Nat) (a2 : Int32) : Option Int32 :=
  zq_loop (fun _ => none) (b_X10_firstOtherwise_2 N j X a1 a2) N (0 : Int32)
set_option maxRecDepth 20000 in
set_option maxHeartbeats 8000000 in
theorem s_X10_firstOtherwise (G : zq_G) (N z j : Nat) (X : zq_M) (a1 : Nat) (ga1 : zq_ta (zq_shX j) a1 = true) (a2 : Int32) : zq_V G YX10_firstOtherwise (2, 0, 0) (zq_ei (zq_shX j) z X) 0 0 0 (lv_args 0 [.ref (zq_ad G 0), .ref (zq_ad G a1), .int a2]) [] (zq_shX j) z X (f_X10_firstOtherwise N j X a1 a2) := by
  unfold f_X10_firstOtherwise
  refine zr_lo (l2 := [(0, .ref (zq_ad G 0)), (1, .ref (zq_ad G a1)), (2, .int a2)]) [0, 1, 2] rfl ?_
  refine zr_iconst (pc := 0) (zq_d eX10_firstOtherwise 0 rfl) zc_i0 ?_
  refine zr_istore_n (pc := 1) (lo2 := [(3, .int (0 : Int32)), (0, .ref (zq_ad G 0)), (1, .ref (zq_ad G a1)), (2, .int a2)]) (zq_d eX10_firstOtherwise 1 rfl) rfl (Nat.le_of_ble_eq_true rfl) rfl ?_
  have hbrc2_1 : ∀ rc2_1 : Int32 → Option Int32, (∀ (v1 : Int32), zq_V G YX10_firstOtherwise (2, 0, 0) (zq_ei (zq_shX j) z X) 0 0 2 [(0, .ref (zq_ad G 0)), (1, .ref (zq_ad G a1)), (2, .int a2), (3, .int v1)] [] (zq_shX j) z X (rc2_1 v1)) → ∀ (v1 : Int32), zq_V G YX10_firstOtherwise (2, 0, 0) (zq_ei (zq_shX j) z X) 0 0 2 [(0, .ref (zq_ad G 0)), (1, .ref (zq_ad G a1)), (2, .int a2), (3, .int v1)] [] (zq_shX j) z X (b_X10_firstOtherwise_2 N j X a1 a2 rc2_1 v1) := by
    intro rc2_1 hrc2_1 v1
    unfold b_X10_firstOtherwise_2
    refine zr_iload_n (pc := 2) (zq_d eX10_firstOtherwise 2 rfl) 3 rfl rfl ?_
    refine zr_aload_n (pc := 3) (zq_d eX10_firstOtherwise 3 rfl) 0 rfl rfl ?_
    refine zr_getC (pc := 4) (zq_d eX10_firstOtherwise 4 rfl) zf_RX10_12 (kx_0_0 j) ?_
    refine zr_getI (pc := 7) (zq_d eX10_firstOtherwise 5 rfl) zf_RX10_106 (kx_1_0 j) ?_
    refine zr_icmp_ge (pc := 10) 66 (zq_d eX10_firstOtherwise 6 rfl) (by decide) (fun _ => ?_) (fun _ => ?_)
    · refine zr_bipush (pc := 66) (zq_d eX10_firstOtherwise 39 rfl) zc_bm5 ?_
      exact zr_ireturn (pc := 68) (zq_d eX10_firstOtherwise 40 rfl) rfl rfl (Nat.zero_le _) (Nat.zero_le _)
    · refine zr_aload_n (pc := 13) (zq_d eX10_firstOtherwise 7 rfl) 1 rfl rfl ?_
      refine zr_iload_n (pc := 14) (zq_d eX10_firstOtherwise 8 rfl) 2 rfl rfl ?_
      refine zr_Vi (pc := 15) [_] (zq_d eX10_firstOtherwise 9 rfl) (s_X7_hasPlace G N z j X a1 ga1 _) zd_X7_hasPlace zl_RX10_305 (zq_ta_s ga1) rfl rfl rfl rfl (Nat.le_of_ble_eq_true rfl) (Nat.le_of_ble_eq_true rfl) (Nat.le_of_ble_eq_true rfl) ⟨Nat.le_refl _, Nat.le_refl _⟩ (fun v2 => ?_)
      refine zr_if_eq (pc := 18) 31 (zq_d eX10_firstOtherwise 10 rfl) (by decide) (fun _ => ?_) (fun _ => ?_)
      · refine zr_bipush (pc := 31) (zq_d eX10_firstOtherwise 17 rfl) zc_b100 ?_
        refine zr_iload_n (pc := 33) (zq_d eX10_firstOtherwise 18 rfl) 3 rfl rfl ?_
        refine zr_iadd (pc := 34) (zq_d eX10_firstOtherwise 19 rfl) ?_
        exact zr_ireturn (pc := 35) (zq_d eX10_firstOtherwise 20 rfl) rfl rfl (Nat.zero_le _) (Nat.zero_le _)
      · refine zr_aload_n (pc := 21) (zq_d eX10_firstOtherwise 11 rfl) 1 rfl rfl ?_
        refine zr_iload_n (pc := 22) (zq_d eX10_firstOtherwise 12 rfl) 2 rfl rfl ?_
        refine zr_iload_n (pc := 23) (zq_d eX10_firstOtherwise 13 rfl) 3 rfl rfl ?_
        refine zr_iadd (pc := 24) (zq_d eX10_firstOtherwise 14 rfl) ?_
        refine zr_Vi (pc := 25) [_] (zq_d eX10_firstOtherwise 15 rfl) (s_X7_hasPlace G N z j X a1 ga1 _) zd_X7_hasPlace zl_RX10_305 (zq_ta_s ga1) rfl rfl rfl rfl (Nat.le_of_ble_eq_true rfl) (Nat.le_of_ble_eq_true rfl) (Nat.le_of_ble_eq_true rfl) ⟨Nat.le_refl _, Nat.le_refl _⟩ (fun v3 => ?_)
        refine zr_if_ne (pc := 28) 36 (zq_d eX10_firstOtherwise 16 rfl) (by decide) (fun _ => ?_) (fun _ => ?_)
        · refine zr_aload_n (pc := 36) (zq_d eX10_firstOtherwise 21 rfl) 1 rfl rfl ?_
          refine zr_getC (pc := 37) (zq_d eX10_firstOtherwise 22 rfl) zf_RX10_312 (zq_ta_k2 ga1) ?_
          refine zr_iload_n (pc := 40) (zq_d eX10_firstOtherwise 23 rfl) 2 rfl rfl ?_
          refine zr_iload_n (pc := 41) (zq_d eX10_firstOtherwise 24 rfl) 3 rfl rfl ?_
          refine zr_iadd (pc := 42) (zq_d eX10_firstOtherwise 25 rfl) ?_
          refine zr_lald (pc := 43) (zq_d eX10_firstOtherwise 26 rfl) (zq_ta_a1 ga1) ?_
          refine zr_aload_n (pc := 44) (zq_d eX10_firstOtherwise 27 rfl) 0 rfl rfl ?_
          refine zr_getC (pc := 45) (zq_d eX10_firstOtherwise 28 rfl) zf_RX10_12 (kx_0_0 j) ?_
          refine zr_getC (pc := 48) (zq_d eX10_firstOtherwise 29 rfl) zf_RX10_126 (kx_1_4 j) ?_
          refine zr_iload_n (pc := 51) (zq_d eX10_firstOtherwise 30 rfl) 3 rfl rfl ?_
          refine zr_iald (pc := 52) (zq_d eX10_firstOtherwise 31 rfl) (ax_5 j) ?_
          refine zr_i2l (pc := 53) (zq_d eX10_firstOtherwise 32 rfl) ?_
          refine zr_lcmp (pc := 54) (zq_d eX10_firstOtherwise 33 rfl) ?_
          refine zr_if_eq (pc := 55) 60 (zq_d eX10_firstOtherwise 34 rfl) (by decide) (fun _ => ?_) (fun _ => ?_)
          · refine zr_iinc (pc := 60) (j := 3) (v := (v1 + (1 : Int32))) (lo2 := [(3, .int (v1 + (1 : Int32))), (0, .ref (zq_ad G 0)), (1, .ref (zq_ad G a1)), (2, .int a2)]) (zq_d eX10_firstOtherwise 37 rfl) rfl (by rw [zc_i1]) (Nat.le_of_ble_eq_true rfl) rfl ?_
            refine zr_goto (pc := 63) 2 (zq_d eX10_firstOtherwise 38 rfl) (by decide) ?_
            exact zr_lo [1, 2, 3, 0] rfl (hrc2_1 (v1 + (1 : Int32)))
          · refine zr_iload_n (pc := 58) (zq_d eX10_firstOtherwise 35 rfl) 3 rfl rfl ?_
            exact zr_ireturn (pc := 59) (zq_d eX10_firstOtherwise 36 rfl) rfl rfl (Nat.zero_le _) (Nat.zero_le _)
        · refine zr_bipush (pc := 31) (zq_d eX10_firstOtherwise 17 rfl) zc_b100 ?_
          refine zr_iload_n (pc := 33) (zq_d eX10_firstOtherwise 18 rfl) 3 rfl rfl ?_
          refine zr_iadd (pc := 34) (zq_d eX10_firstOtherwise 19 rfl) ?_
          exact zr_ireturn (pc := 35) (zq_d eX10_firstOtherwise 20 rfl) rfl rfl (Nat.zero_le _) (Nat.zero_le _)
  have hlrc2_1 := zr_loop (P := fun (rc2_1 : Int32 → Option Int32) => ∀ (v1 : Int32), zq_V G YX10_firstOtherwise (2, 0, 0) (zq_ei (zq_shX j) z X) 0 0 2 [(0, .ref (zq_ad G 0)), (1, .ref (zq_ad G a1)), (2, .int a2), (3, .int v1)] [] (zq_shX j) z X (rc2_1 v1)) (fun _ => none) (b_X10_firstOtherwise_2 N j X a1 a2) (fun _ => zr_none) hbrc2_1 N
  exact zr_lo [1, 2, 3, 0] rfl (hlrc2_1 (0 : Int32))
def j_X10_judge_34 (N : Nat) (j : Nat) (X : zq_M) (a2 : Int32) (h2 : Nat)  : Option Int32 :=
  (f_X10_firstOtherwise N j X h2 a2).bind (fun v4 => some v4)
def f_X10_judge (N j : Nat) (X : zq_M) (a1 : Int32) (a2 : Int32) : Option Int32 :=
  (f_X10_isTape N j X a1).bind (fun v1 => if ¬ v1 = 0 then (zq_ck a1 6 (zq_nn (X.2.2 56 (zq_ix a1)) (zq_ta (zq_shX j)) (fun h2 => (f_X7_holdsRow N j X h2).bind (fun v3 => if v3 = 0 then (j_X10_judge_34 N j X a2 h2) else (if (X.1 h2 0) = (2 : Int32) then (j_X10_judge_34 N j X a2 h2) else (some (-12 : Int32))))))) else (some (-1 : Int32)))
set_option maxRecDepth 20000 in
set_option maxHeartbeats 8000000 in
theorem s_X10_judge (G : zq_G) (N z j : Nat) (X : zq_M) (a1 : Int32) (a2 : Int32) : zq_V G YX10_judge (3, 0, 0) (zq_ei (zq_shX j) z X) 0 0 0 (lv_args 0 [.ref (zq_ad G 0), .int a1, .int a2]) [] (zq_shX j) z X (f_X10_judge N j X a1 a2) := by
  unfold f_X10_judge
  refine zr_lo (l2 := [(0, .ref (zq_ad G 0)), (1, .int a1), (2, .int a2)]) [0, 1, 2] rfl ?_
  refine zr_iload_n (pc := 0) (zq_d eX10_judge 0 rfl) 1 rfl rfl ?_
  refine zr_Si (pc := 1) [_] (zq_d eX10_judge 1 rfl) (s_X10_isTape G N z j X _) zd_X10_isTape zl_RX10_261 rfl rfl (Nat.le_of_ble_eq_true rfl) (Nat.le_of_ble_eq_true rfl) (Nat.le_of_ble_eq_true rfl) ⟨Nat.le_refl _, Nat.le_refl _⟩ (fun v1 => ?_)
  refine zr_if_ne (pc := 4) 9 (zq_d eX10_judge 2 rfl) (by decide) (fun _ => ?_) (fun _ => ?_)
  · refine zr_aload_n (pc := 9) (zq_d eX10_judge 5 rfl) 0 rfl rfl ?_
    refine zr_getC (pc := 10) (zq_d eX10_judge 6 rfl) zf_RX10_93 (kx_0_15 j) ?_
    refine zr_iload_n (pc := 13) (zq_d eX10_judge 7 rfl) 1 rfl rfl ?_
    refine zr_aald (pc := 14) (zq_d eX10_judge 8 rfl) (ax_56 j) rfl (fun _ _ _ => rfl) (fun h2 gh2 => ?_)
    refine zr_astore_n (pc := 15) (lo2 := [(3, .ref (zq_ad G h2)), (0, .ref (zq_ad G 0)), (1, .int a1), (2, .int a2)]) (zq_d eX10_judge 9 rfl) rfl (Nat.le_of_ble_eq_true rfl) rfl ?_
    refine zr_aload_n (pc := 16) (zq_d eX10_judge 10 rfl) 0 rfl rfl ?_
    refine zr_Vi (pc := 17) [] (zq_d eX10_judge 11 rfl) (s_X7_holdsRow G N z j X h2 gh2) zd_X7_holdsRow zl_RX10_264 (zq_ta_s gh2) rfl rfl rfl rfl (Nat.le_of_ble_eq_true rfl) (Nat.le_of_ble_eq_true rfl) (Nat.le_of_ble_eq_true rfl) ⟨Nat.le_refl _, Nat.le_refl _⟩ (fun v3 => ?_)
    have hj34_1 : zq_V G YX10_judge (3, 0, 0) (zq_ei (zq_shX j) z X) 0 0 34 [(0, .ref (zq_ad G 0)), (2, .int a2), (3, .ref (zq_ad G h2))] [] (zq_shX j) z X (j_X10_judge_34 N j X a2 h2) := by
      unfold j_X10_judge_34
      refine zr_aload_n (pc := 34) (zq_d eX10_judge 19 rfl) 0 rfl rfl ?_
      refine zr_aload_n (pc := 35) (zq_d eX10_judge 20 rfl) 2 rfl rfl ?_
      refine zr_iload_n (pc := 36) (zq_d eX10_judge 21 rfl) 1 rfl rfl ?_
      refine zr_Vi (pc := 37) [_, _] (zq_d eX10_judge 22 rfl) (s_X10_firstOtherwise G N z j X h2 gh2 _) zd_X10_firstOtherwise zl_RX10_271 (ox_0 j) rfl rfl rfl rfl (Nat.le_of_ble_eq_true rfl) (Nat.le_of_ble_eq_true rfl) (Nat.le_of_ble_eq_true rfl) ⟨Nat.le_refl _, Nat.le_refl _⟩ (fun v4 => ?_)
      exact zr_ireturn (pc := 40) (zq_d eX10_judge 23 rfl) rfl rfl (Nat.zero_le _) (Nat.zero_le _)
    refine zr_if_eq (pc := 20) 34 (zq_d eX10_judge 12 rfl) (by decide) (fun _ => ?_) (fun _ => ?_)
    · exact zr_lo [1, 3, 0] rfl (hj34_1)
    · refine zr_aload_n (pc := 23) (zq_d eX10_judge 13 rfl) 0 rfl rfl ?_
      refine zr_getI (pc := 24) (zq_d eX10_judge 14 rfl) zf_RX10_268 (zq_ta_k0 gh2) ?_
      refine zr_iconst (pc := 27) (zq_d eX10_judge 15 rfl) zc_i2 ?_
      refine zr_icmp_eq (pc := 28) 34 (zq_d eX10_judge 16 rfl) (by decide) (fun _ => ?_) (fun _ => ?_)
      · exact zr_lo [1, 3, 0] rfl (hj34_1)
      · refine zr_bipush (pc := 31) (zq_d eX10_judge 17 rfl) zc_bm12 ?_
        exact zr_ireturn (pc := 33) (zq_d eX10_judge 18 rfl) rfl rfl (Nat.zero_le _) (Nat.zero_le _)
  · refine zr_iconst (pc := 7) (zq_d eX10_judge 3 rfl) zc_im1 ?_
    exact zr_ireturn (pc := 8) (zq_d eX10_judge 4 rfl) rfl rfl (Nat.zero_le _) (Nat.zero_le _)
def f_X10_image (N j : Nat) (X : zq_M)  : Option (Int32 × zq_M) :=
  (f_X5_copyFrom N j X 11 1).bind (fun X1 => zq_gz (1 : Int32) (zq_b (zq_u1 X1 0 2 (1 : Int32)) (fun X2 => some ((X2.1 1 0), X2))))
set_option maxRecDepth 20000 in
set_option maxHeartbeats 8000000 in
theorem s_X10_image (G : zq_G) (N z j : Nat) (X : zq_M)  : zq_V G YX10_image (3, 0, 0) (zq_si (zq_shX j) z) 0 0 0 (lv_args 0 [.ref (zq_ad G 0)]) [] (zq_shX j) z X (f_X10_image N j X ) := by
  unfold f_X10_image
  refine zr_lo (l2 := [(0, .ref (zq_ad G 0))]) [0] rfl ?_
  refine zr_aload_n (pc := 0) (zq_d eX10_image 0 rfl) 0 rfl rfl ?_
  refine zr_getC (pc := 1) (zq_d eX10_image 1 rfl) zf_RX10_18 (kx_0_1 j) ?_
  refine zr_aload_n (pc := 4) (zq_d eX10_image 2 rfl) 0 rfl rfl ?_
  refine zr_getC (pc := 5) (zq_d eX10_image 3 rfl) zf_RX10_12 (kx_0_0 j) ?_
  refine zr_Vv (pc := 8) [_] (zq_d eX10_image 4 rfl) (s_X5_copyFrom G N z j X 11 (zsc_11 j) 1 (zsc_1 j)) zd_X5_copyFrom zl_RX10_275 (ox_11 j) rfl rfl rfl rfl (Nat.le_of_ble_eq_true rfl) (Nat.le_of_ble_eq_true rfl) (Nat.le_of_ble_eq_true rfl) ⟨Nat.le_refl _, Nat.le_refl _⟩ (fun X1 => ?_)
  refine zr_aload_n (pc := 11) (zq_d eX10_image 5 rfl) 0 rfl rfl ?_
  refine zr_iconst (pc := 12) (zq_d eX10_image 6 rfl) zc_i1 ?_
  refine zr_putZ (pc := 13) (zq_d eX10_image 7 rfl) zf_RX10_278 (kx_0_2 j) zn_10_2 (fun X2 => ?_)
  refine zr_aload_n (pc := 16) (zq_d eX10_image 8 rfl) 0 rfl rfl ?_
  refine zr_getC (pc := 17) (zq_d eX10_image 9 rfl) zf_RX10_12 (kx_0_0 j) ?_
  refine zr_getI (pc := 20) (zq_d eX10_image 10 rfl) zf_RX10_106 (kx_1_0 j) ?_
  exact zr_ireturn (pc := 23) (zq_d eX10_image 11 rfl) rfl rfl (Nat.zero_le _) (Nat.zero_le _)
def f_X10_undo (N j : Nat) (X : zq_M)  : Option (Int32 × zq_M) :=
  if ¬ (X.1 0 2) = 0 then ((f_X5_copyFrom N j X 1 11).bind (fun X1 => some ((X1.1 1 0), X1))) else (some ((-3 : Int32), X))
set_option maxRecDepth 20000 in
set_option maxHeartbeats 8000000 in
theorem s_X10_undo (G : zq_G) (N z j : Nat) (X : zq_M)  : zq_V G YX10_undo (3, 0, 0) (zq_si (zq_shX j) z) 0 0 0 (lv_args 0 [.ref (zq_ad G 0)]) [] (zq_shX j) z X (f_X10_undo N j X ) := by
  unfold f_X10_undo
  refine zr_lo (l2 := [(0, .ref (zq_ad G 0))]) [0] rfl ?_
  refine zr_aload_n (pc := 0) (zq_d eX10_undo 0 rfl) 0 rfl rfl ?_
  refine zr_getI (pc := 1) (zq_d eX10_undo 1 rfl) zf_RX10_278 (kx_0_2 j) ?_
  refine zr_if_ne (pc := 4) 10 (zq_d eX10_undo 2 rfl) (by decide) (fun _ => ?_) (fun _ => ?_)
  · refine zr_aload_n (pc := 10) (zq_d eX10_undo 5 rfl) 0 rfl rfl ?_
    refine zr_getC (pc := 11) (zq_d eX10_undo 6 rfl) zf_RX10_12 (kx_0_0 j) ?_
    refine zr_aload_n (pc := 14) (zq_d eX10_undo 7 rfl) 0 rfl rfl ?_
    refine zr_getC (pc := 15) (zq_d eX10_undo 8 rfl) zf_RX10_18 (kx_0_1 j) ?_
    refine zr_Vv (pc := 18) [_] (zq_d eX10_undo 9 rfl) (s_X5_copyFrom G N z j X 1 (zsc_1 j) 11 (zsc_11 j)) zd_X5_copyFrom zl_RX10_275 (ox_1 j) rfl rfl rfl rfl (Nat.le_of_ble_eq_true rfl) (Nat.le_of_ble_eq_true rfl) (Nat.le_of_ble_eq_true rfl) ⟨Nat.le_refl _, Nat.le_refl _⟩ (fun X1 => ?_)
    refine zr_aload_n (pc := 21) (zq_d eX10_undo 10 rfl) 0 rfl rfl ?_
    refine zr_getC (pc := 22) (zq_d eX10_undo 11 rfl) zf_RX10_12 (kx_0_0 j) ?_
    refine zr_getI (pc := 25) (zq_d eX10_undo 12 rfl) zf_RX10_106 (kx_1_0 j) ?_
    exact zr_ireturn (pc := 28) (zq_d eX10_undo 13 rfl) rfl rfl (Nat.zero_le _) (Nat.zero_le _)
  · refine zr_bipush (pc := 7) (zq_d eX10_undo 3 rfl) zc_bm3 ?_
    exact zr_ireturn (pc := 9) (zq_d eX10_undo 4 rfl) rfl rfl (Nat.zero_le _) (Nat.zero_le _)
def f_X10_act (N j : Nat) (X : zq_M) (a1 : Int32) (a2 : Int32) (a3 : Int32) : Option (Int32 × zq_M) :=
  (f_X0_forget N j X).bind (fun X1 => (f_X10_isRoom N j X1 a1).bind (fun v2 => if v2 = 0 then (some ((0 : Int32), X1)) else ((f_X10_isFromTo N j X1 a2 (0 : Int32) (2 : Int32)).bind (fun v3 => if ¬ v3 = 0 then (zq_ck a1 3 (zq_ck a1 3 ((f_X0_start N j X1 a1 (X1.1 6 (zq_ix a1)) (X1.1 7 (zq_ix a1)) a2 a3).bind (zq_p (fun v4 X5 => some (v4, X5)))))) else (some ((0 : Int32), X1))))))
set_option maxRecDepth 20000 in
set_option maxHeartbeats 8000000 in
theorem s_X10_act (G : zq_G) (N z j : Nat) (X : zq_M) (a1 : Int32) (a2 : Int32) (a3 : Int32) : zq_V G YX10_act (67, 0, 0) (zq_si (zq_shX j) z) 0 0 0 (lv_args 0 [.ref (zq_ad G 0), .int a1, .int a2, .int a3]) [] (zq_shX j) z X (f_X10_act N j X a1 a2 a3) := by
  unfold f_X10_act
  refine zr_lo (l2 := [(0, .ref (zq_ad G 0)), (1, .int a1), (2, .int a2), (3, .int a3)]) [0, 1, 2, 3] rfl ?_
  refine zr_aload_n (pc := 0) (zq_d eX10_act 0 rfl) 0 rfl rfl ?_
  refine zr_getC (pc := 1) (zq_d eX10_act 1 rfl) zf_RX10_87 (kx_0_14 j) ?_
  refine zr_Vv (pc := 4) [] (zq_d eX10_act 2 rfl) (s_X0_forget G N z j X ) zd_X0_forget zl_RX10_282 (ox_54 j) rfl rfl rfl rfl (Nat.le_of_ble_eq_true rfl) (Nat.le_of_ble_eq_true rfl) (Nat.le_of_ble_eq_true rfl) ⟨Nat.le_refl _, Nat.le_refl _⟩ (fun X1 => ?_)
  refine zr_iload_n (pc := 7) (zq_d eX10_act 3 rfl) 1 rfl rfl ?_
  refine zr_Si (pc := 8) [_] (zq_d eX10_act 4 rfl) (s_X10_isRoom G N z j X1 _) zd_X10_isRoom zl_RX10_132 rfl rfl (Nat.le_of_ble_eq_true rfl) (Nat.le_of_ble_eq_true rfl) (Nat.le_of_ble_eq_true rfl) ⟨Nat.le_refl _, Nat.le_refl _⟩ (fun v2 => ?_)
  refine zr_if_eq (pc := 11) 23 (zq_d eX10_act 5 rfl) (by decide) (fun _ => ?_) (fun _ => ?_)
  · refine zr_iconst (pc := 23) (zq_d eX10_act 11 rfl) zc_i0 ?_
    exact zr_ireturn (pc := 24) (zq_d eX10_act 12 rfl) rfl rfl (Nat.zero_le _) (Nat.zero_le _)
  · refine zr_iload_n (pc := 14) (zq_d eX10_act 6 rfl) 2 rfl rfl ?_
    refine zr_iconst (pc := 15) (zq_d eX10_act 7 rfl) zc_i0 ?_
    refine zr_iconst (pc := 16) (zq_d eX10_act 8 rfl) zc_i2 ?_
    refine zr_Si (pc := 17) [_, _, _] (zq_d eX10_act 9 rfl) (s_X10_isFromTo G N z j X1 _ _ _) zd_X10_isFromTo zl_RX10_98 rfl rfl (Nat.le_of_ble_eq_true rfl) (Nat.le_of_ble_eq_true rfl) (Nat.le_of_ble_eq_true rfl) ⟨Nat.le_refl _, Nat.le_refl _⟩ (fun v3 => ?_)
    refine zr_if_ne (pc := 20) 25 (zq_d eX10_act 10 rfl) (by decide) (fun _ => ?_) (fun _ => ?_)
    · refine zr_aload_n (pc := 25) (zq_d eX10_act 13 rfl) 0 rfl rfl ?_
      refine zr_getC (pc := 26) (zq_d eX10_act 14 rfl) zf_RX10_87 (kx_0_14 j) ?_
      refine zr_iload_n (pc := 29) (zq_d eX10_act 15 rfl) 1 rfl rfl ?_
      refine zr_aload_n (pc := 30) (zq_d eX10_act 16 rfl) 0 rfl rfl ?_
      refine zr_getC (pc := 31) (zq_d eX10_act 17 rfl) zf_RX10_12 (kx_0_0 j) ?_
      refine zr_getC (pc := 34) (zq_d eX10_act 18 rfl) zf_RX10_135 (kx_1_5 j) ?_
      refine zr_iload_n (pc := 37) (zq_d eX10_act 19 rfl) 1 rfl rfl ?_
      refine zr_iald (pc := 38) (zq_d eX10_act 20 rfl) (ax_6 j) ?_
      refine zr_aload_n (pc := 39) (zq_d eX10_act 21 rfl) 0 rfl rfl ?_
      refine zr_getC (pc := 40) (zq_d eX10_act 22 rfl) zf_RX10_12 (kx_0_0 j) ?_
      refine zr_getC (pc := 43) (zq_d eX10_act 23 rfl) zf_RX10_138 (kx_1_6 j) ?_
      refine zr_iload_n (pc := 46) (zq_d eX10_act 24 rfl) 1 rfl rfl ?_
      refine zr_iald (pc := 47) (zq_d eX10_act 25 rfl) (ax_7 j) ?_
      refine zr_iload_n (pc := 48) (zq_d eX10_act 26 rfl) 2 rfl rfl ?_
      refine zr_iload_n (pc := 49) (zq_d eX10_act 27 rfl) 3 rfl rfl ?_
      refine zr_Wsi (pc := 50) [_, _, _, _, _] (zq_d eX10_act 28 rfl) (s_X0_start G N z j X1 _ _ _ _ _) zd_X0_start zl_RX10_285 (ox_54 j) rfl rfl rfl rfl (Nat.le_of_ble_eq_true rfl) (Nat.le_of_ble_eq_true rfl) (Nat.le_of_ble_eq_true rfl) ⟨Nat.le_refl _, Nat.le_refl _⟩ (fun v4 X5 => ?_)
      exact zr_ireturn (pc := 53) (zq_d eX10_act 29 rfl) rfl rfl (Nat.zero_le _) (Nat.zero_le _)
    · refine zr_iconst (pc := 23) (zq_d eX10_act 11 rfl) zc_i0 ?_
      exact zr_ireturn (pc := 24) (zq_d eX10_act 12 rfl) rfl rfl (Nat.zero_le _) (Nat.zero_le _)
def f_X10_trace (N j : Nat) (X : zq_M) (a1 : Int32) : Option Int32 :=
  (f_X0_bodyAt N j X a1).bind (fun v1 => some v1)
set_option maxRecDepth 20000 in
set_option maxHeartbeats 8000000 in
theorem s_X10_trace (G : zq_G) (N z j : Nat) (X : zq_M) (a1 : Int32) : zq_V G YX10_trace (3, 0, 0) (zq_ei (zq_shX j) z X) 0 0 0 (lv_args 0 [.ref (zq_ad G 0), .int a1]) [] (zq_shX j) z X (f_X10_trace N j X a1) := by
  unfold f_X10_trace
  refine zr_lo (l2 := [(0, .ref (zq_ad G 0)), (1, .int a1)]) [0, 1] rfl ?_
  refine zr_aload_n (pc := 0) (zq_d eX10_trace 0 rfl) 0 rfl rfl ?_
  refine zr_getC (pc := 1) (zq_d eX10_trace 1 rfl) zf_RX10_87 (kx_0_14 j) ?_
  refine zr_iload_n (pc := 4) (zq_d eX10_trace 2 rfl) 1 rfl rfl ?_
  refine zr_Vi (pc := 5) [_] (zq_d eX10_trace 3 rfl) (s_X0_bodyAt G N z j X _) zd_X0_bodyAt zl_RX10_289 (ox_54 j) rfl rfl rfl rfl (Nat.le_of_ble_eq_true rfl) (Nat.le_of_ble_eq_true rfl) (Nat.le_of_ble_eq_true rfl) ⟨Nat.le_refl _, Nat.le_refl _⟩ (fun v1 => ?_)
  exact zr_ireturn (pc := 8) (zq_d eX10_trace 4 rfl) rfl rfl (Nat.zero_le _) (Nat.zero_le _)
def b_X10_isKindOrUnder_4 (a2 : Int32) (rc4_1 : Int32 → Int32 → Option Int32) (v1 : Int32) (v2 : Int32) : Option Int32 :=
  if (7 : Int32) ≤ v2 then (some (0 : Int32)) else (if v1 < 0 then (some (0 : Int32)) else (if ¬ v1 = a2 then (zq_ck v1 7 (rc4_1 (zq_above.getD (zq_ix v1) 0) (v2 + (1 : Int32)))) else (some (1 : Int32))))
def f_X10_isKindOrUnder (N j : Nat) (X : zq_M) (a1 : Int32) (a2 : Int32) : Option Int32 :=
  zq_loop (fun _ _ => none) (b_X10_isKindOrUnder_4 a2) N a1 (0 : Int32)
set_option maxRecDepth 20000 in
set_option maxHeartbeats 8000000 in
theorem s_X10_isKindOrUnder (G : zq_G) (N z j : Nat) (X : zq_M) (a1 : Int32) (a2 : Int32) : zq_V G YX10_isKindOrUnder (1, 0, 0) (zq_ei (zq_shX j) z X) 0 0 0 (lv_args 0 [.int a1, .int a2]) [] (zq_shX j) z X (f_X10_isKindOrUnder N j X a1 a2) := by
  unfold f_X10_isKindOrUnder
  refine zr_lo (l2 := [(0, .int a1), (1, .int a2)]) [0, 1] rfl ?_
  refine zr_iload_n (pc := 0) (zq_d eX10_isKindOrUnder 0 rfl) 0 rfl rfl ?_
  refine zr_istore_n (pc := 1) (lo2 := [(2, .int a1), (0, .int a1), (1, .int a2)]) (zq_d eX10_isKindOrUnder 1 rfl) rfl (Nat.le_of_ble_eq_true rfl) rfl ?_
  refine zr_iconst (pc := 2) (zq_d eX10_isKindOrUnder 2 rfl) zc_i0 ?_
  refine zr_istore_n (pc := 3) (lo2 := [(3, .int (0 : Int32)), (2, .int a1), (0, .int a1), (1, .int a2)]) (zq_d eX10_isKindOrUnder 3 rfl) rfl (Nat.le_of_ble_eq_true rfl) rfl ?_
  have hbrc4_1 : ∀ rc4_1 : Int32 → Int32 → Option Int32, (∀ (v1 : Int32) (v2 : Int32), zq_V G YX10_isKindOrUnder (1, 0, 0) (zq_ei (zq_shX j) z X) 0 0 4 [(1, .int a2), (2, .int v1), (3, .int v2)] [] (zq_shX j) z X (rc4_1 v1 v2)) → ∀ (v1 : Int32) (v2 : Int32), zq_V G YX10_isKindOrUnder (1, 0, 0) (zq_ei (zq_shX j) z X) 0 0 4 [(1, .int a2), (2, .int v1), (3, .int v2)] [] (zq_shX j) z X (b_X10_isKindOrUnder_4 a2 rc4_1 v1 v2) := by
    intro rc4_1 hrc4_1 v1 v2
    unfold b_X10_isKindOrUnder_4
    refine zr_iload_n (pc := 4) (zq_d eX10_isKindOrUnder 4 rfl) 2 rfl rfl ?_
    refine zr_bipush (pc := 5) (zq_d eX10_isKindOrUnder 5 rfl) zc_b7 ?_
    refine zr_icmp_ge (pc := 7) 33 (zq_d eX10_isKindOrUnder 6 rfl) (by decide) (fun _ => ?_) (fun _ => ?_)
    · refine zr_iconst (pc := 33) (zq_d eX10_isKindOrUnder 20 rfl) zc_i0 ?_
      exact zr_zreturn (pc := 34) (zq_d eX10_isKindOrUnder 21 rfl) rfl rfl rfl (Nat.zero_le _) (Nat.zero_le _)
    · refine zr_iload_n (pc := 10) (zq_d eX10_isKindOrUnder 7 rfl) 1 rfl rfl ?_
      refine zr_if_lt (pc := 11) 33 (zq_d eX10_isKindOrUnder 8 rfl) (by decide) (fun _ => ?_) (fun _ => ?_)
      · refine zr_iconst (pc := 33) (zq_d eX10_isKindOrUnder 20 rfl) zc_i0 ?_
        exact zr_zreturn (pc := 34) (zq_d eX10_isKindOrUnder 21 rfl) rfl rfl rfl (Nat.zero_le _) (Nat.zero_le _)
      · refine zr_iload_n (pc := 14) (zq_d eX10_isKindOrUnder 9 rfl) 1 rfl rfl ?_
        refine zr_iload_n (pc := 15) (zq_d eX10_isKindOrUnder 10 rfl) 0 rfl rfl ?_
        refine zr_icmp_ne (pc := 16) 21 (zq_d eX10_isKindOrUnder 11 rfl) (by decide) (fun _ => ?_) (fun _ => ?_)
        · refine zr_gsA (pc := 21) (zq_d eX10_isKindOrUnder 14 rfl) zg_RX10_325 ?_
          refine zr_iload_n (pc := 24) (zq_d eX10_isKindOrUnder 15 rfl) 1 rfl rfl ?_
          refine zr_tald0 (pc := 25) (zq_d eX10_isKindOrUnder 16 rfl) ?_
          refine zr_istore_n (pc := 26) (lo2 := [(2, .int (zq_above.getD (zq_ix v1) 0)), (1, .int a2), (3, .int v2)]) (zq_d eX10_isKindOrUnder 17 rfl) rfl (Nat.le_of_ble_eq_true rfl) rfl ?_
          refine zr_iinc (pc := 27) (j := 2) (v := (v2 + (1 : Int32))) (lo2 := [(3, .int (v2 + (1 : Int32))), (2, .int (zq_above.getD (zq_ix v1) 0)), (1, .int a2)]) (zq_d eX10_isKindOrUnder 18 rfl) rfl (by rw [zc_i1]) (Nat.le_of_ble_eq_true rfl) rfl ?_
          refine zr_goto (pc := 30) 4 (zq_d eX10_isKindOrUnder 19 rfl) (by decide) ?_
          exact zr_lo [2, 1, 0] rfl (hrc4_1 (zq_above.getD (zq_ix v1) 0) (v2 + (1 : Int32)))
        · refine zr_iconst (pc := 19) (zq_d eX10_isKindOrUnder 12 rfl) zc_i1 ?_
          exact zr_zreturn (pc := 20) (zq_d eX10_isKindOrUnder 13 rfl) rfl rfl rfl (Nat.zero_le _) (Nat.zero_le _)
  have hlrc4_1 := zr_loop (P := fun (rc4_1 : Int32 → Int32 → Option Int32) => ∀ (v1 : Int32) (v2 : Int32), zq_V G YX10_isKindOrUnder (1, 0, 0) (zq_ei (zq_shX j) z X) 0 0 4 [(1, .int a2), (2, .int v1), (3, .int v2)] [] (zq_shX j) z X (rc4_1 v1 v2)) (fun _ _ => none) (b_X10_isKindOrUnder_4 a2) (fun _ _ => zr_none) hbrc4_1 N
  exact zr_lo [3, 1, 0] rfl (hlrc4_1 a1 (0 : Int32))
def f_X10_taken (N j : Nat) (X : zq_M) (a1 : Int32) (a2 : Int32) : Option Int32 :=
  (f_X10_isFromTo N j X a2 (0 : Int32) (6 : Int32)).bind (fun v1 => if ¬ v1 = 0 then ((f_X10_isRoom N j X a1).bind (fun v2 => if ¬ v2 = 0 then (zq_ck a1 3 ((f_X10_isKindOrUnder N j X (X.1 6 (zq_ix a1)) a2).bind (fun v3 => if v3 = 0 then (some (-12 : Int32)) else (some (X.1 6 (zq_ix a1)))))) else (some (-11 : Int32)))) else (some (-2 : Int32)))
set_option maxRecDepth 20000 in
set_option maxHeartbeats 8000000 in
theorem s_X10_taken (G : zq_G) (N z j : Nat) (X : zq_M) (a1 : Int32) (a2 : Int32) : zq_V G YX10_taken (3, 0, 0) (zq_ei (zq_shX j) z X) 0 0 0 (lv_args 0 [.ref (zq_ad G 0), .int a1, .int a2]) [] (zq_shX j) z X (f_X10_taken N j X a1 a2) := by
  unfold f_X10_taken
  refine zr_lo (l2 := [(0, .ref (zq_ad G 0)), (1, .int a1), (2, .int a2)]) [0, 1, 2] rfl ?_
  refine zr_iload_n (pc := 0) (zq_d eX10_taken 0 rfl) 2 rfl rfl ?_
  refine zr_iconst (pc := 1) (zq_d eX10_taken 1 rfl) zc_i0 ?_
  refine zr_bipush (pc := 2) (zq_d eX10_taken 2 rfl) zc_b6 ?_
  refine zr_Si (pc := 4) [_, _, _] (zq_d eX10_taken 3 rfl) (s_X10_isFromTo G N z j X _ _ _) zd_X10_isFromTo zl_RX10_98 rfl rfl (Nat.le_of_ble_eq_true rfl) (Nat.le_of_ble_eq_true rfl) (Nat.le_of_ble_eq_true rfl) ⟨Nat.le_refl _, Nat.le_refl _⟩ (fun v1 => ?_)
  refine zr_if_ne (pc := 7) 13 (zq_d eX10_taken 4 rfl) (by decide) (fun _ => ?_) (fun _ => ?_)
  · refine zr_iload_n (pc := 13) (zq_d eX10_taken 7 rfl) 1 rfl rfl ?_
    refine zr_Si (pc := 14) [_] (zq_d eX10_taken 8 rfl) (s_X10_isRoom G N z j X _) zd_X10_isRoom zl_RX10_132 rfl rfl (Nat.le_of_ble_eq_true rfl) (Nat.le_of_ble_eq_true rfl) (Nat.le_of_ble_eq_true rfl) ⟨Nat.le_refl _, Nat.le_refl _⟩ (fun v2 => ?_)
    refine zr_if_ne (pc := 17) 23 (zq_d eX10_taken 9 rfl) (by decide) (fun _ => ?_) (fun _ => ?_)
    · refine zr_aload_n (pc := 23) (zq_d eX10_taken 12 rfl) 0 rfl rfl ?_
      refine zr_getC (pc := 24) (zq_d eX10_taken 13 rfl) zf_RX10_12 (kx_0_0 j) ?_
      refine zr_getC (pc := 27) (zq_d eX10_taken 14 rfl) zf_RX10_135 (kx_1_5 j) ?_
      refine zr_iload_n (pc := 30) (zq_d eX10_taken 15 rfl) 1 rfl rfl ?_
      refine zr_iald (pc := 31) (zq_d eX10_taken 16 rfl) (ax_6 j) ?_
      refine zr_istore_n (pc := 32) (lo2 := [(3, .int (X.1 6 (zq_ix a1))), (0, .ref (zq_ad G 0)), (1, .int a1), (2, .int a2)]) (zq_d eX10_taken 17 rfl) rfl (Nat.le_of_ble_eq_true rfl) rfl ?_
      refine zr_iload_n (pc := 33) (zq_d eX10_taken 18 rfl) 0 rfl rfl ?_
      refine zr_iload_n (pc := 34) (zq_d eX10_taken 19 rfl) 3 rfl rfl ?_
      refine zr_Si (pc := 35) [_, _] (zq_d eX10_taken 20 rfl) (s_X10_isKindOrUnder G N z j X _ _) zd_X10_isKindOrUnder zl_RX10_292 rfl rfl (Nat.le_of_ble_eq_true rfl) (Nat.le_of_ble_eq_true rfl) (Nat.le_of_ble_eq_true rfl) ⟨Nat.le_refl _, Nat.le_refl _⟩ (fun v3 => ?_)
      refine zr_if_eq (pc := 38) 45 (zq_d eX10_taken 21 rfl) (by decide) (fun _ => ?_) (fun _ => ?_)
      · refine zr_bipush (pc := 45) (zq_d eX10_taken 24 rfl) zc_bm12 ?_
        exact zr_ireturn (pc := 47) (zq_d eX10_taken 25 rfl) rfl rfl (Nat.zero_le _) (Nat.zero_le _)
      · refine zr_iload_n (pc := 41) (zq_d eX10_taken 22 rfl) 0 rfl rfl ?_
        refine zr_goto (pc := 42) 47 (zq_d eX10_taken 23 rfl) (by decide) ?_
        exact zr_ireturn (pc := 47) (zq_d eX10_taken 25 rfl) rfl rfl (Nat.zero_le _) (Nat.zero_le _)
    · refine zr_bipush (pc := 20) (zq_d eX10_taken 10 rfl) zc_bm11 ?_
      exact zr_ireturn (pc := 22) (zq_d eX10_taken 11 rfl) rfl rfl (Nat.zero_le _) (Nat.zero_le _)
  · refine zr_bipush (pc := 10) (zq_d eX10_taken 5 rfl) zc_bm2 ?_
    exact zr_ireturn (pc := 12) (zq_d eX10_taken 6 rfl) rfl rfl (Nat.zero_le _) (Nat.zero_le _)
def f_X10_count (N j : Nat) (X : zq_M) (a1 : Int32) : Option Int32 :=
  if a1 = (0 : Int32) then (some (X.1 1 0)) else (if a1 = (1 : Int32) then (some (X.1 0 6)) else (if a1 = (2 : Int32) then (some (X.1 1 11)) else (if a1 = (3 : Int32) then (some (X.1 1 13)) else (if a1 = (4 : Int32) then (some (X.1 0 4)) else (if a1 = (5 : Int32) then (some (X.1 54 1)) else (some (-2 : Int32)))))))
set_option maxRecDepth 20000 in
set_option maxHeartbeats 8000000 in
theorem s_X10_count (G : zq_G) (N z j : Nat) (X : zq_M) (a1 : Int32) : zq_V G YX10_count (1, 0, 0) (zq_ei (zq_shX j) z X) 0 0 0 (lv_args 0 [.ref (zq_ad G 0), .int a1]) [] (zq_shX j) z X (f_X10_count N j X a1) := by
  unfold f_X10_count
  refine zr_lo (l2 := [(0, .ref (zq_ad G 0)), (1, .int a1)]) [0, 1] rfl ?_
  refine zr_iload_n (pc := 0) (zq_d eX10_count 0 rfl) 1 rfl rfl ?_
  refine zr_cs (fun q1 => ?_) (fun q1 => ?_)
  · refine zr_tab (pc := 1) (n := 0) 40 (zq_d eX10_count 1 rfl) q1 (by decide) (by decide) (by decide) rfl (by decide) ?_
    refine zr_aload_n (pc := 40) (zq_d eX10_count 2 rfl) 0 rfl rfl ?_
    refine zr_getC (pc := 41) (zq_d eX10_count 3 rfl) zf_RX10_12 (kx_0_0 j) ?_
    refine zr_getI (pc := 44) (zq_d eX10_count 4 rfl) zf_RX10_106 (kx_1_0 j) ?_
    exact zr_ireturn (pc := 47) (zq_d eX10_count 5 rfl) rfl rfl (Nat.zero_le _) (Nat.zero_le _)
  · refine zr_cs (fun q2 => ?_) (fun q2 => ?_)
    · refine zr_tab (pc := 1) (n := 1) 48 (zq_d eX10_count 1 rfl) q2 (by decide) (by decide) (by decide) rfl (by decide) ?_
      refine zr_aload_n (pc := 48) (zq_d eX10_count 6 rfl) 0 rfl rfl ?_
      refine zr_getI (pc := 49) (zq_d eX10_count 7 rfl) zf_RX10_151 (kx_0_6 j) ?_
      exact zr_ireturn (pc := 52) (zq_d eX10_count 8 rfl) rfl rfl (Nat.zero_le _) (Nat.zero_le _)
    · refine zr_cs (fun q3 => ?_) (fun q3 => ?_)
      · refine zr_tab (pc := 1) (n := 2) 53 (zq_d eX10_count 1 rfl) q3 (by decide) (by decide) (by decide) rfl (by decide) ?_
        refine zr_aload_n (pc := 53) (zq_d eX10_count 9 rfl) 0 rfl rfl ?_
        refine zr_getC (pc := 54) (zq_d eX10_count 10 rfl) zf_RX10_12 (kx_0_0 j) ?_
        refine zr_getI (pc := 57) (zq_d eX10_count 11 rfl) zf_RX10_230 (kx_1_11 j) ?_
        exact zr_ireturn (pc := 60) (zq_d eX10_count 12 rfl) rfl rfl (Nat.zero_le _) (Nat.zero_le _)
      · refine zr_cs (fun q4 => ?_) (fun q4 => ?_)
        · refine zr_tab (pc := 1) (n := 3) 61 (zq_d eX10_count 1 rfl) q4 (by decide) (by decide) (by decide) rfl (by decide) ?_
          refine zr_aload_n (pc := 61) (zq_d eX10_count 13 rfl) 0 rfl rfl ?_
          refine zr_getC (pc := 62) (zq_d eX10_count 14 rfl) zf_RX10_12 (kx_0_0 j) ?_
          refine zr_getI (pc := 65) (zq_d eX10_count 15 rfl) zf_RX10_248 (kx_1_13 j) ?_
          exact zr_ireturn (pc := 68) (zq_d eX10_count 16 rfl) rfl rfl (Nat.zero_le _) (Nat.zero_le _)
        · refine zr_cs (fun q5 => ?_) (fun q5 => ?_)
          · refine zr_tab (pc := 1) (n := 4) 69 (zq_d eX10_count 1 rfl) q5 (by decide) (by decide) (by decide) rfl (by decide) ?_
            refine zr_aload_n (pc := 69) (zq_d eX10_count 17 rfl) 0 rfl rfl ?_
            refine zr_getI (pc := 70) (zq_d eX10_count 18 rfl) zf_RX10_148 (kx_0_4 j) ?_
            exact zr_ireturn (pc := 73) (zq_d eX10_count 19 rfl) rfl rfl (Nat.zero_le _) (Nat.zero_le _)
          · refine zr_cs (fun q6 => ?_) (fun q6 => ?_)
            · refine zr_tab (pc := 1) (n := 5) 74 (zq_d eX10_count 1 rfl) q6 (by decide) (by decide) (by decide) rfl (by decide) ?_
              refine zr_aload_n (pc := 74) (zq_d eX10_count 20 rfl) 0 rfl rfl ?_
              refine zr_getC (pc := 75) (zq_d eX10_count 21 rfl) zf_RX10_87 (kx_0_14 j) ?_
              refine zr_getI (pc := 78) (zq_d eX10_count 22 rfl) zf_RX10_295 (kx_54_1 j) ?_
              exact zr_ireturn (pc := 81) (zq_d eX10_count 23 rfl) rfl rfl (Nat.zero_le _) (Nat.zero_le _)
            · refine zr_tabD (pc := 1) 82 (zq_d eX10_count 1 rfl) (by have t0 := zq_nt (n := 0) (by decide) q1; have t1 := zq_nt (n := 1) (by decide) q2; have t2 := zq_nt (n := 2) (by decide) q3; have t3 := zq_nt (n := 3) (by decide) q4; have t4 := zq_nt (n := 4) (by decide) q5; have t5 := zq_nt (n := 5) (by decide) q6; omega) (by decide) ?_
              refine zr_bipush (pc := 82) (zq_d eX10_count 24 rfl) zc_bm2 ?_
              exact zr_ireturn (pc := 84) (zq_d eX10_count 25 rfl) rfl rfl (Nat.zero_le _) (Nat.zero_le _)
def f_X10_tape (N j : Nat) (X : zq_M) (a1 : Int32) (a2 : Int32) (a3 : Int32) : Option (Int32 × zq_M) :=
  (f_X10_isTape N j X a1).bind (fun v1 => if ¬ v1 = 0 then (if ¬ a2 = (-1 : Int32) then ((f_X10_isFromTo N j X a2 (0 : Int32) (4 : Int32)).bind (fun v2 => if v2 = 0 then (some ((-2 : Int32), X)) else (if a3 ≤ (60 : Int32) then (if 0 ≤ a3 then (zq_ck a1 6 (zq_nn (X.2.2 56 (zq_ix a1)) (zq_ta (zq_shX j)) (fun h3 => (f_X7_holdZeros N j X h3 a2 a3).bind (fun X4 => some ((1 : Int32), X4))))) else (some ((-14 : Int32), X))) else (some ((-2 : Int32), X))))) else (zq_ck a1 6 (zq_nn (X.2.2 56 (zq_ix a1)) (zq_ta (zq_shX j)) (fun h5 => (f_X7_holdNothing N j X h5).bind (fun X6 => some ((1 : Int32), X6)))))) else (some ((-1 : Int32), X)))
set_option maxRecDepth 20000 in
set_option maxHeartbeats 8000000 in
theorem s_X10_tape (G : zq_G) (N z j : Nat) (X : zq_M) (a1 : Int32) (a2 : Int32) (a3 : Int32) : zq_V G YX10_tape (3, 0, 0) (zq_si (zq_shX j) z) 0 0 0 (lv_args 0 [.ref (zq_ad G 0), .int a1, .int a2, .int a3]) [] (zq_shX j) z X (f_X10_tape N j X a1 a2 a3) := by
  unfold f_X10_tape
  refine zr_lo (l2 := [(0, .ref (zq_ad G 0)), (1, .int a1), (2, .int a2), (3, .int a3)]) [0, 1, 2, 3] rfl ?_
  refine zr_iload_n (pc := 0) (zq_d eX10_tape 0 rfl) 1 rfl rfl ?_
  refine zr_Si (pc := 1) [_] (zq_d eX10_tape 1 rfl) (s_X10_isTape G N z j X _) zd_X10_isTape zl_RX10_261 rfl rfl (Nat.le_of_ble_eq_true rfl) (Nat.le_of_ble_eq_true rfl) (Nat.le_of_ble_eq_true rfl) ⟨Nat.le_refl _, Nat.le_refl _⟩ (fun v1 => ?_)
  refine zr_if_ne (pc := 4) 9 (zq_d eX10_tape 2 rfl) (by decide) (fun _ => ?_) (fun _ => ?_)
  · refine zr_iload_n (pc := 9) (zq_d eX10_tape 5 rfl) 2 rfl rfl ?_
    refine zr_iconst (pc := 10) (zq_d eX10_tape 6 rfl) zc_im1 ?_
    refine zr_icmp_ne (pc := 11) 25 (zq_d eX10_tape 7 rfl) (by decide) (fun _ => ?_) (fun _ => ?_)
    · refine zr_iload_n (pc := 25) (zq_d eX10_tape 15 rfl) 2 rfl rfl ?_
      refine zr_iconst (pc := 26) (zq_d eX10_tape 16 rfl) zc_i0 ?_
      refine zr_iconst (pc := 27) (zq_d eX10_tape 17 rfl) zc_i4 ?_
      refine zr_Si (pc := 28) [_, _, _] (zq_d eX10_tape 18 rfl) (s_X10_isFromTo G N z j X _ _ _) zd_X10_isFromTo zl_RX10_98 rfl rfl (Nat.le_of_ble_eq_true rfl) (Nat.le_of_ble_eq_true rfl) (Nat.le_of_ble_eq_true rfl) ⟨Nat.le_refl _, Nat.le_refl _⟩ (fun v2 => ?_)
      refine zr_if_eq (pc := 31) 40 (zq_d eX10_tape 19 rfl) (by decide) (fun _ => ?_) (fun _ => ?_)
      · refine zr_bipush (pc := 40) (zq_d eX10_tape 23 rfl) zc_bm2 ?_
        exact zr_ireturn (pc := 42) (zq_d eX10_tape 24 rfl) rfl rfl (Nat.zero_le _) (Nat.zero_le _)
      · refine zr_iload_n (pc := 34) (zq_d eX10_tape 20 rfl) 3 rfl rfl ?_
        refine zr_bipush (pc := 35) (zq_d eX10_tape 21 rfl) zc_b60 ?_
        refine zr_icmp_le (pc := 37) 43 (zq_d eX10_tape 22 rfl) (by decide) (fun _ => ?_) (fun _ => ?_)
        · refine zr_iload_n (pc := 43) (zq_d eX10_tape 25 rfl) 3 rfl rfl ?_
          refine zr_if_ge (pc := 44) 50 (zq_d eX10_tape 26 rfl) (by decide) (fun _ => ?_) (fun _ => ?_)
          · refine zr_aload_n (pc := 50) (zq_d eX10_tape 29 rfl) 0 rfl rfl ?_
            refine zr_getC (pc := 51) (zq_d eX10_tape 30 rfl) zf_RX10_93 (kx_0_15 j) ?_
            refine zr_iload_n (pc := 54) (zq_d eX10_tape 31 rfl) 1 rfl rfl ?_
            refine zr_aald (pc := 55) (zq_d eX10_tape 32 rfl) (ax_56 j) rfl (fun _ _ _ => rfl) (fun h3 gh3 => ?_)
            refine zr_iload_n (pc := 56) (zq_d eX10_tape 33 rfl) 2 rfl rfl ?_
            refine zr_iload_n (pc := 57) (zq_d eX10_tape 34 rfl) 3 rfl rfl ?_
            refine zr_Vv (pc := 58) [_, _] (zq_d eX10_tape 35 rfl) (s_X7_holdZeros G N z j X h3 gh3 _ _) zd_X7_holdZeros zl_RX10_301 (zq_ta_s gh3) rfl rfl rfl rfl (Nat.le_of_ble_eq_true rfl) (Nat.le_of_ble_eq_true rfl) (Nat.le_of_ble_eq_true rfl) ⟨Nat.le_refl _, Nat.le_refl _⟩ (fun X4 => ?_)
            refine zr_iconst (pc := 61) (zq_d eX10_tape 36 rfl) zc_i1 ?_
            exact zr_ireturn (pc := 62) (zq_d eX10_tape 37 rfl) rfl rfl (Nat.zero_le _) (Nat.zero_le _)
          · refine zr_bipush (pc := 47) (zq_d eX10_tape 27 rfl) zc_bm14 ?_
            exact zr_ireturn (pc := 49) (zq_d eX10_tape 28 rfl) rfl rfl (Nat.zero_le _) (Nat.zero_le _)
        · refine zr_bipush (pc := 40) (zq_d eX10_tape 23 rfl) zc_bm2 ?_
          exact zr_ireturn (pc := 42) (zq_d eX10_tape 24 rfl) rfl rfl (Nat.zero_le _) (Nat.zero_le _)
    · refine zr_aload_n (pc := 14) (zq_d eX10_tape 8 rfl) 0 rfl rfl ?_
      refine zr_getC (pc := 15) (zq_d eX10_tape 9 rfl) zf_RX10_93 (kx_0_15 j) ?_
      refine zr_iload_n (pc := 18) (zq_d eX10_tape 10 rfl) 1 rfl rfl ?_
      refine zr_aald (pc := 19) (zq_d eX10_tape 11 rfl) (ax_56 j) rfl (fun _ _ _ => rfl) (fun h5 gh5 => ?_)
      refine zr_Vv (pc := 20) [] (zq_d eX10_tape 12 rfl) (s_X7_holdNothing G N z j X h5 gh5) zd_X7_holdNothing zl_RX10_298 (zq_ta_s gh5) rfl rfl rfl rfl (Nat.le_of_ble_eq_true rfl) (Nat.le_of_ble_eq_true rfl) (Nat.le_of_ble_eq_true rfl) ⟨Nat.le_refl _, Nat.le_refl _⟩ (fun X6 => ?_)
      refine zr_iconst (pc := 23) (zq_d eX10_tape 13 rfl) zc_i1 ?_
      exact zr_ireturn (pc := 24) (zq_d eX10_tape 14 rfl) rfl rfl (Nat.zero_le _) (Nat.zero_le _)
  · refine zr_iconst (pc := 7) (zq_d eX10_tape 3 rfl) zc_im1 ?_
    exact zr_ireturn (pc := 8) (zq_d eX10_tape 4 rfl) rfl rfl (Nat.zero_le _) (Nat.zero_le _)
def f_X10_item (N j : Nat) (X : zq_M) (a1 : Int32) (a2 : Int32) (a3 : Int64) : Option (Int32 × zq_M) :=
  (f_X10_isTape N j X a1).bind (fun v1 => if ¬ v1 = 0 then (zq_ck a1 6 (zq_nn (X.2.2 56 (zq_ix a1)) (zq_ta (zq_shX j)) (fun h2 => (f_X7_holdsRow N j X h2).bind (fun v3 => if ¬ v3 = 0 then ((f_X7_hasPlace N j X h2 a2).bind (fun v4 => if ¬ v4 = 0 then ((f_X7_put N j X h2 a2 a3).bind (fun X5 => some ((1 : Int32), X5))) else (some ((-13 : Int32), X)))) else (some ((-11 : Int32), X)))))) else (some ((-1 : Int32), X)))
set_option maxRecDepth 20000 in
set_option maxHeartbeats 8000000 in
theorem s_X10_item (G : zq_G) (N z j : Nat) (X : zq_M) (a1 : Int32) (a2 : Int32) (a3 : Int64) : zq_V G YX10_item (3, 0, 0) (zq_si (zq_shX j) z) 0 0 0 (lv_args 0 [.ref (zq_ad G 0), .int a1, .int a2, .long a3]) [] (zq_shX j) z X (f_X10_item N j X a1 a2 a3) := by
  unfold f_X10_item
  refine zr_lo (l2 := [(0, .ref (zq_ad G 0)), (1, .int a1), (2, .int a2), (3, .long a3)]) [0, 1, 2, 3] rfl ?_
  refine zr_iload_n (pc := 0) (zq_d eX10_item 0 rfl) 1 rfl rfl ?_
  refine zr_Si (pc := 1) [_] (zq_d eX10_item 1 rfl) (s_X10_isTape G N z j X _) zd_X10_isTape zl_RX10_261 rfl rfl (Nat.le_of_ble_eq_true rfl) (Nat.le_of_ble_eq_true rfl) (Nat.le_of_ble_eq_true rfl) ⟨Nat.le_refl _, Nat.le_refl _⟩ (fun v1 => ?_)
  refine zr_if_ne (pc := 4) 9 (zq_d eX10_item 2 rfl) (by decide) (fun _ => ?_) (fun _ => ?_)
  · refine zr_aload_n (pc := 9) (zq_d eX10_item 5 rfl) 0 rfl rfl ?_
    refine zr_getC (pc := 10) (zq_d eX10_item 6 rfl) zf_RX10_93 (kx_0_15 j) ?_
    refine zr_iload_n (pc := 13) (zq_d eX10_item 7 rfl) 1 rfl rfl ?_
    refine zr_aald (pc := 14) (zq_d eX10_item 8 rfl) (ax_56 j) rfl (fun _ _ _ => rfl) (fun h2 gh2 => ?_)
    refine zr_astore (pc := 15) (lo2 := [(5, .ref (zq_ad G h2)), (0, .ref (zq_ad G 0)), (1, .int a1), (2, .int a2), (3, .long a3)]) (zq_d eX10_item 9 rfl) (Nat.le_of_ble_eq_true rfl) rfl ?_
    refine zr_aload (pc := 17) (zq_d eX10_item 10 rfl) 0 rfl ?_
    refine zr_Vi (pc := 19) [] (zq_d eX10_item 11 rfl) (s_X7_holdsRow G N z j X h2 gh2) zd_X7_holdsRow zl_RX10_264 (zq_ta_s gh2) rfl rfl rfl rfl (Nat.le_of_ble_eq_true rfl) (Nat.le_of_ble_eq_true rfl) (Nat.le_of_ble_eq_true rfl) ⟨Nat.le_refl _, Nat.le_refl _⟩ (fun v3 => ?_)
    refine zr_if_ne (pc := 22) 28 (zq_d eX10_item 12 rfl) (by decide) (fun _ => ?_) (fun _ => ?_)
    · refine zr_aload (pc := 28) (zq_d eX10_item 15 rfl) 0 rfl ?_
      refine zr_iload_n (pc := 30) (zq_d eX10_item 16 rfl) 3 rfl rfl ?_
      refine zr_Vi (pc := 31) [_] (zq_d eX10_item 17 rfl) (s_X7_hasPlace G N z j X h2 gh2 _) zd_X7_hasPlace zl_RX10_305 (zq_ta_s gh2) rfl rfl rfl rfl (Nat.le_of_ble_eq_true rfl) (Nat.le_of_ble_eq_true rfl) (Nat.le_of_ble_eq_true rfl) ⟨Nat.le_refl _, Nat.le_refl _⟩ (fun v4 => ?_)
      refine zr_if_ne (pc := 34) 40 (zq_d eX10_item 18 rfl) (by decide) (fun _ => ?_) (fun _ => ?_)
      · refine zr_aload (pc := 40) (zq_d eX10_item 21 rfl) 0 rfl ?_
        refine zr_iload_n (pc := 42) (zq_d eX10_item 22 rfl) 3 rfl rfl ?_
        refine zr_lload_n (pc := 43) (zq_d eX10_item 23 rfl) 4 rfl rfl ?_
        refine zr_Vv (pc := 44) [_, _] (zq_d eX10_item 24 rfl) (s_X7_put G N z j X h2 gh2 _ _) zd_X7_put zl_RX10_308 (zq_ta_s gh2) rfl rfl rfl rfl (Nat.le_of_ble_eq_true rfl) (Nat.le_of_ble_eq_true rfl) (Nat.le_of_ble_eq_true rfl) ⟨Nat.le_refl _, Nat.le_refl _⟩ (fun X5 => ?_)
        refine zr_iconst (pc := 47) (zq_d eX10_item 25 rfl) zc_i1 ?_
        exact zr_ireturn (pc := 48) (zq_d eX10_item 26 rfl) rfl rfl (Nat.zero_le _) (Nat.zero_le _)
      · refine zr_bipush (pc := 37) (zq_d eX10_item 19 rfl) zc_bm13 ?_
        exact zr_ireturn (pc := 39) (zq_d eX10_item 20 rfl) rfl rfl (Nat.zero_le _) (Nat.zero_le _)
    · refine zr_bipush (pc := 25) (zq_d eX10_item 13 rfl) zc_bm11 ?_
      exact zr_ireturn (pc := 27) (zq_d eX10_item 14 rfl) rfl rfl (Nat.zero_le _) (Nat.zero_le _)
  · refine zr_iconst (pc := 7) (zq_d eX10_item 3 rfl) zc_im1 ?_
    exact zr_ireturn (pc := 8) (zq_d eX10_item 4 rfl) rfl rfl (Nat.zero_le _) (Nat.zero_le _)
def f_X10_read (N j : Nat) (X : zq_M) (a1 : Int32) (a2 : Int32) : Option Int64 :=
  (f_X10_isTape N j X a1).bind (fun v1 => if v1 = 0 then (some (-9223372036854775808 : Int64)) else (zq_ck a1 6 (zq_nn (X.2.2 56 (zq_ix a1)) (zq_ta (zq_shX j)) (fun h2 => (f_X7_hasPlace N j X h2 a2).bind (fun v3 => if ¬ v3 = 0 then (zq_ck a1 6 (zq_nn (X.2.2 56 (zq_ix a1)) (zq_ta (zq_shX j)) (fun h4 => zq_ck a2 60 (some (X.2.1 (h4 + 1) (zq_ix a2)))))) else (some (-9223372036854775808 : Int64)))))))
set_option maxRecDepth 20000 in
set_option maxHeartbeats 8000000 in
theorem s_X10_read (G : zq_G) (N z j : Nat) (X : zq_M) (a1 : Int32) (a2 : Int32) : zq_V G YX10_read (3, 0, 0) (zq_el (zq_shX j) z X) 0 0 0 (lv_args 0 [.ref (zq_ad G 0), .int a1, .int a2]) [] (zq_shX j) z X (f_X10_read N j X a1 a2) := by
  unfold f_X10_read
  refine zr_lo (l2 := [(0, .ref (zq_ad G 0)), (1, .int a1), (2, .int a2)]) [0, 1, 2] rfl ?_
  refine zr_iload_n (pc := 0) (zq_d eX10_read 0 rfl) 1 rfl rfl ?_
  refine zr_Si (pc := 1) [_] (zq_d eX10_read 1 rfl) (s_X10_isTape G N z j X _) zd_X10_isTape zl_RX10_261 rfl rfl (Nat.le_of_ble_eq_true rfl) (Nat.le_of_ble_eq_true rfl) (Nat.le_of_ble_eq_true rfl) ⟨Nat.le_refl _, Nat.le_refl _⟩ (fun v1 => ?_)
  refine zr_if_eq (pc := 4) 20 (zq_d eX10_read 2 rfl) (by decide) (fun _ => ?_) (fun _ => ?_)
  · refine zr_ldc2 (pc := 20) (zq_d eX10_read 10 rfl) zk_RX10_242 ?_
    exact zr_lreturn (pc := 23) (zq_d eX10_read 11 rfl) rfl rfl (Nat.zero_le _) (Nat.zero_le _)
  · refine zr_aload_n (pc := 7) (zq_d eX10_read 3 rfl) 0 rfl rfl ?_
    refine zr_getC (pc := 8) (zq_d eX10_read 4 rfl) zf_RX10_93 (kx_0_15 j) ?_
    refine zr_iload_n (pc := 11) (zq_d eX10_read 5 rfl) 1 rfl rfl ?_
    refine zr_aald (pc := 12) (zq_d eX10_read 6 rfl) (ax_56 j) rfl (fun _ _ _ => rfl) (fun h2 gh2 => ?_)
    refine zr_iload_n (pc := 13) (zq_d eX10_read 7 rfl) 2 rfl rfl ?_
    refine zr_Vi (pc := 14) [_] (zq_d eX10_read 8 rfl) (s_X7_hasPlace G N z j X h2 gh2 _) zd_X7_hasPlace zl_RX10_305 (zq_ta_s gh2) rfl rfl rfl rfl (Nat.le_of_ble_eq_true rfl) (Nat.le_of_ble_eq_true rfl) (Nat.le_of_ble_eq_true rfl) ⟨Nat.le_refl _, Nat.le_refl _⟩ (fun v3 => ?_)
    refine zr_if_ne (pc := 17) 24 (zq_d eX10_read 9 rfl) (by decide) (fun _ => ?_) (fun _ => ?_)
    · refine zr_aload_n (pc := 24) (zq_d eX10_read 12 rfl) 0 rfl rfl ?_
      refine zr_getC (pc := 25) (zq_d eX10_read 13 rfl) zf_RX10_93 (kx_0_15 j) ?_
      refine zr_iload_n (pc := 28) (zq_d eX10_read 14 rfl) 1 rfl rfl ?_
      refine zr_aald (pc := 29) (zq_d eX10_read 15 rfl) (ax_56 j) rfl (fun _ _ _ => rfl) (fun h4 gh4 => ?_)
      refine zr_getC (pc := 30) (zq_d eX10_read 16 rfl) zf_RX10_312 (zq_ta_k2 gh4) ?_
      refine zr_iload_n (pc := 33) (zq_d eX10_read 17 rfl) 2 rfl rfl ?_
      refine zr_lald (pc := 34) (zq_d eX10_read 18 rfl) (zq_ta_a1 gh4) ?_
      exact zr_lreturn (pc := 35) (zq_d eX10_read 19 rfl) rfl rfl (Nat.zero_le _) (Nat.zero_le _)
    · refine zr_ldc2 (pc := 20) (zq_d eX10_read 10 rfl) zk_RX10_242 ?_
      exact zr_lreturn (pc := 23) (zq_d eX10_read 11 rfl) rfl rfl (Nat.zero_le _) (Nat.zero_le _)
def f_X10_shift (N j : Nat) (X : zq_M) (a1 : Int32) (a2 : Int32) (a3 : Int32) (a4 : Int32) (a5 : Int32) : Option (Int32 × zq_M) :=
  (f_X10_isTape N j X a1).bind (fun v1 => if v1 = 0 then (some ((-1 : Int32), X)) else ((f_X10_isTape N j X a3).bind (fun v2 => if ¬ v2 = 0 then (zq_ck a1 6 (zq_nn (X.2.2 56 (zq_ix a1)) (zq_ta (zq_shX j)) (fun h3 => zq_ck a3 6 (zq_nn (X.2.2 56 (zq_ix a3)) (zq_ta (zq_shX j)) (fun h4 => (f_X7_holdsRow N j X h3).bind (fun v5 => if v5 = 0 then (some ((-11 : Int32), X)) else ((f_X7_holdsRow N j X h4).bind (fun v6 => if ¬ v6 = 0 then (if (X.1 h3 0) = (X.1 h4 0) then ((f_X7_hasPart N j X h3 a2 a5).bind (fun v7 => if v7 = 0 then (some ((-13 : Int32), X)) else ((f_X7_hasPart N j X h4 a4 a5).bind (fun v8 => if ¬ v8 = 0 then (zq_ac a2 a4 a5 60 60 (zq_b (zq_cp2 X (h3 + 1) a2 (h4 + 1) a4 a5) (fun X9 => some (a5, X9)))) else (some ((-13 : Int32), X)))))) else (some ((-12 : Int32), X))) else (some ((-11 : Int32), X)))))))))) else (some ((-1 : Int32), X)))))
set_option maxRecDepth 20000 in
set_option maxHeartbeats 8000000 in
theorem s_X10_shift (G : zq_G) (N z j : Nat) (X : zq_M) (a1 : Int32) (a2 : Int32) (a3 : Int32) (a4 : Int32) (a5 : Int32) : zq_V G YX10_shift (3, 0, 0) (zq_si (zq_shX j) z) 0 0 0 (lv_args 0 [.ref (zq_ad G 0), .int a1, .int a2, .int a3, .int a4, .int a5]) [] (zq_shX j) z X (f_X10_shift N j X a1 a2 a3 a4 a5) := by
  unfold f_X10_shift
  refine zr_lo (l2 := [(0, .ref (zq_ad G 0)), (1, .int a1), (2, .int a2), (3, .int a3), (4, .int a4), (5, .int a5)]) [0, 1, 2, 3, 4, 5] rfl ?_
  refine zr_iload_n (pc := 0) (zq_d eX10_shift 0 rfl) 1 rfl rfl ?_
  refine zr_Si (pc := 1) [_] (zq_d eX10_shift 1 rfl) (s_X10_isTape G N z j X _) zd_X10_isTape zl_RX10_261 rfl rfl (Nat.le_of_ble_eq_true rfl) (Nat.le_of_ble_eq_true rfl) (Nat.le_of_ble_eq_true rfl) ⟨Nat.le_refl _, Nat.le_refl _⟩ (fun v1 => ?_)
  refine zr_if_eq (pc := 4) 14 (zq_d eX10_shift 2 rfl) (by decide) (fun _ => ?_) (fun _ => ?_)
  · refine zr_iconst (pc := 14) (zq_d eX10_shift 6 rfl) zc_im1 ?_
    exact zr_ireturn (pc := 15) (zq_d eX10_shift 7 rfl) rfl rfl (Nat.zero_le _) (Nat.zero_le _)
  · refine zr_iload_n (pc := 7) (zq_d eX10_shift 3 rfl) 3 rfl rfl ?_
    refine zr_Si (pc := 8) [_] (zq_d eX10_shift 4 rfl) (s_X10_isTape G N z j X _) zd_X10_isTape zl_RX10_261 rfl rfl (Nat.le_of_ble_eq_true rfl) (Nat.le_of_ble_eq_true rfl) (Nat.le_of_ble_eq_true rfl) ⟨Nat.le_refl _, Nat.le_refl _⟩ (fun v2 => ?_)
    refine zr_if_ne (pc := 11) 16 (zq_d eX10_shift 5 rfl) (by decide) (fun _ => ?_) (fun _ => ?_)
    · refine zr_aload_n (pc := 16) (zq_d eX10_shift 8 rfl) 0 rfl rfl ?_
      refine zr_getC (pc := 17) (zq_d eX10_shift 9 rfl) zf_RX10_93 (kx_0_15 j) ?_
      refine zr_iload_n (pc := 20) (zq_d eX10_shift 10 rfl) 1 rfl rfl ?_
      refine zr_aald (pc := 21) (zq_d eX10_shift 11 rfl) (ax_56 j) rfl (fun _ _ _ => rfl) (fun h3 gh3 => ?_)
      refine zr_astore (pc := 22) (lo2 := [(6, .ref (zq_ad G h3)), (0, .ref (zq_ad G 0)), (1, .int a1), (2, .int a2), (3, .int a3), (4, .int a4), (5, .int a5)]) (zq_d eX10_shift 12 rfl) (Nat.le_of_ble_eq_true rfl) rfl ?_
      refine zr_aload_n (pc := 24) (zq_d eX10_shift 13 rfl) 1 rfl rfl ?_
      refine zr_getC (pc := 25) (zq_d eX10_shift 14 rfl) zf_RX10_93 (kx_0_15 j) ?_
      refine zr_iload_n (pc := 28) (zq_d eX10_shift 15 rfl) 4 rfl rfl ?_
      refine zr_aald (pc := 29) (zq_d eX10_shift 16 rfl) (ax_56 j) rfl (fun _ _ _ => rfl) (fun h4 gh4 => ?_)
      refine zr_astore (pc := 30) (lo2 := [(7, .ref (zq_ad G h4)), (6, .ref (zq_ad G h3)), (0, .ref (zq_ad G 0)), (1, .int a1), (2, .int a2), (3, .int a3), (4, .int a4), (5, .int a5)]) (zq_d eX10_shift 17 rfl) (Nat.le_of_ble_eq_true rfl) rfl ?_
      refine zr_aload (pc := 32) (zq_d eX10_shift 18 rfl) 1 rfl ?_
      refine zr_Vi (pc := 34) [] (zq_d eX10_shift 19 rfl) (s_X7_holdsRow G N z j X h3 gh3) zd_X7_holdsRow zl_RX10_264 (zq_ta_s gh3) rfl rfl rfl rfl (Nat.le_of_ble_eq_true rfl) (Nat.le_of_ble_eq_true rfl) (Nat.le_of_ble_eq_true rfl) ⟨Nat.le_refl _, Nat.le_refl _⟩ (fun v5 => ?_)
      refine zr_if_eq (pc := 37) 48 (zq_d eX10_shift 20 rfl) (by decide) (fun _ => ?_) (fun _ => ?_)
      · refine zr_bipush (pc := 48) (zq_d eX10_shift 24 rfl) zc_bm11 ?_
        exact zr_ireturn (pc := 50) (zq_d eX10_shift 25 rfl) rfl rfl (Nat.zero_le _) (Nat.zero_le _)
      · refine zr_aload (pc := 40) (zq_d eX10_shift 21 rfl) 0 rfl ?_
        refine zr_Vi (pc := 42) [] (zq_d eX10_shift 22 rfl) (s_X7_holdsRow G N z j X h4 gh4) zd_X7_holdsRow zl_RX10_264 (zq_ta_s gh4) rfl rfl rfl rfl (Nat.le_of_ble_eq_true rfl) (Nat.le_of_ble_eq_true rfl) (Nat.le_of_ble_eq_true rfl) ⟨Nat.le_refl _, Nat.le_refl _⟩ (fun v6 => ?_)
        refine zr_if_ne (pc := 45) 51 (zq_d eX10_shift 23 rfl) (by decide) (fun _ => ?_) (fun _ => ?_)
        · refine zr_aload (pc := 51) (zq_d eX10_shift 26 rfl) 1 rfl ?_
          refine zr_getI (pc := 53) (zq_d eX10_shift 27 rfl) zf_RX10_268 (zq_ta_k0 gh3) ?_
          refine zr_aload (pc := 56) (zq_d eX10_shift 28 rfl) 0 rfl ?_
          refine zr_getI (pc := 58) (zq_d eX10_shift 29 rfl) zf_RX10_268 (zq_ta_k0 gh4) ?_
          refine zr_icmp_eq (pc := 61) 67 (zq_d eX10_shift 30 rfl) (by decide) (fun _ => ?_) (fun _ => ?_)
          · refine zr_aload (pc := 67) (zq_d eX10_shift 33 rfl) 1 rfl ?_
            refine zr_iload_n (pc := 69) (zq_d eX10_shift 34 rfl) 4 rfl rfl ?_
            refine zr_iload (pc := 70) (zq_d eX10_shift 35 rfl) 7 rfl ?_
            refine zr_Vi (pc := 72) [_, _] (zq_d eX10_shift 36 rfl) (s_X7_hasPart G N z j X h3 gh3 _ _) zd_X7_hasPart zl_RX10_316 (zq_ta_s gh3) rfl rfl rfl rfl (Nat.le_of_ble_eq_true rfl) (Nat.le_of_ble_eq_true rfl) (Nat.le_of_ble_eq_true rfl) ⟨Nat.le_refl _, Nat.le_refl _⟩ (fun v7 => ?_)
            refine zr_if_eq (pc := 75) 90 (zq_d eX10_shift 37 rfl) (by decide) (fun _ => ?_) (fun _ => ?_)
            · refine zr_bipush (pc := 90) (zq_d eX10_shift 43 rfl) zc_bm13 ?_
              exact zr_ireturn (pc := 92) (zq_d eX10_shift 44 rfl) rfl rfl (Nat.zero_le _) (Nat.zero_le _)
            · refine zr_aload (pc := 78) (zq_d eX10_shift 38 rfl) 0 rfl ?_
              refine zr_iload (pc := 80) (zq_d eX10_shift 39 rfl) 6 rfl ?_
              refine zr_iload (pc := 82) (zq_d eX10_shift 40 rfl) 7 rfl ?_
              refine zr_Vi (pc := 84) [_, _] (zq_d eX10_shift 41 rfl) (s_X7_hasPart G N z j X h4 gh4 _ _) zd_X7_hasPart zl_RX10_316 (zq_ta_s gh4) rfl rfl rfl rfl (Nat.le_of_ble_eq_true rfl) (Nat.le_of_ble_eq_true rfl) (Nat.le_of_ble_eq_true rfl) ⟨Nat.le_refl _, Nat.le_refl _⟩ (fun v8 => ?_)
              refine zr_if_ne (pc := 87) 93 (zq_d eX10_shift 42 rfl) (by decide) (fun _ => ?_) (fun _ => ?_)
              · refine zr_aload (pc := 93) (zq_d eX10_shift 45 rfl) 1 rfl ?_
                refine zr_getC (pc := 95) (zq_d eX10_shift 46 rfl) zf_RX10_312 (zq_ta_k2 gh3) ?_
                refine zr_iload_n (pc := 98) (zq_d eX10_shift 47 rfl) 4 rfl rfl ?_
                refine zr_aload (pc := 99) (zq_d eX10_shift 48 rfl) 0 rfl ?_
                refine zr_getC (pc := 101) (zq_d eX10_shift 49 rfl) zf_RX10_312 (zq_ta_k2 gh4) ?_
                refine zr_iload (pc := 104) (zq_d eX10_shift 50 rfl) 6 rfl ?_
                refine zr_iload (pc := 106) (zq_d eX10_shift 51 rfl) 7 rfl ?_
                refine zr_cpl (pc := 108) (zq_d eX10_shift 52 rfl) zl_RX10_319 (zq_ta_a1 gh3) (zq_ta_a1 gh4) (Nat.le_of_ble_eq_true rfl) (Nat.le_of_ble_eq_true rfl) (fun X9 => ?_)
                refine zr_iload (pc := 111) (zq_d eX10_shift 53 rfl) 7 rfl ?_
                exact zr_ireturn (pc := 113) (zq_d eX10_shift 54 rfl) rfl rfl (Nat.zero_le _) (Nat.zero_le _)
              · refine zr_bipush (pc := 90) (zq_d eX10_shift 43 rfl) zc_bm13 ?_
                exact zr_ireturn (pc := 92) (zq_d eX10_shift 44 rfl) rfl rfl (Nat.zero_le _) (Nat.zero_le _)
          · refine zr_bipush (pc := 64) (zq_d eX10_shift 31 rfl) zc_bm12 ?_
            exact zr_ireturn (pc := 66) (zq_d eX10_shift 32 rfl) rfl rfl (Nat.zero_le _) (Nat.zero_le _)
        · refine zr_bipush (pc := 48) (zq_d eX10_shift 24 rfl) zc_bm11 ?_
          exact zr_ireturn (pc := 50) (zq_d eX10_shift 25 rfl) rfl rfl (Nat.zero_le _) (Nat.zero_le _)
    · refine zr_iconst (pc := 14) (zq_d eX10_shift 6 rfl) zc_im1 ?_
      exact zr_ireturn (pc := 15) (zq_d eX10_shift 7 rfl) rfl rfl (Nat.zero_le _) (Nat.zero_le _)
