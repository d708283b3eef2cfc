def f_J6_bitCount_0f7a4 (N : Nat) (sh : zq_H) (X : zq_M) (a1 : Int32) : Option Int32 :=
  zq_b (a1 - ((zq_ushr a1 (1 : Int32)) &&& (1431655765 : Int32))) (fun v1 => zq_b ((v1 &&& (858993459 : Int32)) + ((zq_ushr v1 (2 : Int32)) &&& (858993459 : Int32))) (fun v2 => zq_b ((v2 + (zq_ushr v2 (4 : Int32))) &&& (252645135 : Int32)) (fun v3 => zq_b ((v3 + (zq_ushr v3 (8 : Int32))) + (zq_ushr (v3 + (zq_ushr v3 (8 : Int32))) (16 : Int32))) (fun v4 => some (v4 &&& (63 : Int32))))))
set_option maxRecDepth 20000 in
set_option maxHeartbeats 8000000 in
theorem s_J6_bitCount_0f7a4 (G : zq_G) (N z : Nat) (sh : zq_H) (X : zq_M) (a1 : Int32) : zq_V G YJ6_bitCount_0f7a4 (1, 0, 0) (zq_ei sh z X) 0 0 0 (lv_args 0 [.int a1]) [] sh z X (f_J6_bitCount_0f7a4 N sh X a1) := by
  unfold f_J6_bitCount_0f7a4
  refine zr_lo (l2 := [(0, .int a1)]) [0] rfl ?_
  refine zr_iload_n (pc := 0) (zq_d eJ6_bitCount_0f7a4 0 rfl) 0 rfl rfl ?_
  refine zr_iload_n (pc := 1) (zq_d eJ6_bitCount_0f7a4 1 rfl) 0 rfl rfl ?_
  refine zr_iconst (pc := 2) (zq_d eJ6_bitCount_0f7a4 2 rfl) zc_i1 ?_
  refine zr_iushr (pc := 3) (zq_d eJ6_bitCount_0f7a4 3 rfl) ?_
  refine zr_ldcw (pc := 4) (zq_d eJ6_bitCount_0f7a4 4 rfl) zk_RJ6_265 ?_
  refine zr_iand (pc := 7) (zq_d eJ6_bitCount_0f7a4 5 rfl) ?_
  refine zr_isub (pc := 8) (zq_d eJ6_bitCount_0f7a4 6 rfl) ?_
  refine zr_nm (fun v1 => ?_)
  refine zr_istore_n (pc := 9) (lo2 := [(0, .int v1)]) (zq_d eJ6_bitCount_0f7a4 7 rfl) rfl (Nat.le_of_ble_eq_true rfl) rfl ?_
  refine zr_iload_n (pc := 10) (zq_d eJ6_bitCount_0f7a4 8 rfl) 0 rfl rfl ?_
  refine zr_ldcw (pc := 11) (zq_d eJ6_bitCount_0f7a4 9 rfl) zk_RJ6_266 ?_
  refine zr_iand (pc := 14) (zq_d eJ6_bitCount_0f7a4 10 rfl) ?_
  refine zr_iload_n (pc := 15) (zq_d eJ6_bitCount_0f7a4 11 rfl) 0 rfl rfl ?_
  refine zr_iconst (pc := 16) (zq_d eJ6_bitCount_0f7a4 12 rfl) zc_i2 ?_
  refine zr_iushr (pc := 17) (zq_d eJ6_bitCount_0f7a4 13 rfl) ?_
  refine zr_ldcw (pc := 18) (zq_d eJ6_bitCount_0f7a4 14 rfl) zk_RJ6_266 ?_
  refine zr_iand (pc := 21) (zq_d eJ6_bitCount_0f7a4 15 rfl) ?_
  refine zr_iadd (pc := 22) (zq_d eJ6_bitCount_0f7a4 16 rfl) ?_
  refine zr_nm (fun v2 => ?_)
  refine zr_istore_n (pc := 23) (lo2 := [(0, .int v2)]) (zq_d eJ6_bitCount_0f7a4 17 rfl) rfl (Nat.le_of_ble_eq_true rfl) rfl ?_
  refine zr_iload_n (pc := 24) (zq_d eJ6_bitCount_0f7a4 18 rfl) 0 rfl rfl ?_
  refine zr_iload_n (pc := 25) (zq_d eJ6_bitCount_0f7a4 19 rfl) 0 rfl rfl ?_
  refine zr_iconst (pc := 26) (zq_d eJ6_bitCount_0f7a4 20 rfl) zc_i4 ?_
  refine zr_iushr (pc := 27) (zq_d eJ6_bitCount_0f7a4 21 rfl) ?_
  refine zr_iadd (pc := 28) (zq_d eJ6_bitCount_0f7a4 22 rfl) ?_
  refine zr_ldcw (pc := 29) (zq_d eJ6_bitCount_0f7a4 23 rfl) zk_RJ6_267 ?_
  refine zr_iand (pc := 32) (zq_d eJ6_bitCount_0f7a4 24 rfl) ?_
  refine zr_nm (fun v3 => ?_)
  refine zr_istore_n (pc := 33) (lo2 := [(0, .int v3)]) (zq_d eJ6_bitCount_0f7a4 25 rfl) rfl (Nat.le_of_ble_eq_true rfl) rfl ?_
  refine zr_iload_n (pc := 34) (zq_d eJ6_bitCount_0f7a4 26 rfl) 0 rfl rfl ?_
  refine zr_iload_n (pc := 35) (zq_d eJ6_bitCount_0f7a4 27 rfl) 0 rfl rfl ?_
  refine zr_bipush (pc := 36) (zq_d eJ6_bitCount_0f7a4 28 rfl) zc_b8 ?_
  refine zr_iushr (pc := 38) (zq_d eJ6_bitCount_0f7a4 29 rfl) ?_
  refine zr_iadd (pc := 39) (zq_d eJ6_bitCount_0f7a4 30 rfl) ?_
  refine zr_istore_n (pc := 40) (lo2 := [(0, .int (v3 + (zq_ushr v3 (8 : Int32))))]) (zq_d eJ6_bitCount_0f7a4 31 rfl) rfl (Nat.le_of_ble_eq_true rfl) rfl ?_
  refine zr_iload_n (pc := 41) (zq_d eJ6_bitCount_0f7a4 32 rfl) 0 rfl rfl ?_
  refine zr_iload_n (pc := 42) (zq_d eJ6_bitCount_0f7a4 33 rfl) 0 rfl rfl ?_
  refine zr_bipush (pc := 43) (zq_d eJ6_bitCount_0f7a4 34 rfl) zc_b16 ?_
  refine zr_iushr (pc := 45) (zq_d eJ6_bitCount_0f7a4 35 rfl) ?_
  refine zr_iadd (pc := 46) (zq_d eJ6_bitCount_0f7a4 36 rfl) ?_
  refine zr_nm (fun v4 => ?_)
  refine zr_istore_n (pc := 47) (lo2 := [(0, .int v4)]) (zq_d eJ6_bitCount_0f7a4 37 rfl) rfl (Nat.le_of_ble_eq_true rfl) rfl ?_
  refine zr_iload_n (pc := 48) (zq_d eJ6_bitCount_0f7a4 38 rfl) 0 rfl rfl ?_
  refine zr_bipush (pc := 49) (zq_d eJ6_bitCount_0f7a4 39 rfl) zc_b63 ?_
  refine zr_iand (pc := 51) (zq_d eJ6_bitCount_0f7a4 40 rfl) ?_
  exact zr_ireturn (pc := 52) (zq_d eJ6_bitCount_0f7a4 41 rfl) rfl rfl (Nat.zero_le _) (Nat.zero_le _)
def f_J0_coder_7d493 (N : Nat) (sh : zq_H) (X : zq_M) (i : Nat) : Option Int32 :=
  some (0 : Int32)
set_option maxRecDepth 20000 in
set_option maxHeartbeats 8000000 in
theorem s_J0_coder_7d493 (G : zq_G) (N z : Nat) (sh : zq_H) (X : zq_M) (i : Nat) (gi : i < 7) : zq_V G YJ0_coder_7d493 (1, 0, 0) (zq_ei sh z X) 0 0 0 (lv_args 0 [.ref (G.2.2.2.2.2.2.1 i)]) [] sh z X (f_J0_coder_7d493 N sh X i) := by
  unfold f_J0_coder_7d493
  refine zr_lo (l2 := [(0, .ref (G.2.2.2.2.2.2.1 i))]) [0] rfl ?_
  refine zr_gsC (pc := 0) (zq_d eJ0_coder_7d493 0 rfl) zg_RJ0_38 ?_
  refine zr_iff_eq (pc := 3) 13 (zq_d eJ0_coder_7d493 1 rfl) (by decide) (by decide) ?_
  refine zr_aload_n (pc := 6) (zq_d eJ0_coder_7d493 2 rfl) 0 rfl rfl ?_
  refine zr_scod (pc := 7) (zq_d eJ0_coder_7d493 3 rfl) zg_RJ0_15 gi ?_
  refine zr_goto (pc := 10) 14 (zq_d eJ0_coder_7d493 4 rfl) (by decide) ?_
  exact zr_zreturn (pc := 14) (zq_d eJ0_coder_7d493 6 rfl) rfl rfl rfl (Nat.zero_le _) (Nat.zero_le _)
def f_J0_length_8abf5 (N : Nat) (sh : zq_H) (X : zq_M) (i : Nat) : Option Int32 :=
  (f_J0_coder_7d493 N sh X i).bind (fun v1 => some (zq_shr (Int32.ofNat (zq_len.getD i 0)) v1))
set_option maxRecDepth 20000 in
set_option maxHeartbeats 8000000 in
theorem s_J0_length_8abf5 (G : zq_G) (N z : Nat) (sh : zq_H) (X : zq_M) (i : Nat) (gi : i < 7) : zq_V G YJ0_length_8abf5 (2, 0, 0) (zq_ei sh z X) 0 0 0 (lv_args 0 [.ref (G.2.2.2.2.2.2.1 i)]) [] sh z X (f_J0_length_8abf5 N sh X i) := by
  unfold f_J0_length_8abf5
  refine zr_lo (l2 := [(0, .ref (G.2.2.2.2.2.2.1 i))]) [0] rfl ?_
  refine zr_aload_n (pc := 0) (zq_d eJ0_length_8abf5 0 rfl) 0 rfl rfl ?_
  refine zr_sval (pc := 1) (zq_d eJ0_length_8abf5 1 rfl) zg_RJ0_9 gi ?_
  refine zr_slen (pc := 4) (zq_d eJ0_length_8abf5 2 rfl) gi ?_
  refine zr_aload_n (pc := 5) (zq_d eJ0_length_8abf5 3 rfl) 0 rfl rfl ?_
  refine zr_VSi (pc := 6) [] (zq_d eJ0_length_8abf5 4 rfl) (s_J0_coder_7d493 G N z sh X i gi) zd_J0_coder_7d493 zl_RJ0_335 gi rfl rfl rfl (Nat.le_of_ble_eq_true rfl) (Nat.le_of_ble_eq_true rfl) (Nat.le_of_ble_eq_true rfl) ⟨Nat.le_refl _, Nat.le_refl _⟩ (fun v1 => ?_)
  refine zr_ishr (pc := 9) (zq_d eJ0_length_8abf5 5 rfl) ?_
  exact zr_ireturn (pc := 10) (zq_d eJ0_length_8abf5 6 rfl) rfl rfl (Nat.zero_le _) (Nat.zero_le _)
def f_J0_isLatin1_aae02 (N : Nat) (sh : zq_H) (X : zq_M) (i : Nat) : Option Int32 :=
  some (1 : Int32)
set_option maxRecDepth 20000 in
set_option maxHeartbeats 8000000 in
theorem s_J0_isLatin1_aae02 (G : zq_G) (N z : Nat) (sh : zq_H) (X : zq_M) (i : Nat) (gi : i < 7) : zq_V G YJ0_isLatin1_aae02 (1, 0, 0) (zq_ei sh z X) 0 0 0 (lv_args 0 [.ref (G.2.2.2.2.2.2.1 i)]) [] sh z X (f_J0_isLatin1_aae02 N sh X i) := by
  unfold f_J0_isLatin1_aae02
  refine zr_lo (l2 := [(0, .ref (G.2.2.2.2.2.2.1 i))]) [0] rfl ?_
  refine zr_gsC (pc := 0) (zq_d eJ0_isLatin1_aae02 0 rfl) zg_RJ0_38 ?_
  refine zr_iff_eq (pc := 3) 17 (zq_d eJ0_isLatin1_aae02 1 rfl) (by decide) (by decide) ?_
  refine zr_aload_n (pc := 6) (zq_d eJ0_isLatin1_aae02 2 rfl) 0 rfl rfl ?_
  refine zr_scod (pc := 7) (zq_d eJ0_isLatin1_aae02 3 rfl) zg_RJ0_15 gi ?_
  refine zr_iff_ne (pc := 10) 17 (zq_d eJ0_isLatin1_aae02 4 rfl) (by decide) (by decide) ?_
  refine zr_iconst (pc := 13) (zq_d eJ0_isLatin1_aae02 5 rfl) zc_i1 ?_
  refine zr_goto (pc := 14) 18 (zq_d eJ0_isLatin1_aae02 6 rfl) (by decide) ?_
  exact zr_zreturn (pc := 18) (zq_d eJ0_isLatin1_aae02 8 rfl) rfl rfl rfl (Nat.zero_le _) (Nat.zero_le _)
def j_J3_checkIndex_8e157_9   : Option Int32 :=
  none
def f_J3_checkIndex_8e157 (N : Nat) (sh : zq_H) (X : zq_M) (a1 : Int32) (a2 : Int32) : Option Int32 :=
  if a1 < 0 then (j_J3_checkIndex_8e157_9) else (if a1 < a2 then (some a1) else (j_J3_checkIndex_8e157_9))
set_option maxRecDepth 20000 in
set_option maxHeartbeats 8000000 in
theorem s_J3_checkIndex_8e157 (G : zq_G) (N z : Nat) (sh : zq_H) (X : zq_M) (a1 : Int32) (a2 : Int32) (w3 : Value) : zq_V G YJ3_checkIndex_8e157 (1, 0, 0) (zq_ei sh z X) 0 0 0 (lv_args 0 [.int a1, .int a2, w3]) [] sh z X (f_J3_checkIndex_8e157 N sh X a1 a2) := by
  unfold f_J3_checkIndex_8e157
  refine zr_lo (l2 := [(0, .int a1), (1, .int a2), (2, w3)]) [0, 1, 2] rfl ?_
  refine zr_iload_n (pc := 0) (zq_d eJ3_checkIndex_8e157 0 rfl) 0 rfl rfl ?_
  have hj9_1 : zq_V G YJ3_checkIndex_8e157 (1, 0, 0) (zq_ei sh z X) 0 0 9 [(0, .int a1), (1, .int a2), (2, w3)] [] sh z X (j_J3_checkIndex_8e157_9) := by
    unfold j_J3_checkIndex_8e157_9
    exact zr_none
  refine zr_if_lt (pc := 1) 9 (zq_d eJ3_checkIndex_8e157 1 rfl) (by decide) (fun _ => ?_) (fun _ => ?_)
  · exact zr_lo [0, 1, 2] rfl (hj9_1)
  · refine zr_iload_n (pc := 4) (zq_d eJ3_checkIndex_8e157 2 rfl) 0 rfl rfl ?_
    refine zr_iload_n (pc := 5) (zq_d eJ3_checkIndex_8e157 3 rfl) 1 rfl rfl ?_
    refine zr_icmp_lt (pc := 6) 16 (zq_d eJ3_checkIndex_8e157 4 rfl) (by decide) (fun _ => ?_) (fun _ => ?_)
    · refine zr_iload_n (pc := 16) (zq_d eJ3_checkIndex_8e157 10 rfl) 0 rfl rfl ?_
      exact zr_ireturn (pc := 17) (zq_d eJ3_checkIndex_8e157 11 rfl) rfl rfl (Nat.zero_le _) (Nat.zero_le _)
    · exact zr_lo [0, 1, 2] rfl (hj9_1)
def f_J0_checkIndex_df160 (N : Nat) (sh : zq_H) (X : zq_M) (a1 : Int32) (a2 : Int32) : Option Unit :=
  (f_J3_checkIndex_8e157 N sh X a1 a2).bind (fun v1 => some ())
set_option maxRecDepth 20000 in
set_option maxHeartbeats 8000000 in
theorem s_J0_checkIndex_df160 (G : zq_G) (N z : Nat) (sh : zq_H) (X : zq_M) (a1 : Int32) (a2 : Int32) : zq_V G YJ0_checkIndex_df160 (2, 0, 0) (zq_pv sh z X) 0 0 0 (lv_args 0 [.int a1, .int a2]) [] sh z X (f_J0_checkIndex_df160 N sh X a1 a2) := by
  unfold f_J0_checkIndex_df160
  refine zr_lo (l2 := [(0, .int a1), (1, .int a2)]) [0, 1] rfl ?_
  refine zr_iload_n (pc := 0) (zq_d eJ0_checkIndex_df160 0 rfl) 0 rfl rfl ?_
  refine zr_iload_n (pc := 1) (zq_d eJ0_checkIndex_df160 1 rfl) 1 rfl rfl ?_
  refine zr_gsQ (pc := 2) (zq_d eJ0_checkIndex_df160 2 rfl) zg_RJ0_1053 (fun q1 hq1 => ?_)
  refine zr_Si (pc := 5) [_, _, _] (zq_d eJ0_checkIndex_df160 3 rfl) (s_J3_checkIndex_8e157 G N z sh X _ _ q1) zd_J3_checkIndex_8e157 zl_RJ0_1059 rfl rfl (Nat.le_of_ble_eq_true rfl) (by cases q1 <;> first | (simp [Value.category] at hq1; done) | simp [lg_sl, Value.category]) (Nat.le_of_ble_eq_true rfl) ⟨Nat.le_refl _, Nat.le_refl _⟩ (fun v1 => ?_)
  refine zr_pop (pc := 8) (zq_d eJ0_checkIndex_df160 4 rfl) rfl ?_
  exact zr_vreturn (pc := 9) (zq_d eJ0_checkIndex_df160 5 rfl) rfl rfl (Nat.zero_le _) (Nat.zero_le _)
def f_J1_charAt_3b067 (N : Nat) (sh : zq_H) (X : zq_M) (a1 : Nat) (a2 : Int32) : Option Int32 :=
  (f_J0_checkIndex_df160 N sh X a2 (Int32.ofNat (zq_len.getD a1 0))).bind (fun _ => zq_ck a2 (zq_len.getD a1 0) (zq_gn .char (((((zq_byt.getD a1 []).getD (zq_ix a2) 0) &&& (255 : Int32)).toUInt32 % 65536).toInt32) (some (((((zq_byt.getD a1 []).getD (zq_ix a2) 0) &&& (255 : Int32)).toUInt32 % 65536).toInt32))))
set_option maxRecDepth 20000 in
set_option maxHeartbeats 8000000 in
theorem s_J1_charAt_3b067 (G : zq_G) (N z : Nat) (sh : zq_H) (X : zq_M) (a1 : Nat) (ga1 : a1 < 7) (a2 : Int32) : zq_V G YJ1_charAt_3b067 (3, 0, 0) (zq_ei sh z X) 0 0 0 (lv_args 0 [.ref (G.2.2.2.2.2.2.2 a1), .int a2]) [] sh z X (f_J1_charAt_3b067 N sh X a1 a2) := by
  unfold f_J1_charAt_3b067
  refine zr_lo (l2 := [(0, .ref (G.2.2.2.2.2.2.2 a1)), (1, .int a2)]) [0, 1] rfl ?_
  refine zr_iload_n (pc := 0) (zq_d eJ1_charAt_3b067 0 rfl) 1 rfl rfl ?_
  refine zr_aload_n (pc := 1) (zq_d eJ1_charAt_3b067 1 rfl) 0 rfl rfl ?_
  refine zr_slen (pc := 2) (zq_d eJ1_charAt_3b067 2 rfl) ga1 ?_
  refine zr_Spv (pc := 3) [_, _] (zq_d eJ1_charAt_3b067 3 rfl) (s_J0_checkIndex_df160 G N z sh X _ _) zd_J0_checkIndex_df160 zl_RJ1_9 rfl rfl (Nat.le_of_ble_eq_true rfl) (Nat.le_of_ble_eq_true rfl) (Nat.le_of_ble_eq_true rfl) ⟨Nat.le_refl _, Nat.le_refl _⟩ (fun _ => ?_)
  refine zr_aload_n (pc := 6) (zq_d eJ1_charAt_3b067 4 rfl) 0 rfl rfl ?_
  refine zr_iload_n (pc := 7) (zq_d eJ1_charAt_3b067 5 rfl) 1 rfl rfl ?_
  refine zr_sbld (pc := 8) (zq_d eJ1_charAt_3b067 6 rfl) ga1 ?_
  refine zr_sipush (pc := 9) (zq_d eJ1_charAt_3b067 7 rfl) zc_s255 ?_
  refine zr_iand (pc := 12) (zq_d eJ1_charAt_3b067 8 rfl) ?_
  refine zr_i2c (pc := 13) (zq_d eJ1_charAt_3b067 9 rfl) ?_
  exact zr_nreturn (pc := 14) (zq_d eJ1_charAt_3b067 10 rfl) rfl rfl rfl (Nat.zero_le _) (Nat.zero_le _)
def f_J0_charAt_5068e (N : Nat) (sh : zq_H) (X : zq_M) (i : Nat) (a1 : Int32) : Option Int32 :=
  (f_J0_isLatin1_aae02 N sh X i).bind (fun v1 => zq_gd (decide (¬ v1 = 0)) ((f_J1_charAt_3b067 N sh X i a1).bind (fun v2 => zq_gn .char v2 (some v2))))
set_option maxRecDepth 20000 in
set_option maxHeartbeats 8000000 in
theorem s_J0_charAt_5068e (G : zq_G) (N z : Nat) (sh : zq_H) (X : zq_M) (i : Nat) (gi : i < 7) (a1 : Int32) : zq_V G YJ0_charAt_5068e (4, 0, 0) (zq_ei sh z X) 0 0 0 (lv_args 0 [.ref (G.2.2.2.2.2.2.1 i), .int a1]) [] sh z X (f_J0_charAt_5068e N sh X i a1) := by
  unfold f_J0_charAt_5068e
  refine zr_lo (l2 := [(0, .ref (G.2.2.2.2.2.2.1 i)), (1, .int a1)]) [0, 1] rfl ?_
  refine zr_aload_n (pc := 0) (zq_d eJ0_charAt_5068e 0 rfl) 0 rfl rfl ?_
  refine zr_VSi (pc := 1) [] (zq_d eJ0_charAt_5068e 1 rfl) (s_J0_isLatin1_aae02 G N z sh X i gi) zd_J0_isLatin1_aae02 zl_RJ0_492 gi rfl rfl rfl (Nat.le_of_ble_eq_true rfl) (Nat.le_of_ble_eq_true rfl) (Nat.le_of_ble_eq_true rfl) ⟨Nat.le_refl _, Nat.le_refl _⟩ (fun v1 => zr_gd (fun gv1 => ?_))
  refine zr_iff_eq (pc := 4) 16 (zq_d eJ0_charAt_5068e 2 rfl) (by decide) (of_decide_eq_true gv1) ?_
  refine zr_aload_n (pc := 7) (zq_d eJ0_charAt_5068e 3 rfl) 0 rfl rfl ?_
  refine zr_sval (pc := 8) (zq_d eJ0_charAt_5068e 4 rfl) zg_RJ0_9 gi ?_
  refine zr_iload_n (pc := 11) (zq_d eJ0_charAt_5068e 5 rfl) 1 rfl rfl ?_
  refine zr_Si (pc := 12) [_, _] (zq_d eJ0_charAt_5068e 6 rfl) (s_J1_charAt_3b067 G N z sh X i gi _) zd_J1_charAt_3b067 zl_RJ0_495 rfl rfl (Nat.le_of_ble_eq_true rfl) (Nat.le_of_ble_eq_true rfl) (Nat.le_of_ble_eq_true rfl) ⟨Nat.le_refl _, Nat.le_refl _⟩ (fun v2 => ?_)
  exact zr_nreturn (pc := 15) (zq_d eJ0_charAt_5068e 7 rfl) rfl rfl rfl (Nat.zero_le _) (Nat.zero_le _)
def f_J1_canEncode_9a6ad (N : Nat) (sh : zq_H) (X : zq_M) (a1 : Int32) : Option Int32 :=
  if a1 < 0 then (some (0 : Int32)) else (if (255 : Int32) < a1 then (some (0 : Int32)) else (some (1 : Int32)))
set_option maxRecDepth 20000 in
set_option maxHeartbeats 8000000 in
theorem s_J1_canEncode_9a6ad (G : zq_G) (N z : Nat) (sh : zq_H) (X : zq_M) (a1 : Int32) : zq_V G YJ1_canEncode_9a6ad (1, 0, 0) (zq_ei sh z X) 0 0 0 (lv_args 0 [.int a1]) [] sh z X (f_J1_canEncode_9a6ad N sh X a1) := by
  unfold f_J1_canEncode_9a6ad
  refine zr_lo (l2 := [(0, .int a1)]) [0] rfl ?_
  refine zr_iload_n (pc := 0) (zq_d eJ1_canEncode_9a6ad 0 rfl) 0 rfl rfl ?_
  refine zr_if_lt (pc := 1) 15 (zq_d eJ1_canEncode_9a6ad 1 rfl) (by decide) (fun _ => ?_) (fun _ => ?_)
  · refine zr_iconst (pc := 15) (zq_d eJ1_canEncode_9a6ad 7 rfl) zc_i0 ?_
    exact zr_zreturn (pc := 16) (zq_d eJ1_canEncode_9a6ad 8 rfl) rfl rfl rfl (Nat.zero_le _) (Nat.zero_le _)
  · refine zr_iload_n (pc := 4) (zq_d eJ1_canEncode_9a6ad 2 rfl) 0 rfl rfl ?_
    refine zr_sipush (pc := 5) (zq_d eJ1_canEncode_9a6ad 3 rfl) zc_s255 ?_
    refine zr_icmp_gt (pc := 8) 15 (zq_d eJ1_canEncode_9a6ad 4 rfl) (by decide) (fun _ => ?_) (fun _ => ?_)
    · refine zr_iconst (pc := 15) (zq_d eJ1_canEncode_9a6ad 7 rfl) zc_i0 ?_
      exact zr_zreturn (pc := 16) (zq_d eJ1_canEncode_9a6ad 8 rfl) rfl rfl rfl (Nat.zero_le _) (Nat.zero_le _)
    · refine zr_iconst (pc := 11) (zq_d eJ1_canEncode_9a6ad 5 rfl) zc_i1 ?_
      refine zr_goto (pc := 12) 16 (zq_d eJ1_canEncode_9a6ad 6 rfl) (by decide) ?_
      exact zr_zreturn (pc := 16) (zq_d eJ1_canEncode_9a6ad 8 rfl) rfl rfl rfl (Nat.zero_le _) (Nat.zero_le _)
def b_J1_indexOfChar_4cfef_7 (a1 : Nat) (a2 : Int32) (a4 : Int32) (rc7_1 : Int32 → Option Int32) (v1 : Int32) : Option Int32 :=
  if a4 ≤ v1 then (some (-1 : Int32)) else (zq_ck v1 (zq_len.getD a1 0) (if ¬ ((zq_byt.getD a1 []).getD (zq_ix v1) 0) = (a2.toInt8.toInt32) then (rc7_1 (v1 + (1 : Int32))) else (some v1)))
def f_J1_indexOfChar_4cfef (N : Nat) (sh : zq_H) (X : zq_M) (a1 : Nat) (a2 : Int32) (a3 : Int32) (a4 : Int32) : Option Int32 :=
  zq_loop (fun _ => none) (b_J1_indexOfChar_4cfef_7 a1 a2 a4) N a3
set_option maxRecDepth 20000 in
set_option maxHeartbeats 8000000 in
theorem s_J1_indexOfChar_4cfef (G : zq_G) (N z : Nat) (sh : zq_H) (X : zq_M) (a1 : Nat) (ga1 : a1 < 7) (a2 : Int32) (a3 : Int32) (a4 : Int32) : zq_V G YJ1_indexOfChar_4cfef (1, 0, 0) (zq_ei sh z X) 0 0 0 (lv_args 0 [.ref (G.2.2.2.2.2.2.2 a1), .int a2, .int a3, .int a4]) [] sh z X (f_J1_indexOfChar_4cfef N sh X a1 a2 a3 a4) := by
  unfold f_J1_indexOfChar_4cfef
  refine zr_lo (l2 := [(0, .ref (G.2.2.2.2.2.2.2 a1)), (1, .int a2), (2, .int a3), (3, .int a4)]) [0, 1, 2, 3] rfl ?_
  refine zr_iload_n (pc := 0) (zq_d eJ1_indexOfChar_4cfef 0 rfl) 1 rfl rfl ?_
  refine zr_i2b (pc := 1) (zq_d eJ1_indexOfChar_4cfef 1 rfl) ?_
  refine zr_istore (pc := 2) (lo2 := [(4, .int (a2.toInt8.toInt32)), (0, .ref (G.2.2.2.2.2.2.2 a1)), (1, .int a2), (2, .int a3), (3, .int a4)]) (zq_d eJ1_indexOfChar_4cfef 2 rfl) (Nat.le_of_ble_eq_true rfl) rfl ?_
  refine zr_iload_n (pc := 4) (zq_d eJ1_indexOfChar_4cfef 3 rfl) 3 rfl rfl ?_
  refine zr_istore (pc := 5) (lo2 := [(5, .int a3), (4, .int (a2.toInt8.toInt32)), (0, .ref (G.2.2.2.2.2.2.2 a1)), (1, .int a2), (2, .int a3), (3, .int a4)]) (zq_d eJ1_indexOfChar_4cfef 4 rfl) (Nat.le_of_ble_eq_true rfl) rfl ?_
  have hbrc7_1 : ∀ rc7_1 : Int32 → Option Int32, (∀ (v1 : Int32), zq_V G YJ1_indexOfChar_4cfef (1, 0, 0) (zq_ei sh z X) 0 0 7 [(0, .ref (G.2.2.2.2.2.2.2 a1)), (3, .int a4), (4, .int (a2.toInt8.toInt32)), (5, .int v1)] [] sh z X (rc7_1 v1)) → ∀ (v1 : Int32), zq_V G YJ1_indexOfChar_4cfef (1, 0, 0) (zq_ei sh z X) 0 0 7 [(0, .ref (G.2.2.2.2.2.2.2 a1)), (3, .int a4), (4, .int (a2.toInt8.toInt32)), (5, .int v1)] [] sh z X (b_J1_indexOfChar_4cfef_7 a1 a2 a4 rc7_1 v1) := by
    intro rc7_1 hrc7_1 v1
    unfold b_J1_indexOfChar_4cfef_7
    refine zr_iload (pc := 7) (zq_d eJ1_indexOfChar_4cfef 5 rfl) 3 rfl ?_
    refine zr_iload_n (pc := 9) (zq_d eJ1_indexOfChar_4cfef 6 rfl) 1 rfl rfl ?_
    refine zr_icmp_ge (pc := 10) 31 (zq_d eJ1_indexOfChar_4cfef 7 rfl) (by decide) (fun _ => ?_) (fun _ => ?_)
    · refine zr_iconst (pc := 31) (zq_d eJ1_indexOfChar_4cfef 17 rfl) zc_im1 ?_
      exact zr_ireturn (pc := 32) (zq_d eJ1_indexOfChar_4cfef 18 rfl) rfl rfl (Nat.zero_le _) (Nat.zero_le _)
    · refine zr_aload_n (pc := 13) (zq_d eJ1_indexOfChar_4cfef 8 rfl) 0 rfl rfl ?_
      refine zr_iload (pc := 14) (zq_d eJ1_indexOfChar_4cfef 9 rfl) 3 rfl ?_
      refine zr_sbld (pc := 16) (zq_d eJ1_indexOfChar_4cfef 10 rfl) ga1 ?_
      refine zr_iload (pc := 17) (zq_d eJ1_indexOfChar_4cfef 11 rfl) 2 rfl ?_
      refine zr_icmp_ne (pc := 19) 25 (zq_d eJ1_indexOfChar_4cfef 12 rfl) (by decide) (fun _ => ?_) (fun _ => ?_)
      · refine zr_iinc (pc := 25) (j := 3) (v := (v1 + (1 : Int32))) (lo2 := [(5, .int (v1 + (1 : Int32))), (0, .ref (G.2.2.2.2.2.2.2 a1)), (3, .int a4), (4, .int (a2.toInt8.toInt32))]) (zq_d eJ1_indexOfChar_4cfef 15 rfl) rfl (by rw [zc_i1]) (Nat.le_of_ble_eq_true rfl) rfl ?_
        refine zr_goto (pc := 28) 7 (zq_d eJ1_indexOfChar_4cfef 16 rfl) (by decide) ?_
        exact zr_lo [1, 2, 3, 0] rfl (hrc7_1 (v1 + (1 : Int32)))
      · refine zr_iload (pc := 22) (zq_d eJ1_indexOfChar_4cfef 13 rfl) 3 rfl ?_
        exact zr_ireturn (pc := 24) (zq_d eJ1_indexOfChar_4cfef 14 rfl) rfl rfl (Nat.zero_le _) (Nat.zero_le _)
  have hlrc7_1 := zr_loop (P := fun (rc7_1 : Int32 → Option Int32) => ∀ (v1 : Int32), zq_V G YJ1_indexOfChar_4cfef (1, 0, 0) (zq_ei sh z X) 0 0 7 [(0, .ref (G.2.2.2.2.2.2.2 a1)), (3, .int a4), (4, .int (a2.toInt8.toInt32)), (5, .int v1)] [] sh z X (rc7_1 v1)) (fun _ => none) (b_J1_indexOfChar_4cfef_7 a1 a2 a4) (fun _ => zr_none) hbrc7_1 N
  exact zr_lo [2, 5, 1, 0] rfl (hlrc7_1 a3)
def f_J1_indexOf_4cfef (N : Nat) (sh : zq_H) (X : zq_M) (a1 : Nat) (a2 : Int32) (a3 : Int32) (a4 : Int32) : Option Int32 :=
  (f_J1_canEncode_9a6ad N sh X a2).bind (fun v1 => if ¬ v1 = 0 then (zq_b (if a3 < (0 : Int32) then (0 : Int32) else a3) (fun v2 => zq_b (if (Int32.ofNat (zq_len.getD a1 0)) < a4 then (Int32.ofNat (zq_len.getD a1 0)) else a4) (fun v3 => if v2 < v3 then ((f_J1_indexOfChar_4cfef N sh X a1 a2 v2 v3).bind (fun v4 => some v4)) else (some (-1 : Int32))))) else (some (-1 : Int32)))
set_option maxRecDepth 20000 in
set_option maxHeartbeats 8000000 in
theorem s_J1_indexOf_4cfef (G : zq_G) (N z : Nat) (sh : zq_H) (X : zq_M) (a1 : Nat) (ga1 : a1 < 7) (a2 : Int32) (a3 : Int32) (a4 : Int32) : zq_V G YJ1_indexOf_4cfef (2, 0, 0) (zq_ei sh z X) 0 0 0 (lv_args 0 [.ref (G.2.2.2.2.2.2.2 a1), .int a2, .int a3, .int a4]) [] sh z X (f_J1_indexOf_4cfef N sh X a1 a2 a3 a4) := by
  unfold f_J1_indexOf_4cfef
  refine zr_lo (l2 := [(0, .ref (G.2.2.2.2.2.2.2 a1)), (1, .int a2), (2, .int a3), (3, .int a4)]) [0, 1, 2, 3] rfl ?_
  refine zr_iload_n (pc := 0) (zq_d eJ1_indexOf_4cfef 0 rfl) 1 rfl rfl ?_
  refine zr_Si (pc := 1) [_] (zq_d eJ1_indexOf_4cfef 1 rfl) (s_J1_canEncode_9a6ad G N z sh X _) zd_J1_canEncode_9a6ad zl_RJ1_88 rfl rfl (Nat.le_of_ble_eq_true rfl) (Nat.le_of_ble_eq_true rfl) (Nat.le_of_ble_eq_true rfl) ⟨Nat.le_refl _, Nat.le_refl _⟩ (fun v1 => ?_)
  refine zr_if_ne (pc := 4) 9 (zq_d eJ1_indexOf_4cfef 2 rfl) (by decide) (fun _ => ?_) (fun _ => ?_)
  · refine zr_iload_n (pc := 9) (zq_d eJ1_indexOf_4cfef 5 rfl) 2 rfl rfl ?_
    refine zr_iconst (pc := 10) (zq_d eJ1_indexOf_4cfef 6 rfl) zc_i0 ?_
    refine zr_max (pc := 11) (zq_d eJ1_indexOf_4cfef 7 rfl) zl_RJ1_92 zx_max1 zx_min2 zx_max3 (Nat.le_of_ble_eq_true rfl) (Nat.le_of_ble_eq_true rfl) ⟨Nat.le_refl _, Nat.le_refl _⟩ ?_
    refine zr_nm (fun v2 => ?_)
    refine zr_istore_n (pc := 14) (lo2 := [(2, .int v2), (0, .ref (G.2.2.2.2.2.2.2 a1)), (1, .int a2), (3, .int a4)]) (zq_d eJ1_indexOf_4cfef 8 rfl) rfl (Nat.le_of_ble_eq_true rfl) rfl ?_
    refine zr_iload_n (pc := 15) (zq_d eJ1_indexOf_4cfef 9 rfl) 3 rfl rfl ?_
    refine zr_aload_n (pc := 16) (zq_d eJ1_indexOf_4cfef 10 rfl) 1 rfl rfl ?_
    refine zr_slen (pc := 17) (zq_d eJ1_indexOf_4cfef 11 rfl) ga1 ?_
    refine zr_min (pc := 18) (zq_d eJ1_indexOf_4cfef 12 rfl) zl_RJ1_38 zx_min1 zx_min2 zx_min3 (Nat.le_of_ble_eq_true rfl) (Nat.le_of_ble_eq_true rfl) ⟨Nat.le_refl _, Nat.le_refl _⟩ ?_
    refine zr_nm (fun v3 => ?_)
    refine zr_istore_n (pc := 21) (lo2 := [(3, .int v3), (2, .int v2), (0, .ref (G.2.2.2.2.2.2.2 a1)), (1, .int a2)]) (zq_d eJ1_indexOf_4cfef 13 rfl) rfl (Nat.le_of_ble_eq_true rfl) rfl ?_
    refine zr_iload_n (pc := 22) (zq_d eJ1_indexOf_4cfef 14 rfl) 1 rfl rfl ?_
    refine zr_iload_n (pc := 23) (zq_d eJ1_indexOf_4cfef 15 rfl) 0 rfl rfl ?_
    refine zr_icmp_lt (pc := 24) 29 (zq_d eJ1_indexOf_4cfef 16 rfl) (by decide) (fun _ => ?_) (fun _ => ?_)
    · refine zr_aload_n (pc := 29) (zq_d eJ1_indexOf_4cfef 19 rfl) 2 rfl rfl ?_
      refine zr_iload_n (pc := 30) (zq_d eJ1_indexOf_4cfef 20 rfl) 3 rfl rfl ?_
      refine zr_iload_n (pc := 31) (zq_d eJ1_indexOf_4cfef 21 rfl) 1 rfl rfl ?_
      refine zr_iload_n (pc := 32) (zq_d eJ1_indexOf_4cfef 22 rfl) 0 rfl rfl ?_
      refine zr_Si (pc := 33) [_, _, _, _] (zq_d eJ1_indexOf_4cfef 23 rfl) (s_J1_indexOfChar_4cfef G N z sh X a1 ga1 _ _ _) zd_J1_indexOfChar_4cfef zl_RJ1_95 rfl rfl (Nat.le_of_ble_eq_true rfl) (Nat.le_of_ble_eq_true rfl) (Nat.le_of_ble_eq_true rfl) ⟨Nat.le_refl _, Nat.le_refl _⟩ (fun v4 => ?_)
      exact zr_ireturn (pc := 36) (zq_d eJ1_indexOf_4cfef 24 rfl) rfl rfl (Nat.zero_le _) (Nat.zero_le _)
    · refine zr_iconst (pc := 27) (zq_d eJ1_indexOf_4cfef 17 rfl) zc_im1 ?_
      exact zr_ireturn (pc := 28) (zq_d eJ1_indexOf_4cfef 18 rfl) rfl rfl (Nat.zero_le _) (Nat.zero_le _)
  · refine zr_iconst (pc := 7) (zq_d eJ1_indexOf_4cfef 3 rfl) zc_im1 ?_
    exact zr_ireturn (pc := 8) (zq_d eJ1_indexOf_4cfef 4 rfl) rfl rfl (Nat.zero_le _) (Nat.zero_le _)
def f_J0_indexOf_7cf53 (N : Nat) (sh : zq_H) (X : zq_M) (i : Nat) (a1 : Int32) (a2 : Int32) : Option Int32 :=
  (f_J0_isLatin1_aae02 N sh X i).bind (fun v1 => zq_gd (decide (¬ v1 = 0)) ((f_J0_length_8abf5 N sh X i).bind (fun v2 => (f_J1_indexOf_4cfef N sh X i a1 a2 v2).bind (fun v3 => some v3))))
set_option maxRecDepth 20000 in
set_option maxHeartbeats 8000000 in
theorem s_J0_indexOf_7cf53 (G : zq_G) (N z : Nat) (sh : zq_H) (X : zq_M) (i : Nat) (gi : i < 7) (a1 : Int32) (a2 : Int32) : zq_V G YJ0_indexOf_7cf53 (3, 0, 0) (zq_ei sh z X) 0 0 0 (lv_args 0 [.ref (G.2.2.2.2.2.2.1 i), .int a1, .int a2]) [] sh z X (f_J0_indexOf_7cf53 N sh X i a1 a2) := by
  unfold f_J0_indexOf_7cf53
  refine zr_lo (l2 := [(0, .ref (G.2.2.2.2.2.2.1 i)), (1, .int a1), (2, .int a2)]) [0, 1, 2] rfl ?_
  refine zr_aload_n (pc := 0) (zq_d eJ0_indexOf_7cf53 0 rfl) 0 rfl rfl ?_
  refine zr_VSi (pc := 1) [] (zq_d eJ0_indexOf_7cf53 1 rfl) (s_J0_isLatin1_aae02 G N z sh X i gi) zd_J0_isLatin1_aae02 zl_RJ0_492 gi rfl rfl rfl (Nat.le_of_ble_eq_true rfl) (Nat.le_of_ble_eq_true rfl) (Nat.le_of_ble_eq_true rfl) ⟨Nat.le_refl _, Nat.le_refl _⟩ (fun v1 => zr_gd (fun gv1 => ?_))
  refine zr_iff_eq (pc := 4) 23 (zq_d eJ0_indexOf_7cf53 2 rfl) (by decide) (of_decide_eq_true gv1) ?_
  refine zr_aload_n (pc := 7) (zq_d eJ0_indexOf_7cf53 3 rfl) 0 rfl rfl ?_
  refine zr_sval (pc := 8) (zq_d eJ0_indexOf_7cf53 4 rfl) zg_RJ0_9 gi ?_
  refine zr_iload_n (pc := 11) (zq_d eJ0_indexOf_7cf53 5 rfl) 1 rfl rfl ?_
  refine zr_iload_n (pc := 12) (zq_d eJ0_indexOf_7cf53 6 rfl) 2 rfl rfl ?_
  refine zr_aload_n (pc := 13) (zq_d eJ0_indexOf_7cf53 7 rfl) 0 rfl rfl ?_
  refine zr_VSi (pc := 14) [] (zq_d eJ0_indexOf_7cf53 8 rfl) (s_J0_length_8abf5 G N z sh X i gi) zd_J0_length_8abf5 zl_RJ0_505 gi rfl rfl rfl (Nat.le_of_ble_eq_true rfl) (Nat.le_of_ble_eq_true rfl) (Nat.le_of_ble_eq_true rfl) ⟨Nat.le_refl _, Nat.le_refl _⟩ (fun v2 => ?_)
  refine zr_Si (pc := 17) [_, _, _, _] (zq_d eJ0_indexOf_7cf53 9 rfl) (s_J1_indexOf_4cfef G N z sh X i gi _ _ _) zd_J1_indexOf_4cfef zl_RJ0_637 rfl rfl (Nat.le_of_ble_eq_true rfl) (Nat.le_of_ble_eq_true rfl) (Nat.le_of_ble_eq_true rfl) ⟨Nat.le_refl _, Nat.le_refl _⟩ (fun v3 => ?_)
  refine zr_goto (pc := 20) 36 (zq_d eJ0_indexOf_7cf53 10 rfl) (by decide) ?_
  exact zr_ireturn (pc := 36) (zq_d eJ0_indexOf_7cf53 18 rfl) rfl rfl (Nat.zero_le _) (Nat.zero_le _)
def f_J0_indexOf_0f7a4 (N : Nat) (sh : zq_H) (X : zq_M) (i : Nat) (a1 : Int32) : Option Int32 :=
  (f_J0_indexOf_7cf53 N sh X i a1 (0 : Int32)).bind (fun v1 => some v1)
set_option maxRecDepth 20000 in
set_option maxHeartbeats 8000000 in
theorem s_J0_indexOf_0f7a4 (G : zq_G) (N z : Nat) (sh : zq_H) (X : zq_M) (i : Nat) (gi : i < 7) (a1 : Int32) : zq_V G YJ0_indexOf_0f7a4 (4, 0, 0) (zq_ei sh z X) 0 0 0 (lv_args 0 [.ref (G.2.2.2.2.2.2.1 i), .int a1]) [] sh z X (f_J0_indexOf_0f7a4 N sh X i a1) := by
  unfold f_J0_indexOf_0f7a4
  refine zr_lo (l2 := [(0, .ref (G.2.2.2.2.2.2.1 i)), (1, .int a1)]) [0, 1] rfl ?_
  refine zr_aload_n (pc := 0) (zq_d eJ0_indexOf_0f7a4 0 rfl) 0 rfl rfl ?_
  refine zr_iload_n (pc := 1) (zq_d eJ0_indexOf_0f7a4 1 rfl) 1 rfl rfl ?_
  refine zr_iconst (pc := 2) (zq_d eJ0_indexOf_0f7a4 2 rfl) zc_i0 ?_
  refine zr_VSi (pc := 3) [_, _] (zq_d eJ0_indexOf_0f7a4 3 rfl) (s_J0_indexOf_7cf53 G N z sh X i gi _ _) zd_J0_indexOf_7cf53 zl_RJ0_633 gi rfl rfl rfl (Nat.le_of_ble_eq_true rfl) (Nat.le_of_ble_eq_true rfl) (Nat.le_of_ble_eq_true rfl) ⟨Nat.le_refl _, Nat.le_refl _⟩ (fun v1 => ?_)
  exact zr_ireturn (pc := 6) (zq_d eJ0_indexOf_0f7a4 4 rfl) rfl rfl (Nat.zero_le _) (Nat.zero_le _)
def b_J7_fill_d0a16_6 (a1 : Nat) (na1 : Nat) (a2 : Int64) (rc6_1 : Int32 → zq_M → Option zq_M) (v1 : Int32) (X2 : zq_M) : Option zq_M :=
  if (Int32.ofNat na1) ≤ v1 then (some X2) else (zq_ck v1 na1 (zq_b (zq_u2 X2 a1 (zq_ix v1) a2) (fun X3 => rc6_1 (v1 + (1 : Int32)) X3)))
def f_J7_fill_d0a16 (N : Nat) (sh : zq_H) (X : zq_M) (a1 na1 : Nat) (a2 : Int64) : Option zq_M :=
  zq_loop (fun _ _ => none) (b_J7_fill_d0a16_6 a1 na1 a2) N (0 : Int32) X
set_option maxRecDepth 20000 in
set_option maxHeartbeats 8000000 in
theorem s_J7_fill_d0a16 (G : zq_G) (N z : Nat) (sh : zq_H) (X : zq_M) (a1 na1 : Nat) (ga1 : sh a1 = some (.inr (2, na1))) (a2 : Int64) : zq_V G YJ7_fill_d0a16 (1, 0, 0) (zq_sv sh z) 0 0 0 (lv_args 0 [.ref (zq_ad G a1), .long a2]) [] sh z X (f_J7_fill_d0a16 N sh X a1 na1 a2) := by
  unfold f_J7_fill_d0a16
  refine zr_lo (l2 := [(0, .ref (zq_ad G a1)), (1, .long a2)]) [0, 1] rfl ?_
  refine zr_iconst (pc := 0) (zq_d eJ7_fill_d0a16 0 rfl) zc_i0 ?_
  refine zr_istore_n (pc := 1) (lo2 := [(3, .int (0 : Int32)), (0, .ref (zq_ad G a1)), (1, .long a2)]) (zq_d eJ7_fill_d0a16 1 rfl) rfl (Nat.le_of_ble_eq_true rfl) rfl ?_
  refine zr_aload_n (pc := 2) (zq_d eJ7_fill_d0a16 2 rfl) 1 rfl rfl ?_
  refine zr_alen (pc := 3) (v := (Int32.ofNat na1)) (zq_d eJ7_fill_d0a16 3 rfl) ga1 (Nat.le_of_ble_eq_true rfl) rfl ?_
  refine zr_istore (pc := 4) (lo2 := [(4, .int (Int32.ofNat na1)), (3, .int (0 : Int32)), (0, .ref (zq_ad G a1)), (1, .long a2)]) (zq_d eJ7_fill_d0a16 4 rfl) (Nat.le_of_ble_eq_true rfl) rfl ?_
  have hbrc6_1 : ∀ rc6_1 : Int32 → zq_M → Option zq_M, (∀ (v1 : Int32) (X2 : zq_M), zq_V G YJ7_fill_d0a16 (1, 0, 0) (zq_sv sh z) 0 0 6 [(0, .ref (zq_ad G a1)), (1, .long a2), (3, .int v1), (4, .int (Int32.ofNat na1))] [] sh z X2 (rc6_1 v1 X2)) → ∀ (v1 : Int32) (X2 : zq_M), zq_V G YJ7_fill_d0a16 (1, 0, 0) (zq_sv sh z) 0 0 6 [(0, .ref (zq_ad G a1)), (1, .long a2), (3, .int v1), (4, .int (Int32.ofNat na1))] [] sh z X2 (b_J7_fill_d0a16_6 a1 na1 a2 rc6_1 v1 X2) := by
    intro rc6_1 hrc6_1 v1 X2
    unfold b_J7_fill_d0a16_6
    refine zr_iload_n (pc := 6) (zq_d eJ7_fill_d0a16 5 rfl) 2 rfl rfl ?_
    refine zr_iload (pc := 7) (zq_d eJ7_fill_d0a16 6 rfl) 3 rfl ?_
    refine zr_icmp_ge (pc := 9) 22 (zq_d eJ7_fill_d0a16 7 rfl) (by decide) (fun _ => ?_) (fun _ => ?_)
    · exact zr_vreturn (pc := 22) (zq_d eJ7_fill_d0a16 14 rfl) rfl rfl (Nat.zero_le _) (Nat.zero_le _)
    · refine zr_aload_n (pc := 12) (zq_d eJ7_fill_d0a16 8 rfl) 0 rfl rfl ?_
      refine zr_iload_n (pc := 13) (zq_d eJ7_fill_d0a16 9 rfl) 2 rfl rfl ?_
      refine zr_lload_n (pc := 14) (zq_d eJ7_fill_d0a16 10 rfl) 1 rfl rfl ?_
      refine zr_last (pc := 15) (zq_d eJ7_fill_d0a16 11 rfl) ga1 (fun X3 => ?_)
      refine zr_iinc (pc := 16) (j := 2) (v := (v1 + (1 : Int32))) (lo2 := [(3, .int (v1 + (1 : Int32))), (0, .ref (zq_ad G a1)), (1, .long a2), (4, .int (Int32.ofNat na1))]) (zq_d eJ7_fill_d0a16 12 rfl) rfl (by rw [zc_i1]) (Nat.le_of_ble_eq_true rfl) rfl ?_
      refine zr_goto (pc := 19) 6 (zq_d eJ7_fill_d0a16 13 rfl) (by decide) ?_
      exact zr_lo [1, 2, 0, 3] rfl (hrc6_1 (v1 + (1 : Int32)) X3)
  have hlrc6_1 := zr_loop (P := fun (rc6_1 : Int32 → zq_M → Option zq_M) => ∀ (v1 : Int32) (X2 : zq_M), zq_V G YJ7_fill_d0a16 (1, 0, 0) (zq_sv sh z) 0 0 6 [(0, .ref (zq_ad G a1)), (1, .long a2), (3, .int v1), (4, .int (Int32.ofNat na1))] [] sh z X2 (rc6_1 v1 X2)) (fun _ _ => none) (b_J7_fill_d0a16_6 a1 na1 a2) (fun _ _ => zr_none) hbrc6_1 N
  exact zr_lo [2, 3, 1, 0] rfl (hlrc6_1 (0 : Int32) X)
def b_J7_fill_53178_5 (a1 : Nat) (na1 : Nat) (a2 : Int32) (rc5_1 : Int32 → zq_M → Option zq_M) (v1 : Int32) (X2 : zq_M) : Option zq_M :=
  if (Int32.ofNat na1) ≤ v1 then (some X2) else (zq_ck v1 na1 (zq_b (zq_u1 X2 a1 (zq_ix v1) a2) (fun X3 => rc5_1 (v1 + (1 : Int32)) X3)))
def f_J7_fill_53178 (N : Nat) (sh : zq_H) (X : zq_M) (a1 na1 : Nat) (a2 : Int32) : Option zq_M :=
  zq_loop (fun _ _ => none) (b_J7_fill_53178_5 a1 na1 a2) N (0 : Int32) X
set_option maxRecDepth 20000 in
set_option maxHeartbeats 8000000 in
theorem s_J7_fill_53178 (G : zq_G) (N z : Nat) (sh : zq_H) (X : zq_M) (a1 na1 : Nat) (ga1 : sh a1 = some (.inr (0, na1))) (a2 : Int32) : zq_V G YJ7_fill_53178 (1, 0, 0) (zq_sv sh z) 0 0 0 (lv_args 0 [.ref (zq_ad G a1), .int a2]) [] sh z X (f_J7_fill_53178 N sh X a1 na1 a2) := by
  unfold f_J7_fill_53178
  refine zr_lo (l2 := [(0, .ref (zq_ad G a1)), (1, .int a2)]) [0, 1] rfl ?_
  refine zr_iconst (pc := 0) (zq_d eJ7_fill_53178 0 rfl) zc_i0 ?_
  refine zr_istore_n (pc := 1) (lo2 := [(2, .int (0 : Int32)), (0, .ref (zq_ad G a1)), (1, .int a2)]) (zq_d eJ7_fill_53178 1 rfl) rfl (Nat.le_of_ble_eq_true rfl) rfl ?_
  refine zr_aload_n (pc := 2) (zq_d eJ7_fill_53178 2 rfl) 1 rfl rfl ?_
  refine zr_alen (pc := 3) (v := (Int32.ofNat na1)) (zq_d eJ7_fill_53178 3 rfl) ga1 (Nat.le_of_ble_eq_true rfl) rfl ?_
  refine zr_istore_n (pc := 4) (lo2 := [(3, .int (Int32.ofNat na1)), (2, .int (0 : Int32)), (0, .ref (zq_ad G a1)), (1, .int a2)]) (zq_d eJ7_fill_53178 4 rfl) rfl (Nat.le_of_ble_eq_true rfl) rfl ?_
  have hbrc5_1 : ∀ rc5_1 : Int32 → zq_M → Option zq_M, (∀ (v1 : Int32) (X2 : zq_M), zq_V G YJ7_fill_53178 (1, 0, 0) (zq_sv sh z) 0 0 5 [(0, .ref (zq_ad G a1)), (1, .int a2), (2, .int v1), (3, .int (Int32.ofNat na1))] [] sh z X2 (rc5_1 v1 X2)) → ∀ (v1 : Int32) (X2 : zq_M), zq_V G YJ7_fill_53178 (1, 0, 0) (zq_sv sh z) 0 0 5 [(0, .ref (zq_ad G a1)), (1, .int a2), (2, .int v1), (3, .int (Int32.ofNat na1))] [] sh z X2 (b_J7_fill_53178_5 a1 na1 a2 rc5_1 v1 X2) := by
    intro rc5_1 hrc5_1 v1 X2
    unfold b_J7_fill_53178_5
    refine zr_iload_n (pc := 5) (zq_d eJ7_fill_53178 5 rfl) 2 rfl rfl ?_
    refine zr_iload_n (pc := 6) (zq_d eJ7_fill_53178 6 rfl) 3 rfl rfl ?_
    refine zr_icmp_ge (pc := 7) 20 (zq_d eJ7_fill_53178 7 rfl) (by decide) (fun _ => ?_) (fun _ => ?_)
    · exact zr_vreturn (pc := 20) (zq_d eJ7_fill_53178 14 rfl) rfl rfl (Nat.zero_le _) (Nat.zero_le _)
    · refine zr_aload_n (pc := 10) (zq_d eJ7_fill_53178 8 rfl) 0 rfl rfl ?_
      refine zr_iload_n (pc := 11) (zq_d eJ7_fill_53178 9 rfl) 2 rfl rfl ?_
      refine zr_iload_n (pc := 12) (zq_d eJ7_fill_53178 10 rfl) 1 rfl rfl ?_
      refine zr_iast (pc := 13) (zq_d eJ7_fill_53178 11 rfl) ga1 (fun X3 => ?_)
      refine zr_iinc (pc := 14) (j := 2) (v := (v1 + (1 : Int32))) (lo2 := [(2, .int (v1 + (1 : Int32))), (0, .ref (zq_ad G a1)), (1, .int a2), (3, .int (Int32.ofNat na1))]) (zq_d eJ7_fill_53178 12 rfl) rfl (by rw [zc_i1]) (Nat.le_of_ble_eq_true rfl) rfl ?_
      refine zr_goto (pc := 17) 5 (zq_d eJ7_fill_53178 13 rfl) (by decide) ?_
      exact zr_lo [1, 2, 0, 3] rfl (hrc5_1 (v1 + (1 : Int32)) X3)
  have hlrc5_1 := zr_loop (P := fun (rc5_1 : Int32 → zq_M → Option zq_M) => ∀ (v1 : Int32) (X2 : zq_M), zq_V G YJ7_fill_53178 (1, 0, 0) (zq_sv sh z) 0 0 5 [(0, .ref (zq_ad G a1)), (1, .int a2), (2, .int v1), (3, .int (Int32.ofNat na1))] [] sh z X2 (rc5_1 v1 X2)) (fun _ _ => none) (b_J7_fill_53178_5 a1 na1 a2) (fun _ _ => zr_none) hbrc5_1 N
  exact zr_lo [2, 3, 1, 0] rfl (hlrc5_1 (0 : Int32) X)
def f_X0_forget (N j : Nat) (X : zq_M)  : Option zq_M :=
  zq_b (zq_u1 X 54 1 (0 : Int32)) (fun X1 => some X1)
set_option maxRecDepth 20000 in
set_option maxHeartbeats 8000000 in
theorem s_X0_forget (G : zq_G) (N z j : Nat) (X : zq_M)  : zq_V G YX0_forget (1, 0, 0) (zq_sv (zq_shX j) z) 0 0 0 (lv_args 0 [.ref (zq_ad G 54)]) [] (zq_shX j) z X (f_X0_forget N j X ) := by
  unfold f_X0_forget
  refine zr_lo (l2 := [(0, .ref (zq_ad G 54))]) [0] rfl ?_
  refine zr_aload_n (pc := 0) (zq_d eX0_forget 0 rfl) 0 rfl rfl ?_
  refine zr_iconst (pc := 1) (zq_d eX0_forget 1 rfl) zc_i0 ?_
  refine zr_putI (pc := 2) (zq_d eX0_forget 2 rfl) zf_RX0_15 (kx_54_1 j) zn_0_1 (fun X1 => ?_)
  exact zr_vreturn (pc := 5) (zq_d eX0_forget 3 rfl) rfl rfl (Nat.zero_le _) (Nat.zero_le _)
def f_X10_isFromTo (N j : Nat) (X : zq_M) (a1 : Int32) (a2 : Int32) (a3 : Int32) : Option Int32 :=
  if a1 < a2 then (some (0 : Int32)) else (if a3 < a1 then (some (0 : Int32)) else (some (1 : Int32)))
set_option maxRecDepth 20000 in
set_option maxHeartbeats 8000000 in
theorem s_X10_isFromTo (G : zq_G) (N z j : Nat) (X : zq_M) (a1 : Int32) (a2 : Int32) (a3 : Int32) : zq_V G YX10_isFromTo (1, 0, 0) (zq_ei (zq_shX j) z X) 0 0 0 (lv_args 0 [.int a1, .int a2, .int a3]) [] (zq_shX j) z X (f_X10_isFromTo N j X a1 a2 a3) := by
  unfold f_X10_isFromTo
  refine zr_lo (l2 := [(0, .int a1), (1, .int a2), (2, .int a3)]) [0, 1, 2] rfl ?_
  refine zr_iload_n (pc := 0) (zq_d eX10_isFromTo 0 rfl) 0 rfl rfl ?_
  refine zr_iload_n (pc := 1) (zq_d eX10_isFromTo 1 rfl) 1 rfl rfl ?_
  refine zr_icmp_lt (pc := 2) 14 (zq_d eX10_isFromTo 2 rfl) (by decide) (fun _ => ?_) (fun _ => ?_)
  · refine zr_iconst (pc := 14) (zq_d eX10_isFromTo 8 rfl) zc_i0 ?_
    exact zr_zreturn (pc := 15) (zq_d eX10_isFromTo 9 rfl) rfl rfl rfl (Nat.zero_le _) (Nat.zero_le _)
  · refine zr_iload_n (pc := 5) (zq_d eX10_isFromTo 3 rfl) 0 rfl rfl ?_
    refine zr_iload_n (pc := 6) (zq_d eX10_isFromTo 4 rfl) 2 rfl rfl ?_
    refine zr_icmp_gt (pc := 7) 14 (zq_d eX10_isFromTo 5 rfl) (by decide) (fun _ => ?_) (fun _ => ?_)
    · refine zr_iconst (pc := 14) (zq_d eX10_isFromTo 8 rfl) zc_i0 ?_
      exact zr_zreturn (pc := 15) (zq_d eX10_isFromTo 9 rfl) rfl rfl rfl (Nat.zero_le _) (Nat.zero_le _)
    · refine zr_iconst (pc := 10) (zq_d eX10_isFromTo 6 rfl) zc_i1 ?_
      refine zr_goto (pc := 11) 15 (zq_d eX10_isFromTo 7 rfl) (by decide) ?_
      exact zr_zreturn (pc := 15) (zq_d eX10_isFromTo 9 rfl) rfl rfl rfl (Nat.zero_le _) (Nat.zero_le _)
def f_X0_bodyAt (N j : Nat) (X : zq_M) (a1 : Int32) : Option Int32 :=
  (f_X10_isFromTo N j X a1 (0 : Int32) ((if (20 : Int32) < (X.1 54 1) then (20 : Int32) else (X.1 54 1)) - (1 : Int32))).bind (fun v1 => if v1 = 0 then (some (-1 : Int32)) else (zq_ck a1 20 (some (X.1 55 (zq_ix a1)))))
set_option maxRecDepth 20000 in
set_option maxHeartbeats 8000000 in
theorem s_X0_bodyAt (G : zq_G) (N z j : Nat) (X : zq_M) (a1 : Int32) : zq_V G YX0_bodyAt (2, 0, 0) (zq_ei (zq_shX j) z X) 0 0 0 (lv_args 0 [.ref (zq_ad G 54), .int a1]) [] (zq_shX j) z X (f_X0_bodyAt N j X a1) := by
  unfold f_X0_bodyAt
  refine zr_lo (l2 := [(0, .ref (zq_ad G 54)), (1, .int a1)]) [0, 1] rfl ?_
  refine zr_iload_n (pc := 0) (zq_d eX0_bodyAt 0 rfl) 1 rfl rfl ?_
  refine zr_iconst (pc := 1) (zq_d eX0_bodyAt 1 rfl) zc_i0 ?_
  refine zr_aload_n (pc := 2) (zq_d eX0_bodyAt 2 rfl) 0 rfl rfl ?_
  refine zr_getI (pc := 3) (zq_d eX0_bodyAt 3 rfl) zf_RX0_15 (kx_54_1 j) ?_
  refine zr_bipush (pc := 6) (zq_d eX0_bodyAt 4 rfl) zc_b20 ?_
  refine zr_min (pc := 8) (zq_d eX0_bodyAt 5 rfl) zl_RX0_19 zx_min1 zx_min2 zx_min3 (Nat.le_of_ble_eq_true rfl) (Nat.le_of_ble_eq_true rfl) ⟨Nat.le_refl _, Nat.le_refl _⟩ ?_
  refine zr_iconst (pc := 11) (zq_d eX0_bodyAt 6 rfl) zc_i1 ?_
  refine zr_isub (pc := 12) (zq_d eX0_bodyAt 7 rfl) ?_
  refine zr_Ni (pc := 13) "MiddleSpeaks" [_, _, _] (zq_d eX0_bodyAt 8 rfl) (s_X10_isFromTo G N z j X _ _ _) zd_X10_isFromTo (List.mem_of_getElem? (i := 8) rfl) rfl rfl (Nat.le_of_ble_eq_true rfl) (Nat.le_of_ble_eq_true rfl) (Nat.le_of_ble_eq_true rfl) ⟨Nat.le_refl _, Nat.le_refl _⟩ (fun v1 => ?_)
  refine zr_if_eq (pc := 16) 28 (zq_d eX0_bodyAt 9 rfl) (by decide) (fun _ => ?_) (fun _ => ?_)
  · refine zr_iconst (pc := 28) (zq_d eX0_bodyAt 15 rfl) zc_im1 ?_
    exact zr_ireturn (pc := 29) (zq_d eX0_bodyAt 16 rfl) rfl rfl (Nat.zero_le _) (Nat.zero_le _)
  · refine zr_aload_n (pc := 19) (zq_d eX0_bodyAt 10 rfl) 0 rfl rfl ?_
    refine zr_getC (pc := 20) (zq_d eX0_bodyAt 11 rfl) zf_RX0_11 (kx_54_0 j) ?_
    refine zr_iload_n (pc := 23) (zq_d eX0_bodyAt 12 rfl) 1 rfl rfl ?_
    refine zr_iald (pc := 24) (zq_d eX0_bodyAt 13 rfl) (ax_55 j) ?_
    refine zr_goto (pc := 25) 29 (zq_d eX0_bodyAt 14 rfl) (by decide) ?_
    exact zr_ireturn (pc := 29) (zq_d eX0_bodyAt 16 rfl) rfl rfl (Nat.zero_le _) (Nat.zero_le _)
def b_X0_bodyFrom_4 (a2 : Int32) (rc4_1 : Int32 → Int32 → Option Int32) (v1 : Int32) (v2 : Int32) : Option Int32 :=
  if (7 : Int32) ≤ v2 then (some (0 : Int32)) else (if v1 < 0 then (some (0 : Int32)) else (zq_ck ((v1 * (3 : Int32)) + a2) 21 (zq_b (zq_own.getD (zq_ix ((v1 * (3 : Int32)) + a2)) 0) (fun v3 => if v3 = 0 then (zq_ck v1 7 (rc4_1 (zq_above.getD (zq_ix v1) 0) (v2 + (1 : Int32)))) else (some v3)))))
def f_X0_bodyFrom (N j : Nat) (X : zq_M) (a1 : Int32) (a2 : Int32) : Option Int32 :=
  zq_loop (fun _ _ => none) (b_X0_bodyFrom_4 a2) N a1 (0 : Int32)
set_option maxRecDepth 20000 in
set_option maxHeartbeats 8000000 in
theorem s_X0_bodyFrom (G : zq_G) (N z j : Nat) (X : zq_M) (a1 : Int32) (a2 : Int32) : zq_V G YX0_bodyFrom (1, 0, 0) (zq_ei (zq_shX j) z X) 0 0 0 (lv_args 0 [.int a1, .int a2]) [] (zq_shX j) z X (f_X0_bodyFrom N j X a1 a2) := by
  unfold f_X0_bodyFrom
  refine zr_lo (l2 := [(0, .int a1), (1, .int a2)]) [0, 1] rfl ?_
  refine zr_iload_n (pc := 0) (zq_d eX0_bodyFrom 0 rfl) 0 rfl rfl ?_
  refine zr_istore_n (pc := 1) (lo2 := [(2, .int a1), (0, .int a1), (1, .int a2)]) (zq_d eX0_bodyFrom 1 rfl) rfl (Nat.le_of_ble_eq_true rfl) rfl ?_
  refine zr_iconst (pc := 2) (zq_d eX0_bodyFrom 2 rfl) zc_i0 ?_
  refine zr_istore_n (pc := 3) (lo2 := [(3, .int (0 : Int32)), (2, .int a1), (0, .int a1), (1, .int a2)]) (zq_d eX0_bodyFrom 3 rfl) rfl (Nat.le_of_ble_eq_true rfl) rfl ?_
  have hbrc4_1 : ∀ rc4_1 : Int32 → Int32 → Option Int32, (∀ (v1 : Int32) (v2 : Int32), zq_V G YX0_bodyFrom (1, 0, 0) (zq_ei (zq_shX j) z X) 0 0 4 [(1, .int a2), (2, .int v1), (3, .int v2)] [] (zq_shX j) z X (rc4_1 v1 v2)) → ∀ (v1 : Int32) (v2 : Int32), zq_V G YX0_bodyFrom (1, 0, 0) (zq_ei (zq_shX j) z X) 0 0 4 [(1, .int a2), (2, .int v1), (3, .int v2)] [] (zq_shX j) z X (b_X0_bodyFrom_4 a2 rc4_1 v1 v2) := by
    intro rc4_1 hrc4_1 v1 v2
    unfold b_X0_bodyFrom_4
    refine zr_iload_n (pc := 4) (zq_d eX0_bodyFrom 4 rfl) 2 rfl rfl ?_
    refine zr_bipush (pc := 5) (zq_d eX0_bodyFrom 5 rfl) zc_b7 ?_
    refine zr_icmp_ge (pc := 7) 45 (zq_d eX0_bodyFrom 6 rfl) (by decide) (fun _ => ?_) (fun _ => ?_)
    · refine zr_iconst (pc := 45) (zq_d eX0_bodyFrom 27 rfl) zc_i0 ?_
      exact zr_ireturn (pc := 46) (zq_d eX0_bodyFrom 28 rfl) rfl rfl (Nat.zero_le _) (Nat.zero_le _)
    · refine zr_iload_n (pc := 10) (zq_d eX0_bodyFrom 7 rfl) 1 rfl rfl ?_
      refine zr_if_lt (pc := 11) 45 (zq_d eX0_bodyFrom 8 rfl) (by decide) (fun _ => ?_) (fun _ => ?_)
      · refine zr_iconst (pc := 45) (zq_d eX0_bodyFrom 27 rfl) zc_i0 ?_
        exact zr_ireturn (pc := 46) (zq_d eX0_bodyFrom 28 rfl) rfl rfl (Nat.zero_le _) (Nat.zero_le _)
      · refine zr_gsO (pc := 14) (zq_d eX0_bodyFrom 9 rfl) zg_RX0_42 ?_
        refine zr_iload_n (pc := 17) (zq_d eX0_bodyFrom 10 rfl) 1 rfl rfl ?_
        refine zr_iconst (pc := 18) (zq_d eX0_bodyFrom 11 rfl) zc_i3 ?_
        refine zr_imul (pc := 19) (zq_d eX0_bodyFrom 12 rfl) ?_
        refine zr_iload_n (pc := 20) (zq_d eX0_bodyFrom 13 rfl) 0 rfl rfl ?_
        refine zr_iadd (pc := 21) (zq_d eX0_bodyFrom 14 rfl) ?_
        refine zr_tald1 (pc := 22) (zq_d eX0_bodyFrom 15 rfl) ?_
        refine zr_nm (fun v3 => ?_)
        refine zr_istore (pc := 23) (lo2 := [(4, .int v3), (1, .int a2), (2, .int v1), (3, .int v2)]) (zq_d eX0_bodyFrom 16 rfl) (Nat.le_of_ble_eq_true rfl) rfl ?_
        refine zr_iload (pc := 25) (zq_d eX0_bodyFrom 17 rfl) 0 rfl ?_
        refine zr_if_eq (pc := 27) 33 (zq_d eX0_bodyFrom 18 rfl) (by decide) (fun _ => ?_) (fun _ => ?_)
        · refine zr_gsAN (pc := 33) (zq_d eX0_bodyFrom 21 rfl) rfl ?_
          refine zr_iload_n (pc := 36) (zq_d eX0_bodyFrom 22 rfl) 2 rfl rfl ?_
          refine zr_tald0 (pc := 37) (zq_d eX0_bodyFrom 23 rfl) ?_
          refine zr_istore_n (pc := 38) (lo2 := [(2, .int (zq_above.getD (zq_ix v1) 0)), (4, .int v3), (1, .int a2), (3, .int v2)]) (zq_d eX0_bodyFrom 24 rfl) rfl (Nat.le_of_ble_eq_true rfl) rfl ?_
          refine zr_iinc (pc := 39) (j := 3) (v := (v2 + (1 : Int32))) (lo2 := [(3, .int (v2 + (1 : Int32))), (2, .int (zq_above.getD (zq_ix v1) 0)), (4, .int v3), (1, .int a2)]) (zq_d eX0_bodyFrom 25 rfl) rfl (by rw [zc_i1]) (Nat.le_of_ble_eq_true rfl) rfl ?_
          refine zr_goto (pc := 42) 4 (zq_d eX0_bodyFrom 26 rfl) (by decide) ?_
          exact zr_lo [3, 1, 0] rfl (hrc4_1 (zq_above.getD (zq_ix v1) 0) (v2 + (1 : Int32)))
        · refine zr_iload (pc := 30) (zq_d eX0_bodyFrom 19 rfl) 0 rfl ?_
          exact zr_ireturn (pc := 32) (zq_d eX0_bodyFrom 20 rfl) rfl rfl (Nat.zero_le _) (Nat.zero_le _)
  have hlrc4_1 := zr_loop (P := fun (rc4_1 : Int32 → Int32 → Option Int32) => ∀ (v1 : Int32) (v2 : Int32), zq_V G YX0_bodyFrom (1, 0, 0) (zq_ei (zq_shX j) z X) 0 0 4 [(1, .int a2), (2, .int v1), (3, .int v2)] [] (zq_shX j) z X (rc4_1 v1 v2)) (fun _ _ => none) (b_X0_bodyFrom_4 a2) (fun _ _ => zr_none) hbrc4_1 N
  exact zr_lo [3, 1, 0] rfl (hlrc4_1 a1 (0 : Int32))
def j_X0_note_19  (X1 : zq_M) : Option zq_M :=
  zq_b (zq_u1 X1 54 1 ((X1.1 54 1) + (1 : Int32))) (fun X2 => some X2)
def f_X0_note (N j : Nat) (X : zq_M) (a1 : Int32) : Option zq_M :=
  if (20 : Int32) ≤ (X.1 54 1) then (j_X0_note_19 X) else (zq_ck (X.1 54 1) 20 (zq_b (zq_u1 X 55 (zq_ix (X.1 54 1)) a1) (fun X3 => j_X0_note_19 X3)))
set_option maxRecDepth 20000 in
set_option maxHeartbeats 8000000 in
theorem s_X0_note (G : zq_G) (N z j : Nat) (X : zq_M) (a1 : Int32) : zq_V G YX0_note (1, 0, 0) (zq_sv (zq_shX j) z) 0 0 0 (lv_args 0 [.ref (zq_ad G 54), .int a1]) [] (zq_shX j) z X (f_X0_note N j X a1) := by
  unfold f_X0_note
  refine zr_lo (l2 := [(0, .ref (zq_ad G 54)), (1, .int a1)]) [0, 1] rfl ?_
  refine zr_aload_n (pc := 0) (zq_d eX0_note 0 rfl) 0 rfl rfl ?_
  refine zr_getI (pc := 1) (zq_d eX0_note 1 rfl) zf_RX0_15 (kx_54_1 j) ?_
  refine zr_bipush (pc := 4) (zq_d eX0_note 2 rfl) zc_b20 ?_
  have hj19_1 : ∀ (X1 : zq_M), zq_V G YX0_note (1, 0, 0) (zq_sv (zq_shX j) z) 0 0 19 [(0, .ref (zq_ad G 54))] [] (zq_shX j) z X1 (j_X0_note_19 X1) := by
    intro X1
    unfold j_X0_note_19
    refine zr_aload_n (pc := 19) (zq_d eX0_note 10 rfl) 0 rfl rfl ?_
    refine zr_dup (pc := 20) (zq_d eX0_note 11 rfl) rfl ?_
    refine zr_getI (pc := 21) (zq_d eX0_note 12 rfl) zf_RX0_15 (kx_54_1 j) ?_
    refine zr_iconst (pc := 24) (zq_d eX0_note 13 rfl) zc_i1 ?_
    refine zr_iadd (pc := 25) (zq_d eX0_note 14 rfl) ?_
    refine zr_putI (pc := 26) (zq_d eX0_note 15 rfl) zf_RX0_15 (kx_54_1 j) zn_0_1 (fun X2 => ?_)
    exact zr_vreturn (pc := 29) (zq_d eX0_note 16 rfl) rfl rfl (Nat.zero_le _) (Nat.zero_le _)
  refine zr_icmp_ge (pc := 6) 19 (zq_d eX0_note 3 rfl) (by decide) (fun _ => ?_) (fun _ => ?_)
  · exact zr_lo [0] rfl (hj19_1 X)
  · refine zr_aload_n (pc := 9) (zq_d eX0_note 4 rfl) 0 rfl rfl ?_
    refine zr_getC (pc := 10) (zq_d eX0_note 5 rfl) zf_RX0_11 (kx_54_0 j) ?_
    refine zr_aload_n (pc := 13) (zq_d eX0_note 6 rfl) 0 rfl rfl ?_
    refine zr_getI (pc := 14) (zq_d eX0_note 7 rfl) zf_RX0_15 (kx_54_1 j) ?_
    refine zr_iload_n (pc := 17) (zq_d eX0_note 8 rfl) 1 rfl rfl ?_
    refine zr_iast (pc := 18) (zq_d eX0_note 9 rfl) (ax_55 j) (fun X3 => ?_)
    exact zr_lo [0] rfl (hj19_1 X3)
def B_X0_doFrom (N j : Nat) (rc : Int32 → Int32 → Int32 → Int32 → zq_M → Option (Int32 × zq_M)) (a1 : Int32) (a2 : Int32) (a3 : Int32) (a4 : Int32) (X : zq_M) : Option (Int32 × zq_M) :=
  (f_X0_bodyFrom N j X a1 a2).bind (fun v1 => if v1 = 0 then (some ((0 : Int32), X)) else (if a4 ≤ (40 : Int32) then ((f_X0_note N j X v1).bind (fun X2 => zq_ck ((v1 / (10 : Int32)) - (1 : Int32)) 7 (zq_b (zq_above.getD (zq_ix ((v1 / (10 : Int32)) - (1 : Int32))) 0) (fun v3 => if v1 = (10 : Int32) then (some ((a3 + (X2.1 54 2)), X2)) else (if v1 = (11 : Int32) then ((rc (X2.1 54 3) (0 : Int32) a3 (a4 + (1 : Int32)) X2).bind (zq_p (fun v26 X27 => some ((v26 - (X27.1 54 4)), X27)))) else (if v1 = (12 : Int32) then ((rc (X2.1 54 3) (1 : Int32) a3 (a4 + (1 : Int32)) X2).bind (zq_p (fun v24 X25 => some ((v24 * (2 : Int32)), X25)))) else (if v1 = (20 : Int32) then ((rc v3 (1 : Int32) a3 (a4 + (1 : Int32)) X2).bind (zq_p (fun v22 X23 => some ((v22 ^^^ (6 : Int32)), X23)))) else (if v1 = (30 : Int32) then ((rc v3 (0 : Int32) (a3 * (3 : Int32)) (a4 + (1 : Int32)) X2).bind (zq_p (fun v20 X21 => some (v20, X21)))) else (if v1 = (40 : Int32) then ((rc v3 (2 : Int32) a3 (a4 + (1 : Int32)) X2).bind (zq_p (fun v16 X17 => (rc (X17.1 54 3) (1 : Int32) (1 : Int32) (a4 + (1 : Int32)) X17).bind (zq_p (fun v18 X19 => some ((v16 + v18), X19)))))) else (if v1 = (50 : Int32) then ((rc v3 (0 : Int32) a3 (a4 + (1 : Int32)) X2).bind (zq_p (fun v14 X15 => some ((-v14), X15)))) else (if v1 = (51 : Int32) then ((rc v3 (1 : Int32) (a3 + (1 : Int32)) (a4 + (1 : Int32)) X2).bind (zq_p (fun v12 X13 => some (v12, X13)))) else (if v1 = (60 : Int32) then ((rc v3 (2 : Int32) (a3 - (X2.1 54 2)) (a4 + (1 : Int32)) X2).bind (zq_p (fun v10 X11 => some (v10, X11)))) else (if v1 = (70 : Int32) then ((rc v3 (1 : Int32) a3 (a4 + (1 : Int32)) X2).bind (zq_p (fun v6 X7 => (rc v3 (0 : Int32) (2 : Int32) (a4 + (1 : Int32)) X7).bind (zq_p (fun v8 X9 => some ((v6 + v8), X9)))))) else (if v1 = (71 : Int32) then ((rc v3 (0 : Int32) a3 (a4 + (1 : Int32)) X2).bind (zq_p (fun v4 X5 => some ((v4 ^^^ (X5.1 54 4)), X5)))) else (some ((0 : Int32), X2)))))))))))))))) else (some ((0 : Int32), X))))
def fr_X0_doFrom (N j : Nat) : Int32 → Int32 → Int32 → Int32 → zq_M → Option (Int32 × zq_M) := zq_loop (fun _ _ _ _ _ => none) (B_X0_doFrom N j) 64
def f_X0_doFrom (N j : Nat) (X : zq_M) (a1 : Int32) (a2 : Int32) (a3 : Int32) (a4 : Int32) : Option (Int32 × zq_M) := fr_X0_doFrom N j a1 a2 a3 a4 X
set_option maxRecDepth 20000 in
set_option maxHeartbeats 8000000 in
theorem r_X0_doFrom (G : zq_G) (N z j : Nat) : ∀ (n : Nat) (a1 : Int32) (a2 : Int32) (a3 : Int32) (a4 : Int32) (X : zq_M), zq_V G YX0_doFrom (1 + n, 0, 0) (zq_si (zq_shX j) z) 0 0 0 (lv_args 0 [.ref (zq_ad G 54), .int a1, .int a2, .int a3, .int a4]) [] (zq_shX j) z X (zq_loop (fun _ _ _ _ _ => none) (B_X0_doFrom N j) n a1 a2 a3 a4 X) := by
  intro n
  induction n with
    | zero =>
      intro a1 a2 a3 a4 X
      exact zr_none
    | succ n ih =>
      intro a1 a2 a3 a4 X
      show zq_V G YX0_doFrom (1 + (n + 1), 0, 0) (zq_si (zq_shX j) z) 0 0 0 (lv_args 0 [.ref (zq_ad G 54), .int a1, .int a2, .int a3, .int a4]) [] (zq_shX j) z X (B_X0_doFrom N j (zq_loop (fun _ _ _ _ _ => none) (B_X0_doFrom N j) n) a1 a2 a3 a4 X)
      generalize zq_loop (fun _ _ _ _ _ => none) (B_X0_doFrom N j) n = rc at ih ⊢
      unfold B_X0_doFrom
      refine zr_lo (l2 := [(0, .ref (zq_ad G 54)), (1, .int a1), (2, .int a2), (3, .int a3), (4, .int a4)]) [0, 1, 2, 3, 4] rfl ?_
      refine zr_iload_n (pc := 0) (zq_d eX0_doFrom 0 rfl) 1 rfl rfl ?_
      refine zr_iload_n (pc := 1) (zq_d eX0_doFrom 1 rfl) 2 rfl rfl ?_
      refine zr_Si (pc := 2) [_, _] (zq_d eX0_doFrom 2 rfl) (s_X0_bodyFrom G N z j X _ _) zd_X0_bodyFrom zl_RX0_48 rfl rfl (Nat.le_of_ble_eq_true rfl) (Nat.le_of_ble_eq_true rfl) (show 1 + 1 ≤ 1 + (n + 1) by omega) ⟨Nat.le_refl _, Nat.le_refl _⟩ (fun v1 => ?_)
      refine zr_istore (pc := 5) (lo2 := [(5, .int v1), (0, .ref (zq_ad G 54)), (1, .int a1), (2, .int a2), (3, .int a3), (4, .int a4)]) (zq_d eX0_doFrom 3 rfl) (Nat.le_of_ble_eq_true rfl) rfl ?_
      refine zr_iload (pc := 7) (zq_d eX0_doFrom 4 rfl) 0 rfl ?_
      refine zr_if_eq (pc := 9) 19 (zq_d eX0_doFrom 5 rfl) (by decide) (fun _ => ?_) (fun _ => ?_)
      · refine zr_iconst (pc := 19) (zq_d eX0_doFrom 9 rfl) zc_i0 ?_
        exact zr_ireturn (pc := 20) (zq_d eX0_doFrom 10 rfl) rfl rfl (Nat.zero_le _) (Nat.zero_le _)
      · refine zr_iload (pc := 12) (zq_d eX0_doFrom 6 rfl) 5 rfl ?_
        refine zr_bipush (pc := 14) (zq_d eX0_doFrom 7 rfl) zc_b40 ?_
        refine zr_icmp_le (pc := 16) 21 (zq_d eX0_doFrom 8 rfl) (by decide) (fun _ => ?_) (fun _ => ?_)
        · refine zr_aload_n (pc := 21) (zq_d eX0_doFrom 11 rfl) 1 rfl rfl ?_
          refine zr_iload (pc := 22) (zq_d eX0_doFrom 12 rfl) 0 rfl ?_
          refine zr_Vv (pc := 24) [_] (zq_d eX0_doFrom 13 rfl) (s_X0_note G N z j X _) zd_X0_note zl_RX0_51 (ox_54 j) rfl rfl rfl rfl (Nat.le_of_ble_eq_true rfl) (Nat.le_of_ble_eq_true rfl) (show 1 + 1 ≤ 1 + (n + 1) by omega) ⟨Nat.le_refl _, Nat.le_refl _⟩ (fun X2 => ?_)
          refine zr_gsAN (pc := 27) (zq_d eX0_doFrom 14 rfl) rfl ?_
          refine zr_iload (pc := 30) (zq_d eX0_doFrom 15 rfl) 0 rfl ?_
          refine zr_bipush (pc := 32) (zq_d eX0_doFrom 16 rfl) zc_b10 ?_
          refine zr_idivk (pc := 34) (zq_d eX0_doFrom 17 rfl) (by decide) ?_
          refine zr_iconst (pc := 35) (zq_d eX0_doFrom 18 rfl) zc_i1 ?_
          refine zr_isub (pc := 36) (zq_d eX0_doFrom 19 rfl) ?_
          refine zr_tald0 (pc := 37) (zq_d eX0_doFrom 20 rfl) ?_
          refine zr_nm (fun v3 => ?_)
          refine zr_istore (pc := 38) (lo2 := [(6, .int v3), (5, .int v1), (0, .ref (zq_ad G 54)), (1, .int a1), (2, .int a2), (3, .int a3), (4, .int a4)]) (zq_d eX0_doFrom 21 rfl) (Nat.le_of_ble_eq_true rfl) rfl ?_
          refine zr_iload (pc := 40) (zq_d eX0_doFrom 22 rfl) 6 rfl ?_
          refine zr_iconst (pc := 42) (zq_d eX0_doFrom 23 rfl) zc_i1 ?_
          refine zr_iadd (pc := 43) (zq_d eX0_doFrom 24 rfl) ?_
          refine zr_istore (pc := 44) (lo2 := [(7, .int (a4 + (1 : Int32))), (6, .int v3), (5, .int v1), (0, .ref (zq_ad G 54)), (1, .int a1), (2, .int a2), (3, .int a3), (4, .int a4)]) (zq_d eX0_doFrom 25 rfl) (Nat.le_of_ble_eq_true rfl) rfl ?_
          refine zr_iload (pc := 46) (zq_d eX0_doFrom 26 rfl) 2 rfl ?_
          refine zr_cs (fun q1 => ?_) (fun q1 => ?_)
          · refine zr_lok (pc := 48) (n := 10) 148 (zq_d eX0_doFrom 27 rfl) q1 (by decide) (by decide) rfl (by decide) ?_
            refine zr_iload_n (pc := 148) (zq_d eX0_doFrom 28 rfl) 6 rfl rfl ?_
            refine zr_aload_n (pc := 149) (zq_d eX0_doFrom 29 rfl) 3 rfl rfl ?_
            refine zr_getI (pc := 150) (zq_d eX0_doFrom 30 rfl) zf_RX0_29 (kx_54_2 j) ?_
            refine zr_iadd (pc := 153) (zq_d eX0_doFrom 31 rfl) ?_
            exact zr_ireturn (pc := 154) (zq_d eX0_doFrom 32 rfl) rfl rfl (Nat.zero_le _) (Nat.zero_le _)
          · refine zr_cs (fun q2 => ?_) (fun q2 => ?_)
            · refine zr_lok (pc := 48) (n := 11) 155 (zq_d eX0_doFrom 27 rfl) q2 (by decide) (by decide) rfl (by decide) ?_
              refine zr_aload_n (pc := 155) (zq_d eX0_doFrom 33 rfl) 3 rfl rfl ?_
              refine zr_aload_n (pc := 156) (zq_d eX0_doFrom 34 rfl) 3 rfl rfl ?_
              refine zr_getI (pc := 157) (zq_d eX0_doFrom 35 rfl) zf_RX0_32 (kx_54_3 j) ?_
              refine zr_iconst (pc := 160) (zq_d eX0_doFrom 36 rfl) zc_i0 ?_
              refine zr_iload_n (pc := 161) (zq_d eX0_doFrom 37 rfl) 6 rfl rfl ?_
              refine zr_iload (pc := 162) (zq_d eX0_doFrom 38 rfl) 0 rfl ?_
              refine zr_Wsi (pc := 164) [_, _, _, _] (zq_d eX0_doFrom 39 rfl) (ih _ _ _ _ X2) zd_X0_doFrom zl_RX0_38 (ox_54 j) rfl rfl rfl rfl (Nat.le_of_ble_eq_true rfl) (Nat.le_of_ble_eq_true rfl) (show (1 + n) + 1 ≤ 1 + (n + 1) by omega) ⟨Nat.le_refl _, Nat.le_refl _⟩ (fun v26 X27 => ?_)
              refine zr_aload_n (pc := 167) (zq_d eX0_doFrom 40 rfl) 3 rfl rfl ?_
              refine zr_getI (pc := 168) (zq_d eX0_doFrom 41 rfl) zf_RX0_35 (kx_54_4 j) ?_
              refine zr_isub (pc := 171) (zq_d eX0_doFrom 42 rfl) ?_
              exact zr_ireturn (pc := 172) (zq_d eX0_doFrom 43 rfl) rfl rfl (Nat.zero_le _) (Nat.zero_le _)
            · refine zr_cs (fun q3 => ?_) (fun q3 => ?_)
              · refine zr_lok (pc := 48) (n := 12) 173 (zq_d eX0_doFrom 27 rfl) q3 (by decide) (by decide) rfl (by decide) ?_
                refine zr_aload_n (pc := 173) (zq_d eX0_doFrom 44 rfl) 3 rfl rfl ?_
                refine zr_aload_n (pc := 174) (zq_d eX0_doFrom 45 rfl) 3 rfl rfl ?_
                refine zr_getI (pc := 175) (zq_d eX0_doFrom 46 rfl) zf_RX0_32 (kx_54_3 j) ?_
                refine zr_iconst (pc := 178) (zq_d eX0_doFrom 47 rfl) zc_i1 ?_
                refine zr_iload_n (pc := 179) (zq_d eX0_doFrom 48 rfl) 6 rfl rfl ?_
                refine zr_iload (pc := 180) (zq_d eX0_doFrom 49 rfl) 0 rfl ?_
                refine zr_Wsi (pc := 182) [_, _, _, _] (zq_d eX0_doFrom 50 rfl) (ih _ _ _ _ X2) zd_X0_doFrom zl_RX0_38 (ox_54 j) rfl rfl rfl rfl (Nat.le_of_ble_eq_true rfl) (Nat.le_of_ble_eq_true rfl) (show (1 + n) + 1 ≤ 1 + (n + 1) by omega) ⟨Nat.le_refl _, Nat.le_refl _⟩ (fun v24 X25 => ?_)
                refine zr_iconst (pc := 185) (zq_d eX0_doFrom 51 rfl) zc_i2 ?_
                refine zr_imul (pc := 186) (zq_d eX0_doFrom 52 rfl) ?_
                exact zr_ireturn (pc := 187) (zq_d eX0_doFrom 53 rfl) rfl rfl (Nat.zero_le _) (Nat.zero_le _)
              · refine zr_cs (fun q4 => ?_) (fun q4 => ?_)
                · refine zr_lok (pc := 48) (n := 20) 188 (zq_d eX0_doFrom 27 rfl) q4 (by decide) (by decide) rfl (by decide) ?_
                  refine zr_aload_n (pc := 188) (zq_d eX0_doFrom 54 rfl) 3 rfl rfl ?_
                  refine zr_iload (pc := 189) (zq_d eX0_doFrom 55 rfl) 1 rfl ?_
                  refine zr_iconst (pc := 191) (zq_d eX0_doFrom 56 rfl) zc_i1 ?_
                  refine zr_iload_n (pc := 192) (zq_d eX0_doFrom 57 rfl) 6 rfl rfl ?_
                  refine zr_iload (pc := 193) (zq_d eX0_doFrom 58 rfl) 0 rfl ?_
                  refine zr_Wsi (pc := 195) [_, _, _, _] (zq_d eX0_doFrom 59 rfl) (ih _ _ _ _ X2) zd_X0_doFrom zl_RX0_38 (ox_54 j) rfl rfl rfl rfl (Nat.le_of_ble_eq_true rfl) (Nat.le_of_ble_eq_true rfl) (show (1 + n) + 1 ≤ 1 + (n + 1) by omega) ⟨Nat.le_refl _, Nat.le_refl _⟩ (fun v22 X23 => ?_)
                  refine zr_bipush (pc := 198) (zq_d eX0_doFrom 60 rfl) zc_b6 ?_
                  refine zr_ixor (pc := 200) (zq_d eX0_doFrom 61 rfl) ?_
                  exact zr_ireturn (pc := 201) (zq_d eX0_doFrom 62 rfl) rfl rfl (Nat.zero_le _) (Nat.zero_le _)
                · refine zr_cs (fun q5 => ?_) (fun q5 => ?_)
                  · refine zr_lok (pc := 48) (n := 30) 202 (zq_d eX0_doFrom 27 rfl) q5 (by decide) (by decide) rfl (by decide) ?_
                    refine zr_aload_n (pc := 202) (zq_d eX0_doFrom 63 rfl) 3 rfl rfl ?_
                    refine zr_iload (pc := 203) (zq_d eX0_doFrom 64 rfl) 1 rfl ?_
                    refine zr_iconst (pc := 205) (zq_d eX0_doFrom 65 rfl) zc_i0 ?_
                    refine zr_iload_n (pc := 206) (zq_d eX0_doFrom 66 rfl) 6 rfl rfl ?_
                    refine zr_iconst (pc := 207) (zq_d eX0_doFrom 67 rfl) zc_i3 ?_
                    refine zr_imul (pc := 208) (zq_d eX0_doFrom 68 rfl) ?_
                    refine zr_iload (pc := 209) (zq_d eX0_doFrom 69 rfl) 0 rfl ?_
                    refine zr_Wsi (pc := 211) [_, _, _, _] (zq_d eX0_doFrom 70 rfl) (ih _ _ _ _ X2) zd_X0_doFrom zl_RX0_38 (ox_54 j) rfl rfl rfl rfl (Nat.le_of_ble_eq_true rfl) (Nat.le_of_ble_eq_true rfl) (show (1 + n) + 1 ≤ 1 + (n + 1) by omega) ⟨Nat.le_refl _, Nat.le_refl _⟩ (fun v20 X21 => ?_)
                    exact zr_ireturn (pc := 214) (zq_d eX0_doFrom 71 rfl) rfl rfl (Nat.zero_le _) (Nat.zero_le _)
                  · refine zr_cs (fun q6 => ?_) (fun q6 => ?_)
                    · refine zr_lok (pc := 48) (n := 40) 215 (zq_d eX0_doFrom 27 rfl) q6 (by decide) (by decide) rfl (by decide) ?_
                      refine zr_aload_n (pc := 215) (zq_d eX0_doFrom 72 rfl) 3 rfl rfl ?_
                      refine zr_iload (pc := 216) (zq_d eX0_doFrom 73 rfl) 1 rfl ?_
                      refine zr_iconst (pc := 218) (zq_d eX0_doFrom 74 rfl) zc_i2 ?_
                      refine zr_iload_n (pc := 219) (zq_d eX0_doFrom 75 rfl) 6 rfl rfl ?_
                      refine zr_iload (pc := 220) (zq_d eX0_doFrom 76 rfl) 0 rfl ?_
                      refine zr_Wsi (pc := 222) [_, _, _, _] (zq_d eX0_doFrom 77 rfl) (ih _ _ _ _ X2) zd_X0_doFrom zl_RX0_38 (ox_54 j) rfl rfl rfl rfl (Nat.le_of_ble_eq_true rfl) (Nat.le_of_ble_eq_true rfl) (show (1 + n) + 1 ≤ 1 + (n + 1) by omega) ⟨Nat.le_refl _, Nat.le_refl _⟩ (fun v16 X17 => ?_)
                      refine zr_aload_n (pc := 225) (zq_d eX0_doFrom 78 rfl) 3 rfl rfl ?_
                      refine zr_aload_n (pc := 226) (zq_d eX0_doFrom 79 rfl) 3 rfl rfl ?_
                      refine zr_getI (pc := 227) (zq_d eX0_doFrom 80 rfl) zf_RX0_32 (kx_54_3 j) ?_
                      refine zr_iconst (pc := 230) (zq_d eX0_doFrom 81 rfl) zc_i1 ?_
                      refine zr_iconst (pc := 231) (zq_d eX0_doFrom 82 rfl) zc_i1 ?_
                      refine zr_iload (pc := 232) (zq_d eX0_doFrom 83 rfl) 0 rfl ?_
                      refine zr_Wsi (pc := 234) [_, _, _, _] (zq_d eX0_doFrom 84 rfl) (ih _ _ _ _ X17) zd_X0_doFrom zl_RX0_38 (ox_54 j) rfl rfl rfl rfl (Nat.le_of_ble_eq_true rfl) (Nat.le_of_ble_eq_true rfl) (show (1 + n) + 1 ≤ 1 + (n + 1) by omega) ⟨Nat.le_refl _, Nat.le_refl _⟩ (fun v18 X19 => ?_)
                      refine zr_iadd (pc := 237) (zq_d eX0_doFrom 85 rfl) ?_
                      exact zr_ireturn (pc := 238) (zq_d eX0_doFrom 86 rfl) rfl rfl (Nat.zero_le _) (Nat.zero_le _)
                    · refine zr_cs (fun q7 => ?_) (fun q7 => ?_)
                      · refine zr_lok (pc := 48) (n := 50) 239 (zq_d eX0_doFrom 27 rfl) q7 (by decide) (by decide) rfl (by decide) ?_
                        refine zr_aload_n (pc := 239) (zq_d eX0_doFrom 87 rfl) 3 rfl rfl ?_
                        refine zr_iload (pc := 240) (zq_d eX0_doFrom 88 rfl) 1 rfl ?_
                        refine zr_iconst (pc := 242) (zq_d eX0_doFrom 89 rfl) zc_i0 ?_
                        refine zr_iload_n (pc := 243) (zq_d eX0_doFrom 90 rfl) 6 rfl rfl ?_
                        refine zr_iload (pc := 244) (zq_d eX0_doFrom 91 rfl) 0 rfl ?_
                        refine zr_Wsi (pc := 246) [_, _, _, _] (zq_d eX0_doFrom 92 rfl) (ih _ _ _ _ X2) zd_X0_doFrom zl_RX0_38 (ox_54 j) rfl rfl rfl rfl (Nat.le_of_ble_eq_true rfl) (Nat.le_of_ble_eq_true rfl) (show (1 + n) + 1 ≤ 1 + (n + 1) by omega) ⟨Nat.le_refl _, Nat.le_refl _⟩ (fun v14 X15 => ?_)
                        refine zr_ineg (pc := 249) (zq_d eX0_doFrom 93 rfl) ?_
                        exact zr_ireturn (pc := 250) (zq_d eX0_doFrom 94 rfl) rfl rfl (Nat.zero_le _) (Nat.zero_le _)
                      · refine zr_cs (fun q8 => ?_) (fun q8 => ?_)
                        · refine zr_lok (pc := 48) (n := 51) 251 (zq_d eX0_doFrom 27 rfl) q8 (by decide) (by decide) rfl (by decide) ?_
                          refine zr_aload_n (pc := 251) (zq_d eX0_doFrom 95 rfl) 3 rfl rfl ?_
                          refine zr_iload (pc := 252) (zq_d eX0_doFrom 96 rfl) 1 rfl ?_
                          refine zr_iconst (pc := 254) (zq_d eX0_doFrom 97 rfl) zc_i1 ?_
                          refine zr_iload_n (pc := 255) (zq_d eX0_doFrom 98 rfl) 6 rfl rfl ?_
                          refine zr_iconst (pc := 256) (zq_d eX0_doFrom 99 rfl) zc_i1 ?_
                          refine zr_iadd (pc := 257) (zq_d eX0_doFrom 100 rfl) ?_
                          refine zr_iload (pc := 258) (zq_d eX0_doFrom 101 rfl) 0 rfl ?_
                          refine zr_Wsi (pc := 260) [_, _, _, _] (zq_d eX0_doFrom 102 rfl) (ih _ _ _ _ X2) zd_X0_doFrom zl_RX0_38 (ox_54 j) rfl rfl rfl rfl (Nat.le_of_ble_eq_true rfl) (Nat.le_of_ble_eq_true rfl) (show (1 + n) + 1 ≤ 1 + (n + 1) by omega) ⟨Nat.le_refl _, Nat.le_refl _⟩ (fun v12 X13 => ?_)
                          exact zr_ireturn (pc := 263) (zq_d eX0_doFrom 103 rfl) rfl rfl (Nat.zero_le _) (Nat.zero_le _)
                        · refine zr_cs (fun q9 => ?_) (fun q9 => ?_)
                          · refine zr_lok (pc := 48) (n := 60) 264 (zq_d eX0_doFrom 27 rfl) q9 (by decide) (by decide) rfl (by decide) ?_
                            refine zr_aload_n (pc := 264) (zq_d eX0_doFrom 104 rfl) 3 rfl rfl ?_
                            refine zr_iload (pc := 265) (zq_d eX0_doFrom 105 rfl) 1 rfl ?_
                            refine zr_iconst (pc := 267) (zq_d eX0_doFrom 106 rfl) zc_i2 ?_
                            refine zr_iload_n (pc := 268) (zq_d eX0_doFrom 107 rfl) 6 rfl rfl ?_
                            refine zr_aload_n (pc := 269) (zq_d eX0_doFrom 108 rfl) 3 rfl rfl ?_
                            refine zr_getI (pc := 270) (zq_d eX0_doFrom 109 rfl) zf_RX0_29 (kx_54_2 j) ?_
                            refine zr_isub (pc := 273) (zq_d eX0_doFrom 110 rfl) ?_
                            refine zr_iload (pc := 274) (zq_d eX0_doFrom 111 rfl) 0 rfl ?_
                            refine zr_Wsi (pc := 276) [_, _, _, _] (zq_d eX0_doFrom 112 rfl) (ih _ _ _ _ X2) zd_X0_doFrom zl_RX0_38 (ox_54 j) rfl rfl rfl rfl (Nat.le_of_ble_eq_true rfl) (Nat.le_of_ble_eq_true rfl) (show (1 + n) + 1 ≤ 1 + (n + 1) by omega) ⟨Nat.le_refl _, Nat.le_refl _⟩ (fun v10 X11 => ?_)
                            exact zr_ireturn (pc := 279) (zq_d eX0_doFrom 113 rfl) rfl rfl (Nat.zero_le _) (Nat.zero_le _)
                          · refine zr_cs (fun q10 => ?_) (fun q10 => ?_)
                            · refine zr_lok (pc := 48) (n := 70) 280 (zq_d eX0_doFrom 27 rfl) q10 (by decide) (by decide) rfl (by decide) ?_
                              refine zr_aload_n (pc := 280) (zq_d eX0_doFrom 114 rfl) 3 rfl rfl ?_
                              refine zr_iload (pc := 281) (zq_d eX0_doFrom 115 rfl) 1 rfl ?_
                              refine zr_iconst (pc := 283) (zq_d eX0_doFrom 116 rfl) zc_i1 ?_
                              refine zr_iload_n (pc := 284) (zq_d eX0_doFrom 117 rfl) 6 rfl rfl ?_
                              refine zr_iload (pc := 285) (zq_d eX0_doFrom 118 rfl) 0 rfl ?_
                              refine zr_Wsi (pc := 287) [_, _, _, _] (zq_d eX0_doFrom 119 rfl) (ih _ _ _ _ X2) zd_X0_doFrom zl_RX0_38 (ox_54 j) rfl rfl rfl rfl (Nat.le_of_ble_eq_true rfl) (Nat.le_of_ble_eq_true rfl) (show (1 + n) + 1 ≤ 1 + (n + 1) by omega) ⟨Nat.le_refl _, Nat.le_refl _⟩ (fun v6 X7 => ?_)
                              refine zr_aload_n (pc := 290) (zq_d eX0_doFrom 120 rfl) 3 rfl rfl ?_
                              refine zr_iload (pc := 291) (zq_d eX0_doFrom 121 rfl) 1 rfl ?_
                              refine zr_iconst (pc := 293) (zq_d eX0_doFrom 122 rfl) zc_i0 ?_
                              refine zr_iconst (pc := 294) (zq_d eX0_doFrom 123 rfl) zc_i2 ?_
                              refine zr_iload (pc := 295) (zq_d eX0_doFrom 124 rfl) 0 rfl ?_
                              refine zr_Wsi (pc := 297) [_, _, _, _] (zq_d eX0_doFrom 125 rfl) (ih _ _ _ _ X7) zd_X0_doFrom zl_RX0_38 (ox_54 j) rfl rfl rfl rfl (Nat.le_of_ble_eq_true rfl) (Nat.le_of_ble_eq_true rfl) (show (1 + n) + 1 ≤ 1 + (n + 1) by omega) ⟨Nat.le_refl _, Nat.le_refl _⟩ (fun v8 X9 => ?_)
                              refine zr_iadd (pc := 300) (zq_d eX0_doFrom 126 rfl) ?_
                              exact zr_ireturn (pc := 301) (zq_d eX0_doFrom 127 rfl) rfl rfl (Nat.zero_le _) (Nat.zero_le _)
                            · refine zr_cs (fun q11 => ?_) (fun q11 => ?_)
                              · refine zr_lok (pc := 48) (n := 71) 302 (zq_d eX0_doFrom 27 rfl) q11 (by decide) (by decide) rfl (by decide) ?_
                                refine zr_aload_n (pc := 302) (zq_d eX0_doFrom 128 rfl) 3 rfl rfl ?_
                                refine zr_iload (pc := 303) (zq_d eX0_doFrom 129 rfl) 1 rfl ?_
                                refine zr_iconst (pc := 305) (zq_d eX0_doFrom 130 rfl) zc_i0 ?_
                                refine zr_iload_n (pc := 306) (zq_d eX0_doFrom 131 rfl) 6 rfl rfl ?_
                                refine zr_iload (pc := 307) (zq_d eX0_doFrom 132 rfl) 0 rfl ?_
                                refine zr_Wsi (pc := 309) [_, _, _, _] (zq_d eX0_doFrom 133 rfl) (ih _ _ _ _ X2) zd_X0_doFrom zl_RX0_38 (ox_54 j) rfl rfl rfl rfl (Nat.le_of_ble_eq_true rfl) (Nat.le_of_ble_eq_true rfl) (show (1 + n) + 1 ≤ 1 + (n + 1) by omega) ⟨Nat.le_refl _, Nat.le_refl _⟩ (fun v4 X5 => ?_)
                                refine zr_aload_n (pc := 312) (zq_d eX0_doFrom 134 rfl) 3 rfl rfl ?_
                                refine zr_getI (pc := 313) (zq_d eX0_doFrom 135 rfl) zf_RX0_35 (kx_54_4 j) ?_
                                refine zr_ixor (pc := 316) (zq_d eX0_doFrom 136 rfl) ?_
                                exact zr_ireturn (pc := 317) (zq_d eX0_doFrom 137 rfl) rfl rfl (Nat.zero_le _) (Nat.zero_le _)
                              · refine zr_lokD (pc := 48) 318 (zq_d eX0_doFrom 27 rfl) (by decide) (List.forall_mem_cons.mpr ⟨zq_nt (by decide) q1, List.forall_mem_cons.mpr ⟨zq_nt (by decide) q2, List.forall_mem_cons.mpr ⟨zq_nt (by decide) q3, List.forall_mem_cons.mpr ⟨zq_nt (by decide) q4, List.forall_mem_cons.mpr ⟨zq_nt (by decide) q5, List.forall_mem_cons.mpr ⟨zq_nt (by decide) q6, List.forall_mem_cons.mpr ⟨zq_nt (by decide) q7, List.forall_mem_cons.mpr ⟨zq_nt (by decide) q8, List.forall_mem_cons.mpr ⟨zq_nt (by decide) q9, List.forall_mem_cons.mpr ⟨zq_nt (by decide) q10, List.forall_mem_cons.mpr ⟨zq_nt (by decide) q11, List.forall_mem_nil _⟩⟩⟩⟩⟩⟩⟩⟩⟩⟩⟩) (by decide) ?_
                                refine zr_iconst (pc := 318) (zq_d eX0_doFrom 138 rfl) zc_i0 ?_
                                exact zr_ireturn (pc := 319) (zq_d eX0_doFrom 139 rfl) rfl rfl (Nat.zero_le _) (Nat.zero_le _)
        · refine zr_iconst (pc := 19) (zq_d eX0_doFrom 9 rfl) zc_i0 ?_
          exact zr_ireturn (pc := 20) (zq_d eX0_doFrom 10 rfl) rfl rfl (Nat.zero_le _) (Nat.zero_le _)
theorem s_X0_doFrom (G : zq_G) (N z j : Nat) (X : zq_M) (a1 : Int32) (a2 : Int32) (a3 : Int32) (a4 : Int32) : zq_V G YX0_doFrom (65, 0, 0) (zq_si (zq_shX j) z) 0 0 0 (lv_args 0 [.ref (zq_ad G 54), .int a1, .int a2, .int a3, .int a4]) [] (zq_shX j) z X (f_X0_doFrom N j X a1 a2 a3 a4) := r_X0_doFrom G N z j 64 a1 a2 a3 a4 X
def f_X0_start (N j : Nat) (X : zq_M) (a1 : Int32) (a2 : Int32) (a3 : Int32) (a4 : Int32) (a5 : Int32) : Option (Int32 × zq_M) :=
  zq_b (zq_u1 X 54 2 a1) (fun X1 => zq_b (zq_u1 X1 54 3 a2) (fun X2 => zq_b (zq_u1 X2 54 4 a3) (fun X3 => (f_X0_doFrom N j X3 (X3.1 54 3) a4 a5 (0 : Int32)).bind (zq_p (fun v4 X5 => some (v4, X5))))))
set_option maxRecDepth 20000 in
set_option maxHeartbeats 8000000 in
theorem s_X0_start (G : zq_G) (N z j : Nat) (X : zq_M) (a1 : Int32) (a2 : Int32) (a3 : Int32) (a4 : Int32) (a5 : Int32) : zq_V G YX0_start (66, 0, 0) (zq_si (zq_shX j) z) 0 0 0 (lv_args 0 [.ref (zq_ad G 54), .int a1, .int a2, .int a3, .int a4, .int a5]) [] (zq_shX j) z X (f_X0_start N j X a1 a2 a3 a4 a5) := by
  unfold f_X0_start
  refine zr_lo (l2 := [(0, .ref (zq_ad G 54)), (1, .int a1), (2, .int a2), (3, .int a3), (4, .int a4), (5, .int a5)]) [0, 1, 2, 3, 4, 5] rfl ?_
  refine zr_aload_n (pc := 0) (zq_d eX0_start 0 rfl) 0 rfl rfl ?_
  refine zr_iload_n (pc := 1) (zq_d eX0_start 1 rfl) 1 rfl rfl ?_
  refine zr_putI (pc := 2) (zq_d eX0_start 2 rfl) zf_RX0_29 (kx_54_2 j) zn_0_2 (fun X1 => ?_)
  refine zr_aload_n (pc := 5) (zq_d eX0_start 3 rfl) 0 rfl rfl ?_
  refine zr_iload_n (pc := 6) (zq_d eX0_start 4 rfl) 2 rfl rfl ?_
  refine zr_putI (pc := 7) (zq_d eX0_start 5 rfl) zf_RX0_32 (kx_54_3 j) zn_0_3 (fun X2 => ?_)
  refine zr_aload_n (pc := 10) (zq_d eX0_start 6 rfl) 0 rfl rfl ?_
  refine zr_iload_n (pc := 11) (zq_d eX0_start 7 rfl) 3 rfl rfl ?_
  refine zr_putI (pc := 12) (zq_d eX0_start 8 rfl) zf_RX0_35 (kx_54_4 j) zn_0_4 (fun X3 => ?_)
  refine zr_aload_n (pc := 15) (zq_d eX0_start 9 rfl) 0 rfl rfl ?_
  refine zr_aload_n (pc := 16) (zq_d eX0_start 10 rfl) 0 rfl rfl ?_
  refine zr_getI (pc := 17) (zq_d eX0_start 11 rfl) zf_RX0_32 (kx_54_3 j) ?_
  refine zr_iload (pc := 20) (zq_d eX0_start 12 rfl) 4 rfl ?_
  refine zr_iload (pc := 22) (zq_d eX0_start 13 rfl) 5 rfl ?_
  refine zr_iconst (pc := 24) (zq_d eX0_start 14 rfl) zc_i0 ?_
  refine zr_Wsi (pc := 25) [_, _, _, _] (zq_d eX0_start 15 rfl) (s_X0_doFrom G N z j X3 _ _ _ _) zd_X0_doFrom zl_RX0_38 (ox_54 j) rfl rfl rfl rfl (Nat.le_of_ble_eq_true rfl) (Nat.le_of_ble_eq_true rfl) (Nat.le_of_ble_eq_true rfl) ⟨Nat.le_refl _, Nat.le_refl _⟩ (fun v4 X5 => ?_)
  exact zr_ireturn (pc := 28) (zq_d eX0_start 16 rfl) rfl rfl (Nat.zero_le _) (Nat.zero_le _)
def b_X1_setsOfOneWithout_4 (a1 : Int32) (a2 : Int32) (rc4_1 : Int32 → Int32 → Option Int32) (v1 : Int32) (v2 : Int32) : Option Int32 :=
  if (32 : Int32) ≤ v2 then (some v1) else (if ¬ ((zq_shr v2 a1) &&& (1 : Int32)) = (1 : Int32) then (rc4_1 v1 (v2 + (1 : Int32))) else (if ¬ ((zq_shr v2 a2) &&& (1 : Int32)) = 0 then (rc4_1 v1 (v2 + (1 : Int32))) else (rc4_1 (v1 ||| (zq_shl (1 : Int32) v2)) (v2 + (1 : Int32)))))
def f_X1_setsOfOneWithout (N j : Nat) (X : zq_M) (a1 : Int32) (a2 : Int32) : Option Int32 :=
  zq_loop (fun _ _ => none) (b_X1_setsOfOneWithout_4 a1 a2) N (0 : Int32) (0 : Int32)
set_option maxRecDepth 20000 in
set_option maxHeartbeats 8000000 in
theorem s_X1_setsOfOneWithout (G : zq_G) (N z j : Nat) (X : zq_M) (a1 : Int32) (a2 : Int32) : zq_V G YX1_setsOfOneWithout (1, 0, 0) (zq_ei (zq_shX j) z X) 0 0 0 (lv_args 0 [.int a1, .int a2]) [] (zq_shX j) z X (f_X1_setsOfOneWithout N j X a1 a2) := by
  unfold f_X1_setsOfOneWithout
  refine zr_lo (l2 := [(0, .int a1), (1, .int a2)]) [0, 1] rfl ?_
  refine zr_iconst (pc := 0) (zq_d eX1_setsOfOneWithout 0 rfl) zc_i0 ?_
  refine zr_istore_n (pc := 1) (lo2 := [(2, .int (0 : Int32)), (0, .int a1), (1, .int a2)]) (zq_d eX1_setsOfOneWithout 1 rfl) rfl (Nat.le_of_ble_eq_true rfl) rfl ?_
  refine zr_iconst (pc := 2) (zq_d eX1_setsOfOneWithout 2 rfl) zc_i0 ?_
  refine zr_istore_n (pc := 3) (lo2 := [(3, .int (0 : Int32)), (2, .int (0 : Int32)), (0, .int a1), (1, .int a2)]) (zq_d eX1_setsOfOneWithout 3 rfl) rfl (Nat.le_of_ble_eq_true rfl) rfl ?_
  have hbrc4_1 : ∀ rc4_1 : Int32 → Int32 → Option Int32, (∀ (v1 : Int32) (v2 : Int32), zq_V G YX1_setsOfOneWithout (1, 0, 0) (zq_ei (zq_shX j) z X) 0 0 4 [(0, .int a1), (1, .int a2), (2, .int v1), (3, .int v2)] [] (zq_shX j) z X (rc4_1 v1 v2)) → ∀ (v1 : Int32) (v2 : Int32), zq_V G YX1_setsOfOneWithout (1, 0, 0) (zq_ei (zq_shX j) z X) 0 0 4 [(0, .int a1), (1, .int a2), (2, .int v1), (3, .int v2)] [] (zq_shX j) z X (b_X1_setsOfOneWithout_4 a1 a2 rc4_1 v1 v2) := by
    intro rc4_1 hrc4_1 v1 v2
    unfold b_X1_setsOfOneWithout_4
    refine zr_iload_n (pc := 4) (zq_d eX1_setsOfOneWithout 4 rfl) 3 rfl rfl ?_
    refine zr_bipush (pc := 5) (zq_d eX1_setsOfOneWithout 5 rfl) zc_b32 ?_
    refine zr_icmp_ge (pc := 7) 39 (zq_d eX1_setsOfOneWithout 6 rfl) (by decide) (fun _ => ?_) (fun _ => ?_)
    · refine zr_iload_n (pc := 39) (zq_d eX1_setsOfOneWithout 28 rfl) 2 rfl rfl ?_
      exact zr_ireturn (pc := 40) (zq_d eX1_setsOfOneWithout 29 rfl) rfl rfl (Nat.zero_le _) (Nat.zero_le _)
    · refine zr_iload_n (pc := 10) (zq_d eX1_setsOfOneWithout 7 rfl) 3 rfl rfl ?_
      refine zr_iload_n (pc := 11) (zq_d eX1_setsOfOneWithout 8 rfl) 0 rfl rfl ?_
      refine zr_ishr (pc := 12) (zq_d eX1_setsOfOneWithout 9 rfl) ?_
      refine zr_iconst (pc := 13) (zq_d eX1_setsOfOneWithout 10 rfl) zc_i1 ?_
      refine zr_iand (pc := 14) (zq_d eX1_setsOfOneWithout 11 rfl) ?_
      refine zr_iconst (pc := 15) (zq_d eX1_setsOfOneWithout 12 rfl) zc_i1 ?_
      refine zr_icmp_ne (pc := 16) 33 (zq_d eX1_setsOfOneWithout 13 rfl) (by decide) (fun _ => ?_) (fun _ => ?_)
      · refine zr_iinc (pc := 33) (j := 3) (v := (v2 + (1 : Int32))) (lo2 := [(3, .int (v2 + (1 : Int32))), (0, .int a1), (1, .int a2), (2, .int v1)]) (zq_d eX1_setsOfOneWithout 26 rfl) rfl (by rw [zc_i1]) (Nat.le_of_ble_eq_true rfl) rfl ?_
        refine zr_goto (pc := 36) 4 (zq_d eX1_setsOfOneWithout 27 rfl) (by decide) ?_
        exact zr_lo [1, 2, 3, 0] rfl (hrc4_1 v1 (v2 + (1 : Int32)))
      · refine zr_iload_n (pc := 19) (zq_d eX1_setsOfOneWithout 14 rfl) 3 rfl rfl ?_
        refine zr_iload_n (pc := 20) (zq_d eX1_setsOfOneWithout 15 rfl) 1 rfl rfl ?_
        refine zr_ishr (pc := 21) (zq_d eX1_setsOfOneWithout 16 rfl) ?_
        refine zr_iconst (pc := 22) (zq_d eX1_setsOfOneWithout 17 rfl) zc_i1 ?_
        refine zr_iand (pc := 23) (zq_d eX1_setsOfOneWithout 18 rfl) ?_
        refine zr_if_ne (pc := 24) 33 (zq_d eX1_setsOfOneWithout 19 rfl) (by decide) (fun _ => ?_) (fun _ => ?_)
        · refine zr_iinc (pc := 33) (j := 3) (v := (v2 + (1 : Int32))) (lo2 := [(3, .int (v2 + (1 : Int32))), (0, .int a1), (1, .int a2), (2, .int v1)]) (zq_d eX1_setsOfOneWithout 26 rfl) rfl (by rw [zc_i1]) (Nat.le_of_ble_eq_true rfl) rfl ?_
          refine zr_goto (pc := 36) 4 (zq_d eX1_setsOfOneWithout 27 rfl) (by decide) ?_
          exact zr_lo [1, 2, 3, 0] rfl (hrc4_1 v1 (v2 + (1 : Int32)))
        · refine zr_iload_n (pc := 27) (zq_d eX1_setsOfOneWithout 20 rfl) 2 rfl rfl ?_
          refine zr_iconst (pc := 28) (zq_d eX1_setsOfOneWithout 21 rfl) zc_i1 ?_
          refine zr_iload_n (pc := 29) (zq_d eX1_setsOfOneWithout 22 rfl) 3 rfl rfl ?_
          refine zr_ishl (pc := 30) (zq_d eX1_setsOfOneWithout 23 rfl) ?_
          refine zr_ior (pc := 31) (zq_d eX1_setsOfOneWithout 24 rfl) ?_
          refine zr_istore_n (pc := 32) (lo2 := [(2, .int (v1 ||| (zq_shl (1 : Int32) v2))), (0, .int a1), (1, .int a2), (3, .int v2)]) (zq_d eX1_setsOfOneWithout 25 rfl) rfl (Nat.le_of_ble_eq_true rfl) rfl ?_
          refine zr_iinc (pc := 33) (j := 3) (v := (v2 + (1 : Int32))) (lo2 := [(3, .int (v2 + (1 : Int32))), (2, .int (v1 ||| (zq_shl (1 : Int32) v2))), (0, .int a1), (1, .int a2)]) (zq_d eX1_setsOfOneWithout 26 rfl) rfl (by rw [zc_i1]) (Nat.le_of_ble_eq_true rfl) rfl ?_
          refine zr_goto (pc := 36) 4 (zq_d eX1_setsOfOneWithout 27 rfl) (by decide) ?_
          exact zr_lo [2, 3, 1, 0] rfl (hrc4_1 (v1 ||| (zq_shl (1 : Int32) v2)) (v2 + (1 : Int32)))
  have hlrc4_1 := zr_loop (P := fun (rc4_1 : Int32 → Int32 → Option Int32) => ∀ (v1 : Int32) (v2 : Int32), zq_V G YX1_setsOfOneWithout (1, 0, 0) (zq_ei (zq_shX j) z X) 0 0 4 [(0, .int a1), (1, .int a2), (2, .int v1), (3, .int v2)] [] (zq_shX j) z X (rc4_1 v1 v2)) (fun _ _ => none) (b_X1_setsOfOneWithout_4 a1 a2) (fun _ _ => zr_none) hbrc4_1 N
  exact zr_lo [2, 3, 1, 0] rfl (hlrc4_1 (0 : Int32) (0 : Int32))
def b_X6_packedNow_4 (X : zq_M) (rc4_1 : Int32 → Int32 → Option Int32) (v1 : Int32) (v2 : Int32) : Option Int32 :=
  if (X.1 1 0) ≤ v2 then (some v1) else (zq_ck v2 5 (zq_b (v1 ||| (zq_shl (X.1 4 (zq_ix v2)) ((2 : Int32) * v2))) (fun v3 => rc4_1 v3 (v2 + (1 : Int32)))))
def f_X6_packedNow (N j : Nat) (X : zq_M)  : Option Int32 :=
  zq_loop (fun _ _ => none) (b_X6_packedNow_4 X) N (0 : Int32) (0 : Int32)
set_option maxRecDepth 20000 in
set_option maxHeartbeats 8000000 in
theorem s_X6_packedNow (G : zq_G) (N z j : Nat) (X : zq_M)  : zq_V G YX6_packedNow (1, 0, 0) (zq_ei (zq_shX j) z X) 0 0 0 (lv_args 0 [.ref (zq_ad G 35)]) [] (zq_shX j) z X (f_X6_packedNow N j X ) := by
  unfold f_X6_packedNow
  refine zr_lo (l2 := [(0, .ref (zq_ad G 35))]) [0] rfl ?_
  refine zr_iconst (pc := 0) (zq_d eX6_packedNow 0 rfl) zc_i0 ?_
  refine zr_istore_n (pc := 1) (lo2 := [(1, .int (0 : Int32)), (0, .ref (zq_ad G 35))]) (zq_d eX6_packedNow 1 rfl) rfl (Nat.le_of_ble_eq_true rfl) rfl ?_
  refine zr_iconst (pc := 2) (zq_d eX6_packedNow 2 rfl) zc_i0 ?_
  refine zr_istore_n (pc := 3) (lo2 := [(2, .int (0 : Int32)), (1, .int (0 : Int32)), (0, .ref (zq_ad G 35))]) (zq_d eX6_packedNow 3 rfl) rfl (Nat.le_of_ble_eq_true rfl) rfl ?_
  have hbrc4_1 : ∀ rc4_1 : Int32 → Int32 → Option Int32, (∀ (v1 : Int32) (v2 : Int32), zq_V G YX6_packedNow (1, 0, 0) (zq_ei (zq_shX j) z X) 0 0 4 [(0, .ref (zq_ad G 35)), (1, .int v1), (2, .int v2)] [] (zq_shX j) z X (rc4_1 v1 v2)) → ∀ (v1 : Int32) (v2 : Int32), zq_V G YX6_packedNow (1, 0, 0) (zq_ei (zq_shX j) z X) 0 0 4 [(0, .ref (zq_ad G 35)), (1, .int v1), (2, .int v2)] [] (zq_shX j) z X (b_X6_packedNow_4 X rc4_1 v1 v2) := by
    intro rc4_1 hrc4_1 v1 v2
    unfold b_X6_packedNow_4
    refine zr_iload_n (pc := 4) (zq_d eX6_packedNow 4 rfl) 2 rfl rfl ?_
    refine zr_aload_n (pc := 5) (zq_d eX6_packedNow 5 rfl) 0 rfl rfl ?_
    refine zr_getC (pc := 6) (zq_d eX6_packedNow 6 rfl) zf_RX6_30 (kx_35_0 j) ?_
    refine zr_getI (pc := 9) (zq_d eX6_packedNow 7 rfl) zf_RX6_67 (kx_1_0 j) ?_
    refine zr_icmp_ge (pc := 12) 37 (zq_d eX6_packedNow 8 rfl) (by decide) (fun _ => ?_) (fun _ => ?_)
    · refine zr_iload_n (pc := 37) (zq_d eX6_packedNow 23 rfl) 1 rfl rfl ?_
      exact zr_ireturn (pc := 38) (zq_d eX6_packedNow 24 rfl) rfl rfl (Nat.zero_le _) (Nat.zero_le _)
    · refine zr_iload_n (pc := 15) (zq_d eX6_packedNow 9 rfl) 1 rfl rfl ?_
      refine zr_aload_n (pc := 16) (zq_d eX6_packedNow 10 rfl) 0 rfl rfl ?_
      refine zr_getC (pc := 17) (zq_d eX6_packedNow 11 rfl) zf_RX6_30 (kx_35_0 j) ?_
      refine zr_getC (pc := 20) (zq_d eX6_packedNow 12 rfl) zf_RX6_82 (kx_1_3 j) ?_
      refine zr_iload_n (pc := 23) (zq_d eX6_packedNow 13 rfl) 2 rfl rfl ?_
      refine zr_iald (pc := 24) (zq_d eX6_packedNow 14 rfl) (ax_4 j) ?_
      refine zr_iconst (pc := 25) (zq_d eX6_packedNow 15 rfl) zc_i2 ?_
      refine zr_iload_n (pc := 26) (zq_d eX6_packedNow 16 rfl) 2 rfl rfl ?_
      refine zr_imul (pc := 27) (zq_d eX6_packedNow 17 rfl) ?_
      refine zr_ishl (pc := 28) (zq_d eX6_packedNow 18 rfl) ?_
      refine zr_ior (pc := 29) (zq_d eX6_packedNow 19 rfl) ?_
      refine zr_nm (fun v3 => ?_)
      refine zr_istore_n (pc := 30) (lo2 := [(1, .int v3), (0, .ref (zq_ad G 35)), (2, .int v2)]) (zq_d eX6_packedNow 20 rfl) rfl (Nat.le_of_ble_eq_true rfl) rfl ?_
      refine zr_iinc (pc := 31) (j := 2) (v := (v2 + (1 : Int32))) (lo2 := [(2, .int (v2 + (1 : Int32))), (1, .int v3), (0, .ref (zq_ad G 35))]) (zq_d eX6_packedNow 21 rfl) rfl (by rw [zc_i1]) (Nat.le_of_ble_eq_true rfl) rfl ?_
      refine zr_goto (pc := 34) 4 (zq_d eX6_packedNow 22 rfl) (by decide) ?_
      exact zr_lo [2, 1, 0] rfl (hrc4_1 v3 (v2 + (1 : Int32)))
  have hlrc4_1 := zr_loop (P := fun (rc4_1 : Int32 → Int32 → Option Int32) => ∀ (v1 : Int32) (v2 : Int32), zq_V G YX6_packedNow (1, 0, 0) (zq_ei (zq_shX j) z X) 0 0 4 [(0, .ref (zq_ad G 35)), (1, .int v1), (2, .int v2)] [] (zq_shX j) z X (rc4_1 v1 v2)) (fun _ _ => none) (b_X6_packedNow_4 X) (fun _ _ => zr_none) hbrc4_1 N
  exact zr_lo [2, 1, 0] rfl (hlrc4_1 (0 : Int32) (0 : Int32))
def f_X6_numberAt (N j : Nat) (X : zq_M) (a1 : Int32) (a2 : Int32) : Option Int32 :=
  zq_b ((((a1 ^^^ (a2 * (341 : Int32))) ||| (zq_shr (a1 ^^^ (a2 * (341 : Int32))) (1 : Int32))) &&& (341 : Int32)) &&& ((zq_shl (1 : Int32) ((2 : Int32) * (X.1 1 0))) - (1 : Int32))) (fun v1 => (f_J6_bitCount_0f7a4 N (zq_shX j) X v1).bind (fun v2 => some ((X.1 1 0) - v2)))
set_option maxRecDepth 20000 in
set_option maxHeartbeats 8000000 in
theorem s_X6_numberAt (G : zq_G) (N z j : Nat) (X : zq_M) (a1 : Int32) (a2 : Int32) : zq_V G YX6_numberAt (2, 0, 0) (zq_ei (zq_shX j) z X) 0 0 0 (lv_args 0 [.ref (zq_ad G 35), .int a1, .int a2]) [] (zq_shX j) z X (f_X6_numberAt N j X a1 a2) := by
  unfold f_X6_numberAt
  refine zr_lo (l2 := [(0, .ref (zq_ad G 35)), (1, .int a1), (2, .int a2)]) [0, 1, 2] rfl ?_
  refine zr_iload_n (pc := 0) (zq_d eX6_numberAt 0 rfl) 1 rfl rfl ?_
  refine zr_iload_n (pc := 1) (zq_d eX6_numberAt 1 rfl) 2 rfl rfl ?_
  refine zr_sipush (pc := 2) (zq_d eX6_numberAt 2 rfl) zc_s341 ?_
  refine zr_imul (pc := 5) (zq_d eX6_numberAt 3 rfl) ?_
  refine zr_ixor (pc := 6) (zq_d eX6_numberAt 4 rfl) ?_
  refine zr_istore_n (pc := 7) (lo2 := [(3, .int (a1 ^^^ (a2 * (341 : Int32)))), (0, .ref (zq_ad G 35)), (1, .int a1), (2, .int a2)]) (zq_d eX6_numberAt 5 rfl) rfl (Nat.le_of_ble_eq_true rfl) rfl ?_
  refine zr_iload_n (pc := 8) (zq_d eX6_numberAt 6 rfl) 0 rfl rfl ?_
  refine zr_iload_n (pc := 9) (zq_d eX6_numberAt 7 rfl) 0 rfl rfl ?_
  refine zr_iconst (pc := 10) (zq_d eX6_numberAt 8 rfl) zc_i1 ?_
  refine zr_ishr (pc := 11) (zq_d eX6_numberAt 9 rfl) ?_
  refine zr_ior (pc := 12) (zq_d eX6_numberAt 10 rfl) ?_
  refine zr_sipush (pc := 13) (zq_d eX6_numberAt 11 rfl) zc_s341 ?_
  refine zr_iand (pc := 16) (zq_d eX6_numberAt 12 rfl) ?_
  refine zr_iconst (pc := 17) (zq_d eX6_numberAt 13 rfl) zc_i1 ?_
  refine zr_iconst (pc := 18) (zq_d eX6_numberAt 14 rfl) zc_i2 ?_
  refine zr_aload_n (pc := 19) (zq_d eX6_numberAt 15 rfl) 1 rfl rfl ?_
  refine zr_getC (pc := 20) (zq_d eX6_numberAt 16 rfl) zf_RX6_30 (kx_35_0 j) ?_
  refine zr_getI (pc := 23) (zq_d eX6_numberAt 17 rfl) zf_RX6_67 (kx_1_0 j) ?_
  refine zr_imul (pc := 26) (zq_d eX6_numberAt 18 rfl) ?_
  refine zr_ishl (pc := 27) (zq_d eX6_numberAt 19 rfl) ?_
  refine zr_iconst (pc := 28) (zq_d eX6_numberAt 20 rfl) zc_i1 ?_
  refine zr_isub (pc := 29) (zq_d eX6_numberAt 21 rfl) ?_
  refine zr_iand (pc := 30) (zq_d eX6_numberAt 22 rfl) ?_
  refine zr_nm (fun v1 => ?_)
  refine zr_istore (pc := 31) (lo2 := [(4, .int v1), (3, .int (a1 ^^^ (a2 * (341 : Int32)))), (0, .ref (zq_ad G 35)), (1, .int a1), (2, .int a2)]) (zq_d eX6_numberAt 23 rfl) (Nat.le_of_ble_eq_true rfl) rfl ?_
  refine zr_aload_n (pc := 33) (zq_d eX6_numberAt 24 rfl) 2 rfl rfl ?_
  refine zr_getC (pc := 34) (zq_d eX6_numberAt 25 rfl) zf_RX6_30 (kx_35_0 j) ?_
  refine zr_getI (pc := 37) (zq_d eX6_numberAt 26 rfl) zf_RX6_67 (kx_1_0 j) ?_
  refine zr_iload (pc := 40) (zq_d eX6_numberAt 27 rfl) 0 rfl ?_
  refine zr_Si (pc := 42) [_] (zq_d eX6_numberAt 28 rfl) (s_J6_bitCount_0f7a4 G N z (zq_shX j) X _) zd_J6_bitCount_0f7a4 zl_RX6_56 rfl rfl (Nat.le_of_ble_eq_true rfl) (Nat.le_of_ble_eq_true rfl) (Nat.le_of_ble_eq_true rfl) ⟨Nat.le_refl _, Nat.le_refl _⟩ (fun v2 => ?_)
  refine zr_isub (pc := 45) (zq_d eX6_numberAt 29 rfl) ?_
  exact zr_ireturn (pc := 46) (zq_d eX6_numberAt 30 rfl) rfl rfl (Nat.zero_le _) (Nat.zero_le _)
def f_X6_slotOf (N j : Nat) (X : zq_M) (a1 : Int32) (a2 : Int32) (a3 : Int32) : Option Int32 :=
  some (((((a1 * (4 : Int32)) + a2) * (5 : Int32)) + a3) - (1 : Int32))
set_option maxRecDepth 20000 in
set_option maxHeartbeats 8000000 in
theorem s_X6_slotOf (G : zq_G) (N z j : Nat) (X : zq_M) (a1 : Int32) (a2 : Int32) (a3 : Int32) : zq_V G YX6_slotOf (1, 0, 0) (zq_ei (zq_shX j) z X) 0 0 0 (lv_args 0 [.int a1, .int a2, .int a3]) [] (zq_shX j) z X (f_X6_slotOf N j X a1 a2 a3) := by
  unfold f_X6_slotOf
  refine zr_lo (l2 := [(0, .int a1), (1, .int a2), (2, .int a3)]) [0, 1, 2] rfl ?_
  refine zr_iload_n (pc := 0) (zq_d eX6_slotOf 0 rfl) 0 rfl rfl ?_
  refine zr_iconst (pc := 1) (zq_d eX6_slotOf 1 rfl) zc_i4 ?_
  refine zr_imul (pc := 2) (zq_d eX6_slotOf 2 rfl) ?_
  refine zr_iload_n (pc := 3) (zq_d eX6_slotOf 3 rfl) 1 rfl rfl ?_
  refine zr_iadd (pc := 4) (zq_d eX6_slotOf 4 rfl) ?_
  refine zr_iconst (pc := 5) (zq_d eX6_slotOf 5 rfl) zc_i5 ?_
  refine zr_imul (pc := 6) (zq_d eX6_slotOf 6 rfl) ?_
  refine zr_iload_n (pc := 7) (zq_d eX6_slotOf 7 rfl) 2 rfl rfl ?_
  refine zr_iadd (pc := 8) (zq_d eX6_slotOf 8 rfl) ?_
  refine zr_iconst (pc := 9) (zq_d eX6_slotOf 9 rfl) zc_i1 ?_
  refine zr_isub (pc := 10) (zq_d eX6_slotOf 10 rfl) ?_
  exact zr_ireturn (pc := 11) (zq_d eX6_slotOf 11 rfl) rfl rfl (Nat.zero_le _) (Nat.zero_le _)
def f_X6_mayCome (N j : Nat) (X : zq_M) (a1 : Int32) (a2 : Int32) (a3 : Int32) : Option Int32 :=
  if ((zq_shr a1 ((2 : Int32) * a2)) &&& (3 : Int32)) = a3 then (some (0 : Int32)) else ((f_X6_numberAt N j X a1 a3).bind (fun v1 => (f_X6_slotOf N j X a2 a3 (v1 + (1 : Int32))).bind (fun v2 => zq_ck v2 100 (if ¬ (X.1 40 (zq_ix v2)) = 0 then (some (0 : Int32)) else (some (1 : Int32))))))
set_option maxRecDepth 20000 in
set_option maxHeartbeats 8000000 in
theorem s_X6_mayCome (G : zq_G) (N z j : Nat) (X : zq_M) (a1 : Int32) (a2 : Int32) (a3 : Int32) : zq_V G YX6_mayCome (3, 0, 0) (zq_ei (zq_shX j) z X) 0 0 0 (lv_args 0 [.ref (zq_ad G 35), .int a1, .int a2, .int a3]) [] (zq_shX j) z X (f_X6_mayCome N j X a1 a2 a3) := by
  unfold f_X6_mayCome
  refine zr_lo (l2 := [(0, .ref (zq_ad G 35)), (1, .int a1), (2, .int a2), (3, .int a3)]) [0, 1, 2, 3] rfl ?_
  refine zr_iload_n (pc := 0) (zq_d eX6_mayCome 0 rfl) 1 rfl rfl ?_
  refine zr_iconst (pc := 1) (zq_d eX6_mayCome 1 rfl) zc_i2 ?_
  refine zr_iload_n (pc := 2) (zq_d eX6_mayCome 2 rfl) 2 rfl rfl ?_
  refine zr_imul (pc := 3) (zq_d eX6_mayCome 3 rfl) ?_
  refine zr_ishr (pc := 4) (zq_d eX6_mayCome 4 rfl) ?_
  refine zr_iconst (pc := 5) (zq_d eX6_mayCome 5 rfl) zc_i3 ?_
  refine zr_iand (pc := 6) (zq_d eX6_mayCome 6 rfl) ?_
  refine zr_iload_n (pc := 7) (zq_d eX6_mayCome 7 rfl) 3 rfl rfl ?_
  refine zr_icmp_eq (pc := 8) 36 (zq_d eX6_mayCome 8 rfl) (by decide) (fun _ => ?_) (fun _ => ?_)
  · refine zr_iconst (pc := 36) (zq_d eX6_mayCome 24 rfl) zc_i0 ?_
    exact zr_zreturn (pc := 37) (zq_d eX6_mayCome 25 rfl) rfl rfl rfl (Nat.zero_le _) (Nat.zero_le _)
  · refine zr_aload_n (pc := 11) (zq_d eX6_mayCome 9 rfl) 0 rfl rfl ?_
    refine zr_getC (pc := 12) (zq_d eX6_mayCome 10 rfl) zf_RX6_26 (kx_35_6 j) ?_
    refine zr_iload_n (pc := 15) (zq_d eX6_mayCome 11 rfl) 2 rfl rfl ?_
    refine zr_iload_n (pc := 16) (zq_d eX6_mayCome 12 rfl) 3 rfl rfl ?_
    refine zr_aload_n (pc := 17) (zq_d eX6_mayCome 13 rfl) 0 rfl rfl ?_
    refine zr_iload_n (pc := 18) (zq_d eX6_mayCome 14 rfl) 1 rfl rfl ?_
    refine zr_iload_n (pc := 19) (zq_d eX6_mayCome 15 rfl) 3 rfl rfl ?_
    refine zr_Vi (pc := 20) [_, _] (zq_d eX6_mayCome 16 rfl) (s_X6_numberAt G N z j X _ _) zd_X6_numberAt zl_RX6_85 (ox_35 j) rfl rfl rfl rfl (Nat.le_of_ble_eq_true rfl) (Nat.le_of_ble_eq_true rfl) (Nat.le_of_ble_eq_true rfl) ⟨Nat.le_refl _, Nat.le_refl _⟩ (fun v1 => ?_)
    refine zr_iconst (pc := 23) (zq_d eX6_mayCome 17 rfl) zc_i1 ?_
    refine zr_iadd (pc := 24) (zq_d eX6_mayCome 18 rfl) ?_
    refine zr_Si (pc := 25) [_, _, _] (zq_d eX6_mayCome 19 rfl) (s_X6_slotOf G N z j X _ _ _) zd_X6_slotOf zl_RX6_71 rfl rfl (Nat.le_of_ble_eq_true rfl) (Nat.le_of_ble_eq_true rfl) (Nat.le_of_ble_eq_true rfl) ⟨Nat.le_refl _, Nat.le_refl _⟩ (fun v2 => ?_)
    refine zr_zald (pc := 28) (zq_d eX6_mayCome 20 rfl) (ax_40 j) ?_
    refine zr_if_ne (pc := 29) 36 (zq_d eX6_mayCome 21 rfl) (by decide) (fun _ => ?_) (fun _ => ?_)
    · refine zr_iconst (pc := 36) (zq_d eX6_mayCome 24 rfl) zc_i0 ?_
      exact zr_zreturn (pc := 37) (zq_d eX6_mayCome 25 rfl) rfl rfl rfl (Nat.zero_le _) (Nat.zero_le _)
    · refine zr_iconst (pc := 32) (zq_d eX6_mayCome 22 rfl) zc_i1 ?_
      refine zr_goto (pc := 33) 37 (zq_d eX6_mayCome 23 rfl) (by decide) ?_
      exact zr_zreturn (pc := 37) (zq_d eX6_mayCome 25 rfl) rfl rfl rfl (Nat.zero_le _) (Nat.zero_le _)
def f_X6_moved (N j : Nat) (X : zq_M) (a1 : Int32) (a2 : Int32) (a3 : Int32) : Option Int32 :=
  some ((a1 &&& ((zq_shl (3 : Int32) ((2 : Int32) * a2)) ^^^ (-1 : Int32))) ||| (zq_shl a3 ((2 : Int32) * a2)))
set_option maxRecDepth 20000 in
set_option maxHeartbeats 8000000 in
theorem s_X6_moved (G : zq_G) (N z j : Nat) (X : zq_M) (a1 : Int32) (a2 : Int32) (a3 : Int32) : zq_V G YX6_moved (1, 0, 0) (zq_ei (zq_shX j) z X) 0 0 0 (lv_args 0 [.int a1, .int a2, .int a3]) [] (zq_shX j) z X (f_X6_moved N j X a1 a2 a3) := by
  unfold f_X6_moved
  refine zr_lo (l2 := [(0, .int a1), (1, .int a2), (2, .int a3)]) [0, 1, 2] rfl ?_
  refine zr_iload_n (pc := 0) (zq_d eX6_moved 0 rfl) 0 rfl rfl ?_
  refine zr_iconst (pc := 1) (zq_d eX6_moved 1 rfl) zc_i3 ?_
  refine zr_iconst (pc := 2) (zq_d eX6_moved 2 rfl) zc_i2 ?_
  refine zr_iload_n (pc := 3) (zq_d eX6_moved 3 rfl) 1 rfl rfl ?_
  refine zr_imul (pc := 4) (zq_d eX6_moved 4 rfl) ?_
  refine zr_ishl (pc := 5) (zq_d eX6_moved 5 rfl) ?_
  refine zr_iconst (pc := 6) (zq_d eX6_moved 6 rfl) zc_im1 ?_
  refine zr_ixor (pc := 7) (zq_d eX6_moved 7 rfl) ?_
  refine zr_iand (pc := 8) (zq_d eX6_moved 8 rfl) ?_
  refine zr_iload_n (pc := 9) (zq_d eX6_moved 9 rfl) 2 rfl rfl ?_
  refine zr_iconst (pc := 10) (zq_d eX6_moved 10 rfl) zc_i2 ?_
  refine zr_iload_n (pc := 11) (zq_d eX6_moved 11 rfl) 1 rfl rfl ?_
  refine zr_imul (pc := 12) (zq_d eX6_moved 12 rfl) ?_
  refine zr_ishl (pc := 13) (zq_d eX6_moved 13 rfl) ?_
  refine zr_ior (pc := 14) (zq_d eX6_moved 14 rfl) ?_
  exact zr_ireturn (pc := 15) (zq_d eX6_moved 15 rfl) rfl rfl (Nat.zero_le _) (Nat.zero_le _)
def b_X1_leave_18 (N : Nat) (j : Nat) (a1 : Int32) (v1 : Int32) (rc2_1 : Int32 → zq_M → Option zq_M) (rc18_2 : Int32 → zq_M → Option zq_M) (v3 : Int32) (X4 : zq_M) : Option zq_M :=
  if (4 : Int32) ≤ v3 then (rc2_1 (v1 + (1 : Int32)) X4) else ((f_X6_mayCome N j X4 a1 v1 v3).bind (fun v5 => if v5 = 0 then (rc18_2 (v3 + (1 : Int32)) X4) else ((f_X6_moved N j X4 a1 v1 v3).bind (fun v6 => zq_ck v6 1024 (zq_ck a1 1024 (zq_ck v6 1024 (zq_b (zq_u1 X4 47 (zq_ix v6) ((X4.1 47 (zq_ix v6)) ||| (X4.1 46 (zq_ix a1)))) (fun X7 => rc18_2 (v3 + (1 : Int32)) X7))))))))
def b_X1_leave_2 (N : Nat) (j : Nat) (a1 : Int32) (rc2_1 : Int32 → zq_M → Option zq_M) (v1 : Int32) (X2 : zq_M) : Option zq_M :=
  if (X2.1 1 0) ≤ v1 then (some X2) else (zq_loop (fun _ _ => none) (b_X1_leave_18 N j a1 v1 rc2_1) N (0 : Int32) X2)
def f_X1_leave (N j : Nat) (X : zq_M) (a1 : Int32) : Option zq_M :=
  zq_loop (fun _ _ => none) (b_X1_leave_2 N j a1) N (0 : Int32) X
set_option maxRecDepth 20000 in
set_option maxHeartbeats 8000000 in
theorem s_X1_leave (G : zq_G) (N z j : Nat) (X : zq_M) (a1 : Int32) : zq_V G YX1_leave (4, 0, 0) (zq_sv (zq_shX j) z) 0 0 0 (lv_args 0 [.ref (zq_ad G 45), .int a1]) [] (zq_shX j) z X (f_X1_leave N j X a1) := by
  unfold f_X1_leave
  refine zr_lo (l2 := [(0, .ref (zq_ad G 45)), (1, .int a1)]) [0, 1] rfl ?_
  refine zr_iconst (pc := 0) (zq_d eX1_leave 0 rfl) zc_i0 ?_
  refine zr_istore_n (pc := 1) (lo2 := [(2, .int (0 : Int32)), (0, .ref (zq_ad G 45)), (1, .int a1)]) (zq_d eX1_leave 1 rfl) rfl (Nat.le_of_ble_eq_true rfl) rfl ?_
  have hbrc2_1 : ∀ rc2_1 : Int32 → zq_M → Option zq_M, (∀ (v1 : Int32) (X2 : zq_M), zq_V G YX1_leave (4, 0, 0) (zq_sv (zq_shX j) z) 0 0 2 [(0, .ref (zq_ad G 45)), (1, .int a1), (2, .int v1)] [] (zq_shX j) z X2 (rc2_1 v1 X2)) → ∀ (v1 : Int32) (X2 : zq_M), zq_V G YX1_leave (4, 0, 0) (zq_sv (zq_shX j) z) 0 0 2 [(0, .ref (zq_ad G 45)), (1, .int a1), (2, .int v1)] [] (zq_shX j) z X2 (b_X1_leave_2 N j a1 rc2_1 v1 X2) := by
    intro rc2_1 hrc2_1 v1 X2
    unfold b_X1_leave_2
    refine zr_iload_n (pc := 2) (zq_d eX1_leave 2 rfl) 2 rfl rfl ?_
    refine zr_aload_n (pc := 3) (zq_d eX1_leave 3 rfl) 0 rfl rfl ?_
    refine zr_getC (pc := 4) (zq_d eX1_leave 4 rfl) zf_RX1_29 (kx_45_0 j) ?_
    refine zr_getC (pc := 7) (zq_d eX1_leave 5 rfl) zf_RX1_33 (kx_35_0 j) ?_
    refine zr_getI (pc := 10) (zq_d eX1_leave 6 rfl) zf_RX1_37 (kx_1_0 j) ?_
    refine zr_icmp_ge (pc := 13) 68 (zq_d eX1_leave 7 rfl) (by decide) (fun _ => ?_) (fun _ => ?_)
    · exact zr_vreturn (pc := 68) (zq_d eX1_leave 38 rfl) rfl rfl (Nat.zero_le _) (Nat.zero_le _)
    · refine zr_iconst (pc := 16) (zq_d eX1_leave 8 rfl) zc_i0 ?_
      refine zr_istore_n (pc := 17) (lo2 := [(3, .int (0 : Int32)), (0, .ref (zq_ad G 45)), (1, .int a1), (2, .int v1)]) (zq_d eX1_leave 9 rfl) rfl (Nat.le_of_ble_eq_true rfl) rfl ?_
      have hbrc18_2 : ∀ rc18_2 : Int32 → zq_M → Option zq_M, (∀ (v3 : Int32) (X4 : zq_M), zq_V G YX1_leave (4, 0, 0) (zq_sv (zq_shX j) z) 0 0 18 [(0, .ref (zq_ad G 45)), (1, .int a1), (2, .int v1), (3, .int v3)] [] (zq_shX j) z X4 (rc18_2 v3 X4)) → ∀ (v3 : Int32) (X4 : zq_M), zq_V G YX1_leave (4, 0, 0) (zq_sv (zq_shX j) z) 0 0 18 [(0, .ref (zq_ad G 45)), (1, .int a1), (2, .int v1), (3, .int v3)] [] (zq_shX j) z X4 (b_X1_leave_18 N j a1 v1 rc2_1 rc18_2 v3 X4) := by
        intro rc18_2 hrc18_2 v3 X4
        unfold b_X1_leave_18
        refine zr_iload_n (pc := 18) (zq_d eX1_leave 10 rfl) 3 rfl rfl ?_
        refine zr_iconst (pc := 19) (zq_d eX1_leave 11 rfl) zc_i4 ?_
        refine zr_icmp_ge (pc := 20) 62 (zq_d eX1_leave 12 rfl) (by decide) (fun _ => ?_) (fun _ => ?_)
        · refine zr_iinc (pc := 62) (j := 2) (v := (v1 + (1 : Int32))) (lo2 := [(2, .int (v1 + (1 : Int32))), (0, .ref (zq_ad G 45)), (1, .int a1), (3, .int v3)]) (zq_d eX1_leave 36 rfl) rfl (by rw [zc_i1]) (Nat.le_of_ble_eq_true rfl) rfl ?_
          refine zr_goto (pc := 65) 2 (zq_d eX1_leave 37 rfl) (by decide) ?_
          exact zr_lo [1, 2, 0] rfl (hrc2_1 (v1 + (1 : Int32)) X4)
        · refine zr_aload_n (pc := 23) (zq_d eX1_leave 13 rfl) 0 rfl rfl ?_
          refine zr_getC (pc := 24) (zq_d eX1_leave 14 rfl) zf_RX1_29 (kx_45_0 j) ?_
          refine zr_iload_n (pc := 27) (zq_d eX1_leave 15 rfl) 1 rfl rfl ?_
          refine zr_iload_n (pc := 28) (zq_d eX1_leave 16 rfl) 2 rfl rfl ?_
          refine zr_iload_n (pc := 29) (zq_d eX1_leave 17 rfl) 3 rfl rfl ?_
          refine zr_Vi (pc := 30) [_, _, _] (zq_d eX1_leave 18 rfl) (s_X6_mayCome G N z j X4 _ _ _) zd_X6_mayCome zl_RX1_76 (ox_35 j) rfl rfl rfl rfl (Nat.le_of_ble_eq_true rfl) (Nat.le_of_ble_eq_true rfl) (Nat.le_of_ble_eq_true rfl) ⟨Nat.le_refl _, Nat.le_refl _⟩ (fun v5 => ?_)
          refine zr_if_eq (pc := 33) 56 (zq_d eX1_leave 19 rfl) (by decide) (fun _ => ?_) (fun _ => ?_)
          · refine zr_iinc (pc := 56) (j := 3) (v := (v3 + (1 : Int32))) (lo2 := [(3, .int (v3 + (1 : Int32))), (0, .ref (zq_ad G 45)), (1, .int a1), (2, .int v1)]) (zq_d eX1_leave 34 rfl) rfl (by rw [zc_i1]) (Nat.le_of_ble_eq_true rfl) rfl ?_
            refine zr_goto (pc := 59) 18 (zq_d eX1_leave 35 rfl) (by decide) ?_
            exact zr_lo [1, 2, 3, 0] rfl (hrc18_2 (v3 + (1 : Int32)) X4)
          · refine zr_aload_n (pc := 36) (zq_d eX1_leave 20 rfl) 0 rfl rfl ?_
            refine zr_getC (pc := 37) (zq_d eX1_leave 21 rfl) zf_RX1_17 (kx_45_2 j) ?_
            refine zr_iload_n (pc := 40) (zq_d eX1_leave 22 rfl) 1 rfl rfl ?_
            refine zr_iload_n (pc := 41) (zq_d eX1_leave 23 rfl) 2 rfl rfl ?_
            refine zr_iload_n (pc := 42) (zq_d eX1_leave 24 rfl) 3 rfl rfl ?_
            refine zr_Si (pc := 43) [_, _, _] (zq_d eX1_leave 25 rfl) (s_X6_moved G N z j X4 _ _ _) zd_X6_moved zl_RX1_80 rfl rfl (Nat.le_of_ble_eq_true rfl) (Nat.le_of_ble_eq_true rfl) (Nat.le_of_ble_eq_true rfl) ⟨Nat.le_refl _, Nat.le_refl _⟩ (fun v6 => ?_)
            refine zr_dup2 (pc := 46) (zq_d eX1_leave 26 rfl) rfl rfl ?_
            refine zr_iald (pc := 47) (zq_d eX1_leave 27 rfl) (ax_47 j) ?_
            refine zr_aload_n (pc := 48) (zq_d eX1_leave 28 rfl) 0 rfl rfl ?_
            refine zr_getC (pc := 49) (zq_d eX1_leave 29 rfl) zf_RX1_11 (kx_45_1 j) ?_
            refine zr_iload_n (pc := 52) (zq_d eX1_leave 30 rfl) 1 rfl rfl ?_
            refine zr_iald (pc := 53) (zq_d eX1_leave 31 rfl) (ax_46 j) ?_
            refine zr_ior (pc := 54) (zq_d eX1_leave 32 rfl) ?_
            refine zr_iast (pc := 55) (zq_d eX1_leave 33 rfl) (ax_47 j) (fun X7 => ?_)
            refine zr_iinc (pc := 56) (j := 3) (v := (v3 + (1 : Int32))) (lo2 := [(3, .int (v3 + (1 : Int32))), (0, .ref (zq_ad G 45)), (1, .int a1), (2, .int v1)]) (zq_d eX1_leave 34 rfl) rfl (by rw [zc_i1]) (Nat.le_of_ble_eq_true rfl) rfl ?_
            refine zr_goto (pc := 59) 18 (zq_d eX1_leave 35 rfl) (by decide) ?_
            exact zr_lo [1, 2, 3, 0] rfl (hrc18_2 (v3 + (1 : Int32)) X7)
      have hlrc18_2 := zr_loop (P := fun (rc18_2 : Int32 → zq_M → Option zq_M) => ∀ (v3 : Int32) (X4 : zq_M), zq_V G YX1_leave (4, 0, 0) (zq_sv (zq_shX j) z) 0 0 18 [(0, .ref (zq_ad G 45)), (1, .int a1), (2, .int v1), (3, .int v3)] [] (zq_shX j) z X4 (rc18_2 v3 X4)) (fun _ _ => none) (b_X1_leave_18 N j a1 v1 rc2_1) (fun _ _ => zr_none) hbrc18_2 N
      exact zr_lo [1, 2, 3, 0] rfl (hlrc18_2 (0 : Int32) X2)
  have hlrc2_1 := zr_loop (P := fun (rc2_1 : Int32 → zq_M → Option zq_M) => ∀ (v1 : Int32) (X2 : zq_M), zq_V G YX1_leave (4, 0, 0) (zq_sv (zq_shX j) z) 0 0 2 [(0, .ref (zq_ad G 45)), (1, .int a1), (2, .int v1)] [] (zq_shX j) z X2 (rc2_1 v1 X2)) (fun _ _ => none) (b_X1_leave_2 N j a1) (fun _ _ => zr_none) hbrc2_1 N
  exact zr_lo [1, 2, 0] rfl (hlrc2_1 (0 : Int32) X)
def k_X1_goOn_38_2 (X3 : zq_M)  : Option zq_M :=
  zq_ac (0 : Int32) (0 : Int32) (X3.1 45 6) 1024 1024 (zq_b (zq_cp1 X3 47 (0 : Int32) 46 (0 : Int32) (X3.1 45 6)) (fun X4 => some X4))
def b_X1_goOn_10 (N : Nat) (j : Nat) (rc10_1 : Int32 → zq_M → Option zq_M) (v2 : Int32) (X3 : zq_M) : Option zq_M :=
  if (X3.1 45 6) ≤ v2 then (k_X1_goOn_38_2 X3) else (zq_ck v2 1024 (if (X3.1 46 (zq_ix v2)) = 0 then (rc10_1 (v2 + (1 : Int32)) X3) else ((f_X1_leave N j X3 v2).bind (fun X5 => rc10_1 (v2 + (1 : Int32)) X5))))
def f_X1_goOn (N j : Nat) (X : zq_M)  : Option zq_M :=
  (f_J7_fill_53178 N (zq_shX j) X 47 1024 (0 : Int32)).bind (fun X1 => zq_loop (fun _ _ => none) (b_X1_goOn_10 N j) N (0 : Int32) X1)
set_option maxRecDepth 20000 in
set_option maxHeartbeats 8000000 in
theorem s_X1_goOn (G : zq_G) (N z j : Nat) (X : zq_M)  : zq_V G YX1_goOn (5, 0, 0) (zq_sv (zq_shX j) z) 0 0 0 (lv_args 0 [.ref (zq_ad G 45)]) [] (zq_shX j) z X (f_X1_goOn N j X ) := by
  unfold f_X1_goOn
  refine zr_lo (l2 := [(0, .ref (zq_ad G 45))]) [0] rfl ?_
  refine zr_aload_n (pc := 0) (zq_d eX1_goOn 0 rfl) 0 rfl rfl ?_
  refine zr_getC (pc := 1) (zq_d eX1_goOn 1 rfl) zf_RX1_17 (kx_45_2 j) ?_
  refine zr_iconst (pc := 4) (zq_d eX1_goOn 2 rfl) zc_i0 ?_
  refine zr_Sv (pc := 5) [_, _] (zq_d eX1_goOn 3 rfl) (s_J7_fill_53178 G N z (zq_shX j) X 47 1024 (ax_47 j) _) zd_J7_fill_53178 zl_RX1_46 rfl rfl (Nat.le_of_ble_eq_true rfl) (Nat.le_of_ble_eq_true rfl) (Nat.le_of_ble_eq_true rfl) ⟨Nat.le_refl _, Nat.le_refl _⟩ (fun X1 => ?_)
  refine zr_iconst (pc := 8) (zq_d eX1_goOn 4 rfl) zc_i0 ?_
  refine zr_istore_n (pc := 9) (lo2 := [(1, .int (0 : Int32)), (0, .ref (zq_ad G 45))]) (zq_d eX1_goOn 5 rfl) rfl (Nat.le_of_ble_eq_true rfl) rfl ?_
  have hbrc10_1 : ∀ rc10_1 : Int32 → zq_M → Option zq_M, (∀ (v2 : Int32) (X3 : zq_M), zq_V G YX1_goOn (5, 0, 0) (zq_sv (zq_shX j) z) 0 0 10 [(0, .ref (zq_ad G 45)), (1, .int v2)] [] (zq_shX j) z X3 (rc10_1 v2 X3)) → ∀ (v2 : Int32) (X3 : zq_M), zq_V G YX1_goOn (5, 0, 0) (zq_sv (zq_shX j) z) 0 0 10 [(0, .ref (zq_ad G 45)), (1, .int v2)] [] (zq_shX j) z X3 (b_X1_goOn_10 N j rc10_1 v2 X3) := by
    intro rc10_1 hrc10_1 v2 X3
    unfold b_X1_goOn_10
    refine zr_iload_n (pc := 10) (zq_d eX1_goOn 6 rfl) 1 rfl rfl ?_
    refine zr_aload_n (pc := 11) (zq_d eX1_goOn 7 rfl) 0 rfl rfl ?_
    refine zr_getI (pc := 12) (zq_d eX1_goOn 8 rfl) zf_RX1_43 (kx_45_6 j) ?_
    refine zr_icmp_ge (pc := 15) 38 (zq_d eX1_goOn 9 rfl) (by decide) (fun _ => ?_) (fun _ => ?_)
    · unfold k_X1_goOn_38_2
      refine zr_aload_n (pc := 38) (zq_d eX1_goOn 20 rfl) 0 rfl rfl ?_
      refine zr_getC (pc := 39) (zq_d eX1_goOn 21 rfl) zf_RX1_17 (kx_45_2 j) ?_
      refine zr_iconst (pc := 42) (zq_d eX1_goOn 22 rfl) zc_i0 ?_
      refine zr_aload_n (pc := 43) (zq_d eX1_goOn 23 rfl) 0 rfl rfl ?_
      refine zr_getC (pc := 44) (zq_d eX1_goOn 24 rfl) zf_RX1_11 (kx_45_1 j) ?_
      refine zr_iconst (pc := 47) (zq_d eX1_goOn 25 rfl) zc_i0 ?_
      refine zr_aload_n (pc := 48) (zq_d eX1_goOn 26 rfl) 0 rfl rfl ?_
      refine zr_getI (pc := 49) (zq_d eX1_goOn 27 rfl) zf_RX1_43 (kx_45_6 j) ?_
      refine zr_cpi (pc := 52) (zq_d eX1_goOn 28 rfl) zl_RX1_70 (ax_47 j) (ax_46 j) (Nat.le_of_ble_eq_true rfl) (Nat.le_of_ble_eq_true rfl) (fun X4 => ?_)
      exact zr_vreturn (pc := 55) (zq_d eX1_goOn 29 rfl) rfl rfl (Nat.zero_le _) (Nat.zero_le _)
    · refine zr_aload_n (pc := 18) (zq_d eX1_goOn 10 rfl) 0 rfl rfl ?_
      refine zr_getC (pc := 19) (zq_d eX1_goOn 11 rfl) zf_RX1_11 (kx_45_1 j) ?_
      refine zr_iload_n (pc := 22) (zq_d eX1_goOn 12 rfl) 1 rfl rfl ?_
      refine zr_iald (pc := 23) (zq_d eX1_goOn 13 rfl) (ax_46 j) ?_
      refine zr_if_eq (pc := 24) 32 (zq_d eX1_goOn 14 rfl) (by decide) (fun _ => ?_) (fun _ => ?_)
      · refine zr_iinc (pc := 32) (j := 1) (v := (v2 + (1 : Int32))) (lo2 := [(1, .int (v2 + (1 : Int32))), (0, .ref (zq_ad G 45))]) (zq_d eX1_goOn 18 rfl) rfl (by rw [zc_i1]) (Nat.le_of_ble_eq_true rfl) rfl ?_
        refine zr_goto (pc := 35) 10 (zq_d eX1_goOn 19 rfl) (by decide) ?_
        exact zr_lo [1, 0] rfl (hrc10_1 (v2 + (1 : Int32)) X3)
      · refine zr_aload_n (pc := 27) (zq_d eX1_goOn 15 rfl) 0 rfl rfl ?_
        refine zr_iload_n (pc := 28) (zq_d eX1_goOn 16 rfl) 1 rfl rfl ?_
        refine zr_Vv (pc := 29) [_] (zq_d eX1_goOn 17 rfl) (s_X1_leave G N z j X3 _) zd_X1_leave zl_RX1_67 (ox_45 j) rfl rfl rfl rfl (Nat.le_of_ble_eq_true rfl) (Nat.le_of_ble_eq_true rfl) (Nat.le_of_ble_eq_true rfl) ⟨Nat.le_refl _, Nat.le_refl _⟩ (fun X5 => ?_)
        refine zr_iinc (pc := 32) (j := 1) (v := (v2 + (1 : Int32))) (lo2 := [(1, .int (v2 + (1 : Int32))), (0, .ref (zq_ad G 45))]) (zq_d eX1_goOn 18 rfl) rfl (by rw [zc_i1]) (Nat.le_of_ble_eq_true rfl) rfl ?_
        refine zr_goto (pc := 35) 10 (zq_d eX1_goOn 19 rfl) (by decide) ?_
        exact zr_lo [1, 0] rfl (hrc10_1 (v2 + (1 : Int32)) X5)
  have hlrc10_1 := zr_loop (P := fun (rc10_1 : Int32 → zq_M → Option zq_M) => ∀ (v2 : Int32) (X3 : zq_M), zq_V G YX1_goOn (5, 0, 0) (zq_sv (zq_shX j) z) 0 0 10 [(0, .ref (zq_ad G 45)), (1, .int v2)] [] (zq_shX j) z X3 (rc10_1 v2 X3)) (fun _ _ => none) (b_X1_goOn_10 N j) (fun _ _ => zr_none) hbrc10_1 N
  exact zr_lo [1, 0] rfl (hlrc10_1 (0 : Int32) X1)
def f_X5_everybody (N j : Nat) (X : zq_M) (h : Nat) : Option Int32 :=
  some ((zq_shl (1 : Int32) (X.1 h 0)) - (1 : Int32))
set_option maxRecDepth 20000 in
set_option maxHeartbeats 8000000 in
theorem s_X5_everybody (G : zq_G) (N z j : Nat) (X : zq_M) (h : Nat) (gh : zq_sc (zq_shX j) h = true) : zq_V G YX5_everybody (1, 0, 0) (zq_ei (zq_shX j) z X) 0 0 0 (lv_args 0 [.ref (zq_ad G h)]) [] (zq_shX j) z X (f_X5_everybody N j X h) := by
  unfold f_X5_everybody
  refine zr_lo (l2 := [(0, .ref (zq_ad G h))]) [0] rfl ?_
  refine zr_iconst (pc := 0) (zq_d eX5_everybody 0 rfl) zc_i1 ?_
  refine zr_aload_n (pc := 1) (zq_d eX5_everybody 1 rfl) 0 rfl rfl ?_
  refine zr_getI (pc := 2) (zq_d eX5_everybody 2 rfl) zf_RX5_43 (zq_sc_k0 gh) ?_
  refine zr_ishl (pc := 5) (zq_d eX5_everybody 3 rfl) ?_
  refine zr_iconst (pc := 6) (zq_d eX5_everybody 4 rfl) zc_i1 ?_
  refine zr_isub (pc := 7) (zq_d eX5_everybody 5 rfl) ?_
  exact zr_ireturn (pc := 8) (zq_d eX5_everybody 6 rfl) rfl rfl (Nat.zero_le _) (Nat.zero_le _)
def f_X10_isRoom (N j : Nat) (X : zq_M) (a1 : Int32) : Option Int32 :=
  (f_X10_isFromTo N j X a1 (0 : Int32) (2 : Int32)).bind (fun v1 => zq_gz v1 (some v1))
set_option maxRecDepth 20000 in
set_option maxHeartbeats 8000000 in
theorem s_X10_isRoom (G : zq_G) (N z j : Nat) (X : zq_M) (a1 : Int32) : zq_V G YX10_isRoom (2, 0, 0) (zq_ei (zq_shX j) z X) 0 0 0 (lv_args 0 [.int a1]) [] (zq_shX j) z X (f_X10_isRoom N j X a1) := by
  unfold f_X10_isRoom
  refine zr_lo (l2 := [(0, .int a1)]) [0] rfl ?_
  refine zr_iload_n (pc := 0) (zq_d eX10_isRoom 0 rfl) 0 rfl rfl ?_
  refine zr_iconst (pc := 1) (zq_d eX10_isRoom 1 rfl) zc_i0 ?_
  refine zr_iconst (pc := 2) (zq_d eX10_isRoom 2 rfl) zc_i2 ?_
  refine zr_Si (pc := 3) [_, _, _] (zq_d eX10_isRoom 3 rfl) (s_X10_isFromTo G N z j X _ _ _) zd_X10_isFromTo zl_RX10_98 rfl rfl (Nat.le_of_ble_eq_true rfl) (Nat.le_of_ble_eq_true rfl) (Nat.le_of_ble_eq_true rfl) ⟨Nat.le_refl _, Nat.le_refl _⟩ (fun v1 => ?_)
  exact zr_zreturnG (pc := 6) (zq_d eX10_isRoom 4 rfl) rfl rfl (Nat.zero_le _) (Nat.zero_le _)
def j_X6_lineUp_75 (v1 : Int32) (v2 : Int32) (rc5_1 : Int32 → Int32 → zq_M → Option (Int32 × zq_M)) (v4 : Int32) (X5 : zq_M)  : Option (Int32 × zq_M) :=
  zq_ck v4 5 (zq_b (zq_u1 X5 37 (zq_ix v4) v2) (fun X6 => rc5_1 (v1 + (1 : Int32)) (v2 + (1 : Int32)) X6))
def b_X6_lineUp_30 (a2 : Nat) (v1 : Int32) (v2 : Int32) (rc5_1 : Int32 → Int32 → zq_M → Option (Int32 × zq_M)) (rc30_2 : Int32 → zq_M → Option (Int32 × zq_M)) (v4 : Int32) (X5 : zq_M) : Option (Int32 × zq_M) :=
  if v4 ≤ 0 then (j_X6_lineUp_75 v1 v2 rc5_1 v4 X5) else (zq_ck (v4 - (1 : Int32)) 5 (zq_ck (X5.1 37 (zq_ix (v4 - (1 : Int32)))) 5 (zq_ck v2 5 (if (X5.1 a2 (zq_ix (X5.1 37 (zq_ix (v4 - (1 : Int32)))))) ≤ (X5.1 a2 (zq_ix v2)) then (j_X6_lineUp_75 v1 v2 rc5_1 v4 X5) else (zq_ck (v4 - (1 : Int32)) 5 (zq_ck v4 5 (zq_b (zq_u1 X5 37 (zq_ix v4) (X5.1 37 (zq_ix (v4 - (1 : Int32))))) (fun X7 => rc30_2 (v4 + (-1 : Int32)) X7))))))))
def b_X6_lineUp_5 (N : Nat) (a1 : Int32) (a2 : Nat) (rc5_1 : Int32 → Int32 → zq_M → Option (Int32 × zq_M)) (v1 : Int32) (v2 : Int32) (X3 : zq_M) : Option (Int32 × zq_M) :=
  if (X3.1 1 0) ≤ v2 then (some (v1, X3)) else (if ¬ ((zq_shr a1 v2) &&& (1 : Int32)) = (1 : Int32) then (rc5_1 v1 (v2 + (1 : Int32)) X3) else (zq_loop (fun _ _ => none) (b_X6_lineUp_30 a2 v1 v2 rc5_1) N v1 X3))
def f_X6_lineUp (N j : Nat) (X : zq_M) (a1 : Int32) (a2 : Nat) : Option (Int32 × zq_M) :=
  zq_loop (fun _ _ _ => none) (b_X6_lineUp_5 N a1 a2) N (0 : Int32) (0 : Int32) X
set_option maxRecDepth 20000 in
set_option maxHeartbeats 8000000 in
theorem s_X6_lineUp (G : zq_G) (N z j : Nat) (X : zq_M) (a1 : Int32) (a2 : Nat) (ga2 : zq_i5 (zq_shX j) a2 = true) : zq_V G YX6_lineUp (1, 0, 0) (zq_si (zq_shX j) z) 0 0 0 (lv_args 0 [.ref (zq_ad G 35), .int a1, .ref (zq_ad G a2)]) [] (zq_shX j) z X (f_X6_lineUp N j X a1 a2) := by
  unfold f_X6_lineUp
  refine zr_lo (l2 := [(0, .ref (zq_ad G 35)), (1, .int a1), (2, .ref (zq_ad G a2))]) [0, 1, 2] rfl ?_
  refine zr_iconst (pc := 0) (zq_d eX6_lineUp 0 rfl) zc_i0 ?_
  refine zr_istore_n (pc := 1) (lo2 := [(3, .int (0 : Int32)), (0, .ref (zq_ad G 35)), (1, .int a1), (2, .ref (zq_ad G a2))]) (zq_d eX6_lineUp 1 rfl) rfl (Nat.le_of_ble_eq_true rfl) rfl ?_
  refine zr_iconst (pc := 2) (zq_d eX6_lineUp 2 rfl) zc_i0 ?_
  refine zr_istore (pc := 3) (lo2 := [(4, .int (0 : Int32)), (3, .int (0 : Int32)), (0, .ref (zq_ad G 35)), (1, .int a1), (2, .ref (zq_ad G a2))]) (zq_d eX6_lineUp 3 rfl) (Nat.le_of_ble_eq_true rfl) rfl ?_
  have hbrc5_1 : ∀ rc5_1 : Int32 → Int32 → zq_M → Option (Int32 × zq_M), (∀ (v1 : Int32) (v2 : Int32) (X3 : zq_M), zq_V G YX6_lineUp (1, 0, 0) (zq_si (zq_shX j) z) 0 0 5 [(0, .ref (zq_ad G 35)), (1, .int a1), (2, .ref (zq_ad G a2)), (3, .int v1), (4, .int v2)] [] (zq_shX j) z X3 (rc5_1 v1 v2 X3)) → ∀ (v1 : Int32) (v2 : Int32) (X3 : zq_M), zq_V G YX6_lineUp (1, 0, 0) (zq_si (zq_shX j) z) 0 0 5 [(0, .ref (zq_ad G 35)), (1, .int a1), (2, .ref (zq_ad G a2)), (3, .int v1), (4, .int v2)] [] (zq_shX j) z X3 (b_X6_lineUp_5 N a1 a2 rc5_1 v1 v2 X3) := by
    intro rc5_1 hrc5_1 v1 v2 X3
    unfold b_X6_lineUp_5
    refine zr_iload (pc := 5) (zq_d eX6_lineUp 4 rfl) 4 rfl ?_
    refine zr_aload_n (pc := 7) (zq_d eX6_lineUp 5 rfl) 0 rfl rfl ?_
    refine zr_getC (pc := 8) (zq_d eX6_lineUp 6 rfl) zf_RX6_30 (kx_35_0 j) ?_
    refine zr_getI (pc := 11) (zq_d eX6_lineUp 7 rfl) zf_RX6_67 (kx_1_0 j) ?_
    refine zr_icmp_ge (pc := 14) 93 (zq_d eX6_lineUp 8 rfl) (by decide) (fun _ => ?_) (fun _ => ?_)
    · refine zr_iload_n (pc := 93) (zq_d eX6_lineUp 52 rfl) 3 rfl rfl ?_
      exact zr_ireturn (pc := 94) (zq_d eX6_lineUp 53 rfl) rfl rfl (Nat.zero_le _) (Nat.zero_le _)
    · refine zr_iload_n (pc := 17) (zq_d eX6_lineUp 9 rfl) 1 rfl rfl ?_
      refine zr_iload (pc := 18) (zq_d eX6_lineUp 10 rfl) 4 rfl ?_
      refine zr_ishr (pc := 20) (zq_d eX6_lineUp 11 rfl) ?_
      refine zr_iconst (pc := 21) (zq_d eX6_lineUp 12 rfl) zc_i1 ?_
      refine zr_iand (pc := 22) (zq_d eX6_lineUp 13 rfl) ?_
      refine zr_iconst (pc := 23) (zq_d eX6_lineUp 14 rfl) zc_i1 ?_
      refine zr_icmp_ne (pc := 24) 87 (zq_d eX6_lineUp 15 rfl) (by decide) (fun _ => ?_) (fun _ => ?_)
      · refine zr_iinc (pc := 87) (j := 4) (v := (v2 + (1 : Int32))) (lo2 := [(4, .int (v2 + (1 : Int32))), (0, .ref (zq_ad G 35)), (1, .int a1), (2, .ref (zq_ad G a2)), (3, .int v1)]) (zq_d eX6_lineUp 50 rfl) rfl (by rw [zc_i1]) (Nat.le_of_ble_eq_true rfl) rfl ?_
        refine zr_goto (pc := 90) 5 (zq_d eX6_lineUp 51 rfl) (by decide) ?_
        exact zr_lo [1, 2, 3, 4, 0] rfl (hrc5_1 v1 (v2 + (1 : Int32)) X3)
      · refine zr_iload_n (pc := 27) (zq_d eX6_lineUp 16 rfl) 3 rfl rfl ?_
        refine zr_istore (pc := 28) (lo2 := [(5, .int v1), (0, .ref (zq_ad G 35)), (1, .int a1), (2, .ref (zq_ad G a2)), (3, .int v1), (4, .int v2)]) (zq_d eX6_lineUp 17 rfl) (Nat.le_of_ble_eq_true rfl) rfl ?_
        have hbrc30_2 : ∀ rc30_2 : Int32 → zq_M → Option (Int32 × zq_M), (∀ (v4 : Int32) (X5 : zq_M), zq_V G YX6_lineUp (1, 0, 0) (zq_si (zq_shX j) z) 0 0 30 [(0, .ref (zq_ad G 35)), (1, .int a1), (2, .ref (zq_ad G a2)), (3, .int v1), (4, .int v2), (5, .int v4)] [] (zq_shX j) z X5 (rc30_2 v4 X5)) → ∀ (v4 : Int32) (X5 : zq_M), zq_V G YX6_lineUp (1, 0, 0) (zq_si (zq_shX j) z) 0 0 30 [(0, .ref (zq_ad G 35)), (1, .int a1), (2, .ref (zq_ad G a2)), (3, .int v1), (4, .int v2), (5, .int v4)] [] (zq_shX j) z X5 (b_X6_lineUp_30 a2 v1 v2 rc5_1 rc30_2 v4 X5) := by
          intro rc30_2 hrc30_2 v4 X5
          unfold b_X6_lineUp_30
          refine zr_iload (pc := 30) (zq_d eX6_lineUp 18 rfl) 5 rfl ?_
          have hj75_3 : zq_V G YX6_lineUp (1, 0, 0) (zq_si (zq_shX j) z) 0 0 75 [(0, .ref (zq_ad G 35)), (1, .int a1), (2, .ref (zq_ad G a2)), (3, .int v1), (4, .int v2), (5, .int v4)] [] (zq_shX j) z X5 (j_X6_lineUp_75 v1 v2 rc5_1 v4 X5) := by
            unfold j_X6_lineUp_75
            refine zr_aload_n (pc := 75) (zq_d eX6_lineUp 44 rfl) 0 rfl rfl ?_
            refine zr_getC (pc := 76) (zq_d eX6_lineUp 45 rfl) zf_RX6_17 (kx_35_3 j) ?_
            refine zr_iload (pc := 79) (zq_d eX6_lineUp 46 rfl) 5 rfl ?_
            refine zr_iload (pc := 81) (zq_d eX6_lineUp 47 rfl) 4 rfl ?_
            refine zr_iast (pc := 83) (zq_d eX6_lineUp 48 rfl) (ax_37 j) (fun X6 => ?_)
            refine zr_iinc (pc := 84) (j := 3) (v := (v1 + (1 : Int32))) (lo2 := [(3, .int (v1 + (1 : Int32))), (0, .ref (zq_ad G 35)), (1, .int a1), (2, .ref (zq_ad G a2)), (4, .int v2), (5, .int v4)]) (zq_d eX6_lineUp 49 rfl) rfl (by rw [zc_i1]) (Nat.le_of_ble_eq_true rfl) rfl ?_
            refine zr_iinc (pc := 87) (j := 4) (v := (v2 + (1 : Int32))) (lo2 := [(4, .int (v2 + (1 : Int32))), (3, .int (v1 + (1 : Int32))), (0, .ref (zq_ad G 35)), (1, .int a1), (2, .ref (zq_ad G a2)), (5, .int v4)]) (zq_d eX6_lineUp 50 rfl) rfl (by rw [zc_i1]) (Nat.le_of_ble_eq_true rfl) rfl ?_
            refine zr_goto (pc := 90) 5 (zq_d eX6_lineUp 51 rfl) (by decide) ?_
            exact zr_lo [2, 3, 4, 1, 0] rfl (hrc5_1 (v1 + (1 : Int32)) (v2 + (1 : Int32)) X6)
          refine zr_if_le (pc := 32) 75 (zq_d eX6_lineUp 19 rfl) (by decide) (fun _ => ?_) (fun _ => ?_)
          · exact zr_lo [0, 1, 2, 3, 4, 5] rfl (hj75_3)
          · refine zr_aload_n (pc := 35) (zq_d eX6_lineUp 20 rfl) 2 rfl rfl ?_
            refine zr_aload_n (pc := 36) (zq_d eX6_lineUp 21 rfl) 0 rfl rfl ?_
            refine zr_getC (pc := 37) (zq_d eX6_lineUp 22 rfl) zf_RX6_17 (kx_35_3 j) ?_
            refine zr_iload (pc := 40) (zq_d eX6_lineUp 23 rfl) 5 rfl ?_
            refine zr_iconst (pc := 42) (zq_d eX6_lineUp 24 rfl) zc_i1 ?_
            refine zr_isub (pc := 43) (zq_d eX6_lineUp 25 rfl) ?_
            refine zr_iald (pc := 44) (zq_d eX6_lineUp 26 rfl) (ax_37 j) ?_
            refine zr_iald (pc := 45) (zq_d eX6_lineUp 27 rfl) (zq_i5_s ga2) ?_
            refine zr_aload_n (pc := 46) (zq_d eX6_lineUp 28 rfl) 2 rfl rfl ?_
            refine zr_iload (pc := 47) (zq_d eX6_lineUp 29 rfl) 4 rfl ?_
            refine zr_iald (pc := 49) (zq_d eX6_lineUp 30 rfl) (zq_i5_s ga2) ?_
            refine zr_icmp_le (pc := 50) 75 (zq_d eX6_lineUp 31 rfl) (by decide) (fun _ => ?_) (fun _ => ?_)
            · exact zr_lo [0, 1, 2, 3, 4, 5] rfl (hj75_3)
            · refine zr_aload_n (pc := 53) (zq_d eX6_lineUp 32 rfl) 0 rfl rfl ?_
              refine zr_getC (pc := 54) (zq_d eX6_lineUp 33 rfl) zf_RX6_17 (kx_35_3 j) ?_
              refine zr_iload (pc := 57) (zq_d eX6_lineUp 34 rfl) 5 rfl ?_
              refine zr_aload_n (pc := 59) (zq_d eX6_lineUp 35 rfl) 0 rfl rfl ?_
              refine zr_getC (pc := 60) (zq_d eX6_lineUp 36 rfl) zf_RX6_17 (kx_35_3 j) ?_
              refine zr_iload (pc := 63) (zq_d eX6_lineUp 37 rfl) 5 rfl ?_
              refine zr_iconst (pc := 65) (zq_d eX6_lineUp 38 rfl) zc_i1 ?_
              refine zr_isub (pc := 66) (zq_d eX6_lineUp 39 rfl) ?_
              refine zr_iald (pc := 67) (zq_d eX6_lineUp 40 rfl) (ax_37 j) ?_
              refine zr_iast (pc := 68) (zq_d eX6_lineUp 41 rfl) (ax_37 j) (fun X7 => ?_)
              refine zr_iinc (pc := 69) (j := 5) (v := (v4 + (-1 : Int32))) (lo2 := [(5, .int (v4 + (-1 : Int32))), (0, .ref (zq_ad G 35)), (1, .int a1), (2, .ref (zq_ad G a2)), (3, .int v1), (4, .int v2)]) (zq_d eX6_lineUp 42 rfl) rfl (by rw [zc_im1]) (Nat.le_of_ble_eq_true rfl) rfl ?_
              refine zr_goto (pc := 72) 30 (zq_d eX6_lineUp 43 rfl) (by decide) ?_
              exact zr_lo [1, 2, 3, 4, 5, 0] rfl (hrc30_2 (v4 + (-1 : Int32)) X7)
        have hlrc30_2 := zr_loop (P := fun (rc30_2 : Int32 → zq_M → Option (Int32 × zq_M)) => ∀ (v4 : Int32) (X5 : zq_M), zq_V G YX6_lineUp (1, 0, 0) (zq_si (zq_shX j) z) 0 0 30 [(0, .ref (zq_ad G 35)), (1, .int a1), (2, .ref (zq_ad G a2)), (3, .int v1), (4, .int v2), (5, .int v4)] [] (zq_shX j) z X5 (rc30_2 v4 X5)) (fun _ _ => none) (b_X6_lineUp_30 a2 v1 v2 rc5_1) (fun _ _ => zr_none) hbrc30_2 N
        exact zr_lo [1, 2, 3, 4, 5, 0] rfl (hlrc30_2 v1 X3)
  have hlrc5_1 := zr_loop (P := fun (rc5_1 : Int32 → Int32 → zq_M → Option (Int32 × zq_M)) => ∀ (v1 : Int32) (v2 : Int32) (X3 : zq_M), zq_V G YX6_lineUp (1, 0, 0) (zq_si (zq_shX j) z) 0 0 5 [(0, .ref (zq_ad G 35)), (1, .int a1), (2, .ref (zq_ad G a2)), (3, .int v1), (4, .int v2)] [] (zq_shX j) z X3 (rc5_1 v1 v2 X3)) (fun _ _ _ => none) (b_X6_lineUp_5 N a1 a2) (fun _ _ _ => zr_none) hbrc5_1 N
  exact zr_lo [2, 3, 4, 1, 0] rfl (hlrc5_1 (0 : Int32) (0 : Int32) X)
def j_X6_placeInLine_56 (a3 : Int32)  : Option Int32 :=
  some ((a3 - (1 : Int32)) / (2 : Int32))
def j_X6_placeInLine_16 (a1 : Int32) (a2 : Int32) (a3 : Int32) (a4 : Int32) (v1 : Int32) : Option Int32 :=
  if a1 = (1 : Int32) then (j_X6_placeInLine_56 a3) else (if a1 = (2 : Int32) then (some ((a3 - (1 : Int32)) - a2)) else (if a1 = (3 : Int32) then (some v1) else (if a1 = (4 : Int32) then (j_X6_placeInLine_56 a3) else (if a1 = (5 : Int32) then (if a3 ≤ 0 then (some (-1 : Int32)) else (zq_dv a3 (some (zq_irem (a4 + a2) a3)))) else (if a1 = (6 : Int32) then (if a3 ≤ a2 then (some v1) else (some (0 : Int32))) else (some v1))))))
def f_X6_placeInLine (N j : Nat) (X : zq_M) (a1 : Int32) (a2 : Int32) (a3 : Int32) (a4 : Int32) : Option Int32 :=
  if ¬ (zq_irem a3 (2 : Int32)) = (1 : Int32) then (j_X6_placeInLine_16 a1 a2 a3 a4 (-1 : Int32)) else (j_X6_placeInLine_16 a1 a2 a3 a4 ((a3 - (1 : Int32)) / (2 : Int32)))
set_option maxRecDepth 20000 in
set_option maxHeartbeats 8000000 in
theorem s_X6_placeInLine (G : zq_G) (N z j : Nat) (X : zq_M) (a1 : Int32) (a2 : Int32) (a3 : Int32) (a4 : Int32) : zq_V G YX6_placeInLine (1, 0, 0) (zq_ei (zq_shX j) z X) 0 0 0 (lv_args 0 [.int a1, .int a2, .int a3, .int a4]) [] (zq_shX j) z X (f_X6_placeInLine N j X a1 a2 a3 a4) := by
  unfold f_X6_placeInLine
  refine zr_lo (l2 := [(0, .int a1), (1, .int a2), (2, .int a3), (3, .int a4)]) [0, 1, 2, 3] rfl ?_
  refine zr_iload_n (pc := 0) (zq_d eX6_placeInLine 0 rfl) 2 rfl rfl ?_
  refine zr_iconst (pc := 1) (zq_d eX6_placeInLine 1 rfl) zc_i2 ?_
  refine zr_iremk (pc := 2) (zq_d eX6_placeInLine 2 rfl) (by decide) ?_
  refine zr_iconst (pc := 3) (zq_d eX6_placeInLine 3 rfl) zc_i1 ?_
  have hj16_8 : ∀ (v1 : Int32), zq_V G YX6_placeInLine (1, 0, 0) (zq_ei (zq_shX j) z X) 0 0 16 [(0, .int a1), (1, .int a2), (2, .int a3), (3, .int a4)] [.int v1] (zq_shX j) z X (j_X6_placeInLine_16 a1 a2 a3 a4 v1) := by
    intro v1
    unfold j_X6_placeInLine_16
    refine zr_istore (pc := 16) (lo2 := [(4, .int v1), (0, .int a1), (1, .int a2), (2, .int a3), (3, .int a4)]) (zq_d eX6_placeInLine 12 rfl) (Nat.le_of_ble_eq_true rfl) rfl ?_
    refine zr_iload_n (pc := 18) (zq_d eX6_placeInLine 13 rfl) 1 rfl rfl ?_
    have hj56_1 : zq_V G YX6_placeInLine (1, 0, 0) (zq_ei (zq_shX j) z X) 0 0 56 [(2, .int a3)] [] (zq_shX j) z X (j_X6_placeInLine_56 a3) := by
      unfold j_X6_placeInLine_56
      refine zr_iload_n (pc := 56) (zq_d eX6_placeInLine 15 rfl) 0 rfl rfl ?_
      refine zr_iconst (pc := 57) (zq_d eX6_placeInLine 16 rfl) zc_i1 ?_
      refine zr_isub (pc := 58) (zq_d eX6_placeInLine 17 rfl) ?_
      refine zr_iconst (pc := 59) (zq_d eX6_placeInLine 18 rfl) zc_i2 ?_
      refine zr_idivk (pc := 60) (zq_d eX6_placeInLine 19 rfl) (by decide) ?_
      exact zr_ireturn (pc := 61) (zq_d eX6_placeInLine 20 rfl) rfl rfl (Nat.zero_le _) (Nat.zero_le _)
    refine zr_cs (fun q2 => ?_) (fun q2 => ?_)
    · refine zr_tab (pc := 19) (n := 1) 56 (zq_d eX6_placeInLine 14 rfl) q2 (by decide) (by decide) (by decide) rfl (by decide) ?_
      exact zr_lo [3] rfl (hj56_1)
    · refine zr_cs (fun q3 => ?_) (fun q3 => ?_)
      · refine zr_tab (pc := 19) (n := 2) 62 (zq_d eX6_placeInLine 14 rfl) q3 (by decide) (by decide) (by decide) rfl (by decide) ?_
        refine zr_iload_n (pc := 62) (zq_d eX6_placeInLine 21 rfl) 3 rfl rfl ?_
        refine zr_iconst (pc := 63) (zq_d eX6_placeInLine 22 rfl) zc_i1 ?_
        refine zr_isub (pc := 64) (zq_d eX6_placeInLine 23 rfl) ?_
        refine zr_iload_n (pc := 65) (zq_d eX6_placeInLine 24 rfl) 2 rfl rfl ?_
        refine zr_isub (pc := 66) (zq_d eX6_placeInLine 25 rfl) ?_
        exact zr_ireturn (pc := 67) (zq_d eX6_placeInLine 26 rfl) rfl rfl (Nat.zero_le _) (Nat.zero_le _)
      · refine zr_cs (fun q4 => ?_) (fun q4 => ?_)
        · refine zr_tab (pc := 19) (n := 3) 94 (zq_d eX6_placeInLine 14 rfl) q4 (by decide) (by decide) (by decide) rfl (by decide) ?_
          refine zr_iload (pc := 94) (zq_d eX6_placeInLine 44 rfl) 0 rfl ?_
          exact zr_ireturn (pc := 96) (zq_d eX6_placeInLine 45 rfl) rfl rfl (Nat.zero_le _) (Nat.zero_le _)
        · refine zr_cs (fun q5 => ?_) (fun q5 => ?_)
          · refine zr_tab (pc := 19) (n := 4) 56 (zq_d eX6_placeInLine 14 rfl) q5 (by decide) (by decide) (by decide) rfl (by decide) ?_
            exact zr_lo [3] rfl (hj56_1)
          · refine zr_cs (fun q6 => ?_) (fun q6 => ?_)
            · refine zr_tab (pc := 19) (n := 5) 68 (zq_d eX6_placeInLine 14 rfl) q6 (by decide) (by decide) (by decide) rfl (by decide) ?_
              refine zr_iload_n (pc := 68) (zq_d eX6_placeInLine 27 rfl) 3 rfl rfl ?_
              refine zr_if_le (pc := 69) 80 (zq_d eX6_placeInLine 28 rfl) (by decide) (fun _ => ?_) (fun _ => ?_)
              · refine zr_iconst (pc := 80) (zq_d eX6_placeInLine 35 rfl) zc_im1 ?_
                exact zr_ireturn (pc := 81) (zq_d eX6_placeInLine 36 rfl) rfl rfl (Nat.zero_le _) (Nat.zero_le _)
              · refine zr_iload_n (pc := 72) (zq_d eX6_placeInLine 29 rfl) 4 rfl rfl ?_
                refine zr_iload_n (pc := 73) (zq_d eX6_placeInLine 30 rfl) 2 rfl rfl ?_
                refine zr_iadd (pc := 74) (zq_d eX6_placeInLine 31 rfl) ?_
                refine zr_iload_n (pc := 75) (zq_d eX6_placeInLine 32 rfl) 3 rfl rfl ?_
                refine zr_irem (pc := 76) (zq_d eX6_placeInLine 33 rfl) ?_
                refine zr_goto (pc := 77) 81 (zq_d eX6_placeInLine 34 rfl) (by decide) ?_
                exact zr_ireturn (pc := 81) (zq_d eX6_placeInLine 36 rfl) rfl rfl (Nat.zero_le _) (Nat.zero_le _)
            · refine zr_cs (fun q7 => ?_) (fun q7 => ?_)
              · refine zr_tab (pc := 19) (n := 6) 82 (zq_d eX6_placeInLine 14 rfl) q7 (by decide) (by decide) (by decide) rfl (by decide) ?_
                refine zr_iload_n (pc := 82) (zq_d eX6_placeInLine 37 rfl) 3 rfl rfl ?_
                refine zr_iload_n (pc := 83) (zq_d eX6_placeInLine 38 rfl) 2 rfl rfl ?_
                refine zr_icmp_le (pc := 84) 91 (zq_d eX6_placeInLine 39 rfl) (by decide) (fun _ => ?_) (fun _ => ?_)
                · refine zr_iload (pc := 91) (zq_d eX6_placeInLine 42 rfl) 0 rfl ?_
                  exact zr_ireturn (pc := 93) (zq_d eX6_placeInLine 43 rfl) rfl rfl (Nat.zero_le _) (Nat.zero_le _)
                · refine zr_iconst (pc := 87) (zq_d eX6_placeInLine 40 rfl) zc_i0 ?_
                  refine zr_goto (pc := 88) 93 (zq_d eX6_placeInLine 41 rfl) (by decide) ?_
                  exact zr_ireturn (pc := 93) (zq_d eX6_placeInLine 43 rfl) rfl rfl (Nat.zero_le _) (Nat.zero_le _)
              · refine zr_tabD (pc := 19) 94 (zq_d eX6_placeInLine 14 rfl) (by have t0 := zq_nt (n := 1) (by decide) q2; have t1 := zq_nt (n := 2) (by decide) q3; have t2 := zq_nt (n := 3) (by decide) q4; have t3 := zq_nt (n := 4) (by decide) q5; have t4 := zq_nt (n := 5) (by decide) q6; have t5 := zq_nt (n := 6) (by decide) q7; omega) (by decide) ?_
                refine zr_iload (pc := 94) (zq_d eX6_placeInLine 44 rfl) 0 rfl ?_
                exact zr_ireturn (pc := 96) (zq_d eX6_placeInLine 45 rfl) rfl rfl (Nat.zero_le _) (Nat.zero_le _)
  refine zr_icmp_ne (pc := 4) 15 (zq_d eX6_placeInLine 4 rfl) (by decide) (fun _ => ?_) (fun _ => ?_)
  · refine zr_iconst (pc := 15) (zq_d eX6_placeInLine 11 rfl) zc_im1 ?_
    exact zr_lo [0, 1, 2, 3] rfl (hj16_8 (-1 : Int32))
  · refine zr_iload_n (pc := 7) (zq_d eX6_placeInLine 5 rfl) 2 rfl rfl ?_
    refine zr_iconst (pc := 8) (zq_d eX6_placeInLine 6 rfl) zc_i1 ?_
    refine zr_isub (pc := 9) (zq_d eX6_placeInLine 7 rfl) ?_
    refine zr_iconst (pc := 10) (zq_d eX6_placeInLine 8 rfl) zc_i2 ?_
    refine zr_idivk (pc := 11) (zq_d eX6_placeInLine 9 rfl) (by decide) ?_
    refine zr_goto (pc := 12) 16 (zq_d eX6_placeInLine 10 rfl) (by decide) ?_
    exact zr_lo [0, 1, 2, 3] rfl (hj16_8 ((a3 - (1 : Int32)) / (2 : Int32)))
def b_X6_isNearAnother_3 (j : Nat) (X : zq_M) (a1 : Int32) (a2 : Int32) (a3 : Nat) (rc3_1 : Int32 → Option Int32) (v1 : Int32) : Option Int32 :=
  if (X.1 1 0) ≤ v1 then (some (0 : Int32)) else (zq_ck v1 5 (zq_ck a1 5 (if v1 = a1 then (rc3_1 (v1 + (1 : Int32))) else (if ¬ ((zq_shr a2 v1) &&& (1 : Int32)) = (1 : Int32) then (rc3_1 (v1 + (1 : Int32))) else (zq_nn (X.2.2 35 1) (zq_ho (zq_shX j)) (fun h2 => if (X.1 h2 6) < ((X.1 a3 (zq_ix v1)) - (X.1 a3 (zq_ix a1))) then (rc3_1 (v1 + (1 : Int32))) else (zq_nn (X.2.2 35 1) (zq_ho (zq_shX j)) (fun h3 => if (X.1 h3 6) < (-((X.1 a3 (zq_ix v1)) - (X.1 a3 (zq_ix a1)))) then (rc3_1 (v1 + (1 : Int32))) else (some (1 : Int32))))))))))
def f_X6_isNearAnother (N j : Nat) (X : zq_M) (a1 : Int32) (a2 : Int32) (a3 : Nat) : Option Int32 :=
  zq_loop (fun _ => none) (b_X6_isNearAnother_3 j X a1 a2 a3) N (0 : Int32)
set_option maxRecDepth 20000 in
set_option maxHeartbeats 8000000 in
theorem s_X6_isNearAnother (G : zq_G) (N z j : Nat) (X : zq_M) (a1 : Int32) (a2 : Int32) (a3 : Nat) (ga3 : zq_i5 (zq_shX j) a3 = true) : zq_V G YX6_isNearAnother (1, 0, 0) (zq_ei (zq_shX j) z X) 0 0 0 (lv_args 0 [.ref (zq_ad G 35), .int a1, .int a2, .ref (zq_ad G a3)]) [] (zq_shX j) z X (f_X6_isNearAnother N j X a1 a2 a3) := by
  unfold f_X6_isNearAnother
  refine zr_lo (l2 := [(0, .ref (zq_ad G 35)), (1, .int a1), (2, .int a2), (3, .ref (zq_ad G a3))]) [0, 1, 2, 3] rfl ?_
  refine zr_iconst (pc := 0) (zq_d eX6_isNearAnother 0 rfl) zc_i0 ?_
  refine zr_istore (pc := 1) (lo2 := [(4, .int (0 : Int32)), (0, .ref (zq_ad G 35)), (1, .int a1), (2, .int a2), (3, .ref (zq_ad G a3))]) (zq_d eX6_isNearAnother 1 rfl) (Nat.le_of_ble_eq_true rfl) rfl ?_
  have hbrc3_1 : ∀ rc3_1 : Int32 → Option Int32, (∀ (v1 : Int32), zq_V G YX6_isNearAnother (1, 0, 0) (zq_ei (zq_shX j) z X) 0 0 3 [(0, .ref (zq_ad G 35)), (1, .int a1), (2, .int a2), (3, .ref (zq_ad G a3)), (4, .int v1)] [] (zq_shX j) z X (rc3_1 v1)) → ∀ (v1 : Int32), zq_V G YX6_isNearAnother (1, 0, 0) (zq_ei (zq_shX j) z X) 0 0 3 [(0, .ref (zq_ad G 35)), (1, .int a1), (2, .int a2), (3, .ref (zq_ad G a3)), (4, .int v1)] [] (zq_shX j) z X (b_X6_isNearAnother_3 j X a1 a2 a3 rc3_1 v1) := by
    intro rc3_1 hrc3_1 v1
    unfold b_X6_isNearAnother_3
    refine zr_iload (pc := 3) (zq_d eX6_isNearAnother 2 rfl) 4 rfl ?_
    refine zr_aload_n (pc := 5) (zq_d eX6_isNearAnother 3 rfl) 0 rfl rfl ?_
    refine zr_getC (pc := 6) (zq_d eX6_isNearAnother 4 rfl) zf_RX6_30 (kx_35_0 j) ?_
    refine zr_getI (pc := 9) (zq_d eX6_isNearAnother 5 rfl) zf_RX6_67 (kx_1_0 j) ?_
    refine zr_icmp_ge (pc := 12) 74 (zq_d eX6_isNearAnother 6 rfl) (by decide) (fun _ => ?_) (fun _ => ?_)
    · refine zr_iconst (pc := 74) (zq_d eX6_isNearAnother 40 rfl) zc_i0 ?_
      exact zr_zreturn (pc := 75) (zq_d eX6_isNearAnother 41 rfl) rfl rfl rfl (Nat.zero_le _) (Nat.zero_le _)
    · refine zr_aload_n (pc := 15) (zq_d eX6_isNearAnother 7 rfl) 3 rfl rfl ?_
      refine zr_iload (pc := 16) (zq_d eX6_isNearAnother 8 rfl) 4 rfl ?_
      refine zr_iald (pc := 18) (zq_d eX6_isNearAnother 9 rfl) (zq_i5_s ga3) ?_
      refine zr_aload_n (pc := 19) (zq_d eX6_isNearAnother 10 rfl) 3 rfl rfl ?_
      refine zr_iload_n (pc := 20) (zq_d eX6_isNearAnother 11 rfl) 1 rfl rfl ?_
      refine zr_iald (pc := 21) (zq_d eX6_isNearAnother 12 rfl) (zq_i5_s ga3) ?_
      refine zr_isub (pc := 22) (zq_d eX6_isNearAnother 13 rfl) ?_
      refine zr_istore (pc := 23) (lo2 := [(5, .int ((X.1 a3 (zq_ix v1)) - (X.1 a3 (zq_ix a1)))), (0, .ref (zq_ad G 35)), (1, .int a1), (2, .int a2), (3, .ref (zq_ad G a3)), (4, .int v1)]) (zq_d eX6_isNearAnother 14 rfl) (Nat.le_of_ble_eq_true rfl) rfl ?_
      refine zr_iload (pc := 25) (zq_d eX6_isNearAnother 15 rfl) 5 rfl ?_
      refine zr_iload_n (pc := 27) (zq_d eX6_isNearAnother 16 rfl) 2 rfl rfl ?_
      refine zr_icmp_eq (pc := 28) 68 (zq_d eX6_isNearAnother 17 rfl) (by decide) (fun _ => ?_) (fun _ => ?_)
      · refine zr_iinc (pc := 68) (j := 5) (v := (v1 + (1 : Int32))) (lo2 := [(4, .int (v1 + (1 : Int32))), (5, .int ((X.1 a3 (zq_ix v1)) - (X.1 a3 (zq_ix a1)))), (0, .ref (zq_ad G 35)), (1, .int a1), (2, .int a2), (3, .ref (zq_ad G a3))]) (zq_d eX6_isNearAnother 38 rfl) rfl (by rw [zc_i1]) (Nat.le_of_ble_eq_true rfl) rfl ?_
        refine zr_goto (pc := 71) 3 (zq_d eX6_isNearAnother 39 rfl) (by decide) ?_
        exact zr_lo [2, 3, 4, 5, 0] rfl (hrc3_1 (v1 + (1 : Int32)))
      · refine zr_iload_n (pc := 31) (zq_d eX6_isNearAnother 18 rfl) 3 rfl rfl ?_
        refine zr_iload (pc := 32) (zq_d eX6_isNearAnother 19 rfl) 5 rfl ?_
        refine zr_ishr (pc := 34) (zq_d eX6_isNearAnother 20 rfl) ?_
        refine zr_iconst (pc := 35) (zq_d eX6_isNearAnother 21 rfl) zc_i1 ?_
        refine zr_iand (pc := 36) (zq_d eX6_isNearAnother 22 rfl) ?_
        refine zr_iconst (pc := 37) (zq_d eX6_isNearAnother 23 rfl) zc_i1 ?_
        refine zr_icmp_ne (pc := 38) 68 (zq_d eX6_isNearAnother 24 rfl) (by decide) (fun _ => ?_) (fun _ => ?_)
        · refine zr_iinc (pc := 68) (j := 5) (v := (v1 + (1 : Int32))) (lo2 := [(4, .int (v1 + (1 : Int32))), (5, .int ((X.1 a3 (zq_ix v1)) - (X.1 a3 (zq_ix a1)))), (0, .ref (zq_ad G 35)), (1, .int a1), (2, .int a2), (3, .ref (zq_ad G a3))]) (zq_d eX6_isNearAnother 38 rfl) rfl (by rw [zc_i1]) (Nat.le_of_ble_eq_true rfl) rfl ?_
          refine zr_goto (pc := 71) 3 (zq_d eX6_isNearAnother 39 rfl) (by decide) ?_
          exact zr_lo [2, 3, 4, 5, 0] rfl (hrc3_1 (v1 + (1 : Int32)))
        · refine zr_iload (pc := 41) (zq_d eX6_isNearAnother 25 rfl) 0 rfl ?_
          refine zr_aload_n (pc := 43) (zq_d eX6_isNearAnother 26 rfl) 1 rfl rfl ?_
          refine zr_getR (pc := 44) (zq_d eX6_isNearAnother 27 rfl) zf_RX6_34 (kx_35_1 j) (fun h2 gh2 => ?_)
          refine zr_getI (pc := 47) (zq_d eX6_isNearAnother 28 rfl) zf_RX6_106 (zq_ho_k6 gh2) ?_
          refine zr_icmp_gt (pc := 50) 68 (zq_d eX6_isNearAnother 29 rfl) (by decide) (fun _ => ?_) (fun _ => ?_)
          · refine zr_iinc (pc := 68) (j := 5) (v := (v1 + (1 : Int32))) (lo2 := [(4, .int (v1 + (1 : Int32))), (5, .int ((X.1 a3 (zq_ix v1)) - (X.1 a3 (zq_ix a1)))), (0, .ref (zq_ad G 35)), (1, .int a1), (2, .int a2), (3, .ref (zq_ad G a3))]) (zq_d eX6_isNearAnother 38 rfl) rfl (by rw [zc_i1]) (Nat.le_of_ble_eq_true rfl) rfl ?_
            refine zr_goto (pc := 71) 3 (zq_d eX6_isNearAnother 39 rfl) (by decide) ?_
            exact zr_lo [2, 3, 4, 5, 0] rfl (hrc3_1 (v1 + (1 : Int32)))
          · refine zr_iload (pc := 53) (zq_d eX6_isNearAnother 30 rfl) 0 rfl ?_
            refine zr_ineg (pc := 55) (zq_d eX6_isNearAnother 31 rfl) ?_
            refine zr_aload_n (pc := 56) (zq_d eX6_isNearAnother 32 rfl) 1 rfl rfl ?_
            refine zr_getR (pc := 57) (zq_d eX6_isNearAnother 33 rfl) zf_RX6_34 (kx_35_1 j) (fun h3 gh3 => ?_)
            refine zr_getI (pc := 60) (zq_d eX6_isNearAnother 34 rfl) zf_RX6_106 (zq_ho_k6 gh3) ?_
            refine zr_icmp_gt (pc := 63) 68 (zq_d eX6_isNearAnother 35 rfl) (by decide) (fun _ => ?_) (fun _ => ?_)
            · refine zr_iinc (pc := 68) (j := 5) (v := (v1 + (1 : Int32))) (lo2 := [(4, .int (v1 + (1 : Int32))), (5, .int ((X.1 a3 (zq_ix v1)) - (X.1 a3 (zq_ix a1)))), (0, .ref (zq_ad G 35)), (1, .int a1), (2, .int a2), (3, .ref (zq_ad G a3))]) (zq_d eX6_isNearAnother 38 rfl) rfl (by rw [zc_i1]) (Nat.le_of_ble_eq_true rfl) rfl ?_
              refine zr_goto (pc := 71) 3 (zq_d eX6_isNearAnother 39 rfl) (by decide) ?_
              exact zr_lo [2, 3, 4, 5, 0] rfl (hrc3_1 (v1 + (1 : Int32)))
            · refine zr_iconst (pc := 66) (zq_d eX6_isNearAnother 36 rfl) zc_i1 ?_
              exact zr_zreturn (pc := 67) (zq_d eX6_isNearAnother 37 rfl) rfl rfl rfl (Nat.zero_le _) (Nat.zero_le _)
  have hlrc3_1 := zr_loop (P := fun (rc3_1 : Int32 → Option Int32) => ∀ (v1 : Int32), zq_V G YX6_isNearAnother (1, 0, 0) (zq_ei (zq_shX j) z X) 0 0 3 [(0, .ref (zq_ad G 35)), (1, .int a1), (2, .int a2), (3, .ref (zq_ad G a3)), (4, .int v1)] [] (zq_shX j) z X (rc3_1 v1)) (fun _ => none) (b_X6_isNearAnother_3 j X a1 a2 a3) (fun _ => zr_none) hbrc3_1 N
  exact zr_lo [1, 2, 3, 4, 0] rfl (hlrc3_1 (0 : Int32))
def b_X6_withoutNear_6 (N : Nat) (j : Nat) (X : zq_M) (a1 : Int32) (a2 : Int32) (a3 : Nat) (rc6_1 : Int32 → Int32 → Option Int32) (v1 : Int32) (v2 : Int32) : Option Int32 :=
  if (X.1 1 0) ≤ v2 then (some v1) else (if ¬ ((zq_shr a1 v2) &&& (1 : Int32)) = (1 : Int32) then (rc6_1 v1 (v2 + (1 : Int32))) else ((f_X6_isNearAnother N j X v2 a2 a3).bind (fun v3 => if v3 = 0 then (rc6_1 v1 (v2 + (1 : Int32))) else (zq_b (v1 &&& ((zq_shl (1 : Int32) v2) ^^^ (-1 : Int32))) (fun v4 => rc6_1 v4 (v2 + (1 : Int32)))))))
def f_X6_withoutNear (N j : Nat) (X : zq_M) (a1 : Int32) (a2 : Int32) (a3 : Nat) : Option Int32 :=
  zq_loop (fun _ _ => none) (b_X6_withoutNear_6 N j X a1 a2 a3) N a1 (0 : Int32)
set_option maxRecDepth 20000 in
set_option maxHeartbeats 8000000 in
theorem s_X6_withoutNear (G : zq_G) (N z j : Nat) (X : zq_M) (a1 : Int32) (a2 : Int32) (a3 : Nat) (ga3 : zq_i5 (zq_shX j) a3 = true) : zq_V G YX6_withoutNear (2, 0, 0) (zq_ei (zq_shX j) z X) 0 0 0 (lv_args 0 [.ref (zq_ad G 35), .int a1, .int a2, .ref (zq_ad G a3)]) [] (zq_shX j) z X (f_X6_withoutNear N j X a1 a2 a3) := by
  unfold f_X6_withoutNear
  refine zr_lo (l2 := [(0, .ref (zq_ad G 35)), (1, .int a1), (2, .int a2), (3, .ref (zq_ad G a3))]) [0, 1, 2, 3] rfl ?_
  refine zr_iload_n (pc := 0) (zq_d eX6_withoutNear 0 rfl) 1 rfl rfl ?_
  refine zr_istore (pc := 1) (lo2 := [(4, .int a1), (0, .ref (zq_ad G 35)), (1, .int a1), (2, .int a2), (3, .ref (zq_ad G a3))]) (zq_d eX6_withoutNear 1 rfl) (Nat.le_of_ble_eq_true rfl) rfl ?_
  refine zr_iconst (pc := 3) (zq_d eX6_withoutNear 2 rfl) zc_i0 ?_
  refine zr_istore (pc := 4) (lo2 := [(5, .int (0 : Int32)), (4, .int a1), (0, .ref (zq_ad G 35)), (1, .int a1), (2, .int a2), (3, .ref (zq_ad G a3))]) (zq_d eX6_withoutNear 3 rfl) (Nat.le_of_ble_eq_true rfl) rfl ?_
  have hbrc6_1 : ∀ rc6_1 : Int32 → Int32 → Option Int32, (∀ (v1 : Int32) (v2 : Int32), zq_V G YX6_withoutNear (2, 0, 0) (zq_ei (zq_shX j) z X) 0 0 6 [(0, .ref (zq_ad G 35)), (1, .int a1), (2, .int a2), (3, .ref (zq_ad G a3)), (4, .int v1), (5, .int v2)] [] (zq_shX j) z X (rc6_1 v1 v2)) → ∀ (v1 : Int32) (v2 : Int32), zq_V G YX6_withoutNear (2, 0, 0) (zq_ei (zq_shX j) z X) 0 0 6 [(0, .ref (zq_ad G 35)), (1, .int a1), (2, .int a2), (3, .ref (zq_ad G a3)), (4, .int v1), (5, .int v2)] [] (zq_shX j) z X (b_X6_withoutNear_6 N j X a1 a2 a3 rc6_1 v1 v2) := by
    intro rc6_1 hrc6_1 v1 v2
    unfold b_X6_withoutNear_6
    refine zr_iload (pc := 6) (zq_d eX6_withoutNear 4 rfl) 5 rfl ?_
    refine zr_aload_n (pc := 8) (zq_d eX6_withoutNear 5 rfl) 0 rfl rfl ?_
    refine zr_getC (pc := 9) (zq_d eX6_withoutNear 6 rfl) zf_RX6_30 (kx_35_0 j) ?_
    refine zr_getI (pc := 12) (zq_d eX6_withoutNear 7 rfl) zf_RX6_67 (kx_1_0 j) ?_
    refine zr_icmp_ge (pc := 15) 56 (zq_d eX6_withoutNear 8 rfl) (by decide) (fun _ => ?_) (fun _ => ?_)
    · refine zr_iload (pc := 56) (zq_d eX6_withoutNear 32 rfl) 4 rfl ?_
      exact zr_ireturn (pc := 58) (zq_d eX6_withoutNear 33 rfl) rfl rfl (Nat.zero_le _) (Nat.zero_le _)
    · refine zr_iload_n (pc := 18) (zq_d eX6_withoutNear 9 rfl) 1 rfl rfl ?_
      refine zr_iload (pc := 19) (zq_d eX6_withoutNear 10 rfl) 5 rfl ?_
      refine zr_ishr (pc := 21) (zq_d eX6_withoutNear 11 rfl) ?_
      refine zr_iconst (pc := 22) (zq_d eX6_withoutNear 12 rfl) zc_i1 ?_
      refine zr_iand (pc := 23) (zq_d eX6_withoutNear 13 rfl) ?_
      refine zr_iconst (pc := 24) (zq_d eX6_withoutNear 14 rfl) zc_i1 ?_
      refine zr_icmp_ne (pc := 25) 50 (zq_d eX6_withoutNear 15 rfl) (by decide) (fun _ => ?_) (fun _ => ?_)
      · refine zr_iinc (pc := 50) (j := 5) (v := (v2 + (1 : Int32))) (lo2 := [(5, .int (v2 + (1 : Int32))), (0, .ref (zq_ad G 35)), (1, .int a1), (2, .int a2), (3, .ref (zq_ad G a3)), (4, .int v1)]) (zq_d eX6_withoutNear 30 rfl) rfl (by rw [zc_i1]) (Nat.le_of_ble_eq_true rfl) rfl ?_
        refine zr_goto (pc := 53) 6 (zq_d eX6_withoutNear 31 rfl) (by decide) ?_
        exact zr_lo [1, 2, 3, 4, 5, 0] rfl (hrc6_1 v1 (v2 + (1 : Int32)))
      · refine zr_aload_n (pc := 28) (zq_d eX6_withoutNear 16 rfl) 0 rfl rfl ?_
        refine zr_iload (pc := 29) (zq_d eX6_withoutNear 17 rfl) 5 rfl ?_
        refine zr_iload_n (pc := 31) (zq_d eX6_withoutNear 18 rfl) 2 rfl rfl ?_
        refine zr_aload_n (pc := 32) (zq_d eX6_withoutNear 19 rfl) 3 rfl rfl ?_
        refine zr_Vi (pc := 33) [_, _, _] (zq_d eX6_withoutNear 20 rfl) (s_X6_isNearAnother G N z j X _ _ a3 ga3) zd_X6_isNearAnother zl_RX6_113 (ox_35 j) rfl rfl rfl rfl (Nat.le_of_ble_eq_true rfl) (Nat.le_of_ble_eq_true rfl) (Nat.le_of_ble_eq_true rfl) ⟨Nat.le_refl _, Nat.le_refl _⟩ (fun v3 => ?_)
        refine zr_if_eq (pc := 36) 50 (zq_d eX6_withoutNear 21 rfl) (by decide) (fun _ => ?_) (fun _ => ?_)
        · refine zr_iinc (pc := 50) (j := 5) (v := (v2 + (1 : Int32))) (lo2 := [(5, .int (v2 + (1 : Int32))), (0, .ref (zq_ad G 35)), (1, .int a1), (2, .int a2), (3, .ref (zq_ad G a3)), (4, .int v1)]) (zq_d eX6_withoutNear 30 rfl) rfl (by rw [zc_i1]) (Nat.le_of_ble_eq_true rfl) rfl ?_
          refine zr_goto (pc := 53) 6 (zq_d eX6_withoutNear 31 rfl) (by decide) ?_
          exact zr_lo [1, 2, 3, 4, 5, 0] rfl (hrc6_1 v1 (v2 + (1 : Int32)))
        · refine zr_iload (pc := 39) (zq_d eX6_withoutNear 22 rfl) 4 rfl ?_
          refine zr_iconst (pc := 41) (zq_d eX6_withoutNear 23 rfl) zc_i1 ?_
          refine zr_iload (pc := 42) (zq_d eX6_withoutNear 24 rfl) 5 rfl ?_
          refine zr_ishl (pc := 44) (zq_d eX6_withoutNear 25 rfl) ?_
          refine zr_iconst (pc := 45) (zq_d eX6_withoutNear 26 rfl) zc_im1 ?_
          refine zr_ixor (pc := 46) (zq_d eX6_withoutNear 27 rfl) ?_
          refine zr_iand (pc := 47) (zq_d eX6_withoutNear 28 rfl) ?_
          refine zr_nm (fun v4 => ?_)
          refine zr_istore (pc := 48) (lo2 := [(4, .int v4), (0, .ref (zq_ad G 35)), (1, .int a1), (2, .int a2), (3, .ref (zq_ad G a3)), (5, .int v2)]) (zq_d eX6_withoutNear 29 rfl) (Nat.le_of_ble_eq_true rfl) rfl ?_
          refine zr_iinc (pc := 50) (j := 5) (v := (v2 + (1 : Int32))) (lo2 := [(5, .int (v2 + (1 : Int32))), (4, .int v4), (0, .ref (zq_ad G 35)), (1, .int a1), (2, .int a2), (3, .ref (zq_ad G a3))]) (zq_d eX6_withoutNear 30 rfl) rfl (by rw [zc_i1]) (Nat.le_of_ble_eq_true rfl) rfl ?_
          refine zr_goto (pc := 53) 6 (zq_d eX6_withoutNear 31 rfl) (by decide) ?_
          exact zr_lo [2, 3, 4, 5, 1, 0] rfl (hrc6_1 v4 (v2 + (1 : Int32)))
  have hlrc6_1 := zr_loop (P := fun (rc6_1 : Int32 → Int32 → Option Int32) => ∀ (v1 : Int32) (v2 : Int32), zq_V G YX6_withoutNear (2, 0, 0) (zq_ei (zq_shX j) z X) 0 0 6 [(0, .ref (zq_ad G 35)), (1, .int a1), (2, .int a2), (3, .ref (zq_ad G a3)), (4, .int v1), (5, .int v2)] [] (zq_shX j) z X (rc6_1 v1 v2)) (fun _ _ => none) (b_X6_withoutNear_6 N j X a1 a2 a3) (fun _ _ => zr_none) hbrc6_1 N
  exact zr_lo [2, 3, 4, 5, 1, 0] rfl (hlrc6_1 a1 (0 : Int32))
def j_X6_speakers_139 (N : Nat) (j : Nat) (a2 : Int32) (h2 : Nat) (X4 : zq_M) (v7 : Int32) : Option (Int32 × zq_M) :=
  zq_nn (X4.2.2 35 1) (zq_ho (zq_shX j)) (fun h8 => if (X4.1 h8 6) ≤ 0 then (some (v7, X4)) else ((f_X6_withoutNear N j X4 v7 a2 h2).bind (fun v9 => some (v9, X4))))
def j_X6_speakers_110 (N : Nat) (j : Nat) (X : zq_M) (a1 : Int32) (a2 : Int32) (h2 : Nat) (v3 : Int32) (X4 : zq_M) (v6 : Int32) : Option (Int32 × zq_M) :=
  if ¬ (X.1 6 (zq_ix a1)) = (4 : Int32) then (j_X6_speakers_139 N j a2 h2 X4 v6) else (if ¬ (zq_irem v3 (2 : Int32)) = 0 then (j_X6_speakers_139 N j a2 h2 X4 v6) else (zq_ck (v3 / (2 : Int32)) 5 (zq_b (v6 ||| (zq_shl (1 : Int32) (X4.1 37 (zq_ix (v3 / (2 : Int32)))))) (fun v10 => j_X6_speakers_139 N j a2 h2 X4 v10))))
def j_X6_speakers_54 (N : Nat) (j : Nat) (X : zq_M) (a1 : Int32) (a2 : Int32) (a3 : Int32) (h2 : Nat) : Option (Int32 × zq_M) :=
  (f_X6_lineUp N j X a2 h2).bind (zq_p (fun v3 X4 => zq_ck a1 3 ((f_X6_placeInLine N j X4 (X.1 6 (zq_ix a1)) (X4.1 7 (zq_ix a1)) v3 a3).bind (fun v5 => if v5 < 0 then (j_X6_speakers_110 N j X a1 a2 h2 v3 X4 (0 : Int32)) else (if v3 ≤ v5 then (j_X6_speakers_110 N j X a1 a2 h2 v3 X4 (0 : Int32)) else (zq_ck v5 5 (j_X6_speakers_110 N j X a1 a2 h2 v3 X4 (zq_shl (1 : Int32) (X4.1 37 (zq_ix v5))))))))))
def f_X6_speakers (N j : Nat) (X : zq_M) (a1 : Int32) (a2 : Int32) (a3 : Int32) : Option (Int32 × zq_M) :=
  (f_X10_isRoom N j X a1).bind (fun v1 => if v1 = 0 then (some ((0 : Int32), X)) else (if ¬ a2 = 0 then (zq_ck a1 3 (if (X.1 6 (zq_ix a1)) = (3 : Int32) then (j_X6_speakers_54 N j X a1 a2 a3 3) else (if ¬ (X.1 6 (zq_ix a1)) = (6 : Int32) then (j_X6_speakers_54 N j X a1 a2 a3 2) else (j_X6_speakers_54 N j X a1 a2 a3 3)))) else (some ((0 : Int32), X))))
set_option maxRecDepth 20000 in
set_option maxHeartbeats 8000000 in
theorem s_X6_speakers (G : zq_G) (N z j : Nat) (X : zq_M) (a1 : Int32) (a2 : Int32) (a3 : Int32) : zq_V G YX6_speakers (3, 0, 0) (zq_si (zq_shX j) z) 0 0 0 (lv_args 0 [.ref (zq_ad G 35), .int a1, .int a2, .int a3]) [] (zq_shX j) z X (f_X6_speakers N j X a1 a2 a3) := by
  unfold f_X6_speakers
  refine zr_lo (l2 := [(0, .ref (zq_ad G 35)), (1, .int a1), (2, .int a2), (3, .int a3)]) [0, 1, 2, 3] rfl ?_
  refine zr_iload_n (pc := 0) (zq_d eX6_speakers 0 rfl) 1 rfl rfl ?_
  refine zr_Ni (pc := 1) "MiddleSpeaks" [_] (zq_d eX6_speakers 1 rfl) (s_X10_isRoom G N z j X _) zd_X10_isRoom (List.mem_of_getElem? (i := 6) rfl) rfl rfl (Nat.le_of_ble_eq_true rfl) (Nat.le_of_ble_eq_true rfl) (Nat.le_of_ble_eq_true rfl) ⟨Nat.le_refl _, Nat.le_refl _⟩ (fun v1 => ?_)
  refine zr_if_eq (pc := 4) 11 (zq_d eX6_speakers 2 rfl) (by decide) (fun _ => ?_) (fun _ => ?_)
  · refine zr_iconst (pc := 11) (zq_d eX6_speakers 5 rfl) zc_i0 ?_
    exact zr_ireturn (pc := 12) (zq_d eX6_speakers 6 rfl) rfl rfl (Nat.zero_le _) (Nat.zero_le _)
  · refine zr_iload_n (pc := 7) (zq_d eX6_speakers 3 rfl) 2 rfl rfl ?_
    refine zr_if_ne (pc := 8) 13 (zq_d eX6_speakers 4 rfl) (by decide) (fun _ => ?_) (fun _ => ?_)
    · refine zr_aload_n (pc := 13) (zq_d eX6_speakers 7 rfl) 0 rfl rfl ?_
      refine zr_getC (pc := 14) (zq_d eX6_speakers 8 rfl) zf_RX6_30 (kx_35_0 j) ?_
      refine zr_getC (pc := 17) (zq_d eX6_speakers 9 rfl) zf_RX6_64 (kx_1_5 j) ?_
      refine zr_iload_n (pc := 20) (zq_d eX6_speakers 10 rfl) 1 rfl rfl ?_
      refine zr_iald (pc := 21) (zq_d eX6_speakers 11 rfl) (ax_6 j) ?_
      refine zr_istore (pc := 22) (lo2 := [(4, .int (X.1 6 (zq_ix a1))), (0, .ref (zq_ad G 35)), (1, .int a1), (2, .int a2), (3, .int a3)]) (zq_d eX6_speakers 12 rfl) (Nat.le_of_ble_eq_true rfl) rfl ?_
      refine zr_iload (pc := 24) (zq_d eX6_speakers 13 rfl) 0 rfl ?_
      refine zr_iconst (pc := 26) (zq_d eX6_speakers 14 rfl) zc_i3 ?_
      have hj54_3 : ∀ (h2 : Nat) (gh2 : zq_i5 (zq_shX j) h2 = true), zq_V G YX6_speakers (3, 0, 0) (zq_si (zq_shX j) z) 0 0 54 [(0, .ref (zq_ad G 35)), (1, .int a1), (2, .int a2), (3, .int a3), (4, .int (X.1 6 (zq_ix a1)))] [.ref (zq_ad G h2)] (zq_shX j) z X (j_X6_speakers_54 N j X a1 a2 a3 h2) := by
        intro h2 gh2
        unfold j_X6_speakers_54
        refine zr_astore (pc := 54) (lo2 := [(5, .ref (zq_ad G h2)), (0, .ref (zq_ad G 35)), (1, .int a1), (2, .int a2), (3, .int a3), (4, .int (X.1 6 (zq_ix a1)))]) (zq_d eX6_speakers 26 rfl) (Nat.le_of_ble_eq_true rfl) rfl ?_
        refine zr_aload_n (pc := 56) (zq_d eX6_speakers 27 rfl) 1 rfl rfl ?_
        refine zr_iload_n (pc := 57) (zq_d eX6_speakers 28 rfl) 3 rfl rfl ?_
        refine zr_aload (pc := 58) (zq_d eX6_speakers 29 rfl) 0 rfl ?_
        refine zr_Wsi (pc := 60) [_, _] (zq_d eX6_speakers 30 rfl) (s_X6_lineUp G N z j X _ h2 gh2) zd_X6_lineUp zl_RX6_96 (ox_35 j) rfl rfl rfl rfl (Nat.le_of_ble_eq_true rfl) (Nat.le_of_ble_eq_true rfl) (Nat.le_of_ble_eq_true rfl) ⟨Nat.le_refl _, Nat.le_refl _⟩ (fun v3 X4 => ?_)
        refine zr_istore (pc := 63) (lo2 := [(6, .int v3), (5, .ref (zq_ad G h2)), (0, .ref (zq_ad G 35)), (1, .int a1), (2, .int a2), (3, .int a3), (4, .int (X.1 6 (zq_ix a1)))]) (zq_d eX6_speakers 31 rfl) (Nat.le_of_ble_eq_true rfl) rfl ?_
        refine zr_iload (pc := 65) (zq_d eX6_speakers 32 rfl) 6 rfl ?_
        refine zr_aload_n (pc := 67) (zq_d eX6_speakers 33 rfl) 2 rfl rfl ?_
        refine zr_getC (pc := 68) (zq_d eX6_speakers 34 rfl) zf_RX6_30 (kx_35_0 j) ?_
        refine zr_getC (pc := 71) (zq_d eX6_speakers 35 rfl) zf_RX6_99 (kx_1_6 j) ?_
        refine zr_iload_n (pc := 74) (zq_d eX6_speakers 36 rfl) 3 rfl rfl ?_
        refine zr_iald (pc := 75) (zq_d eX6_speakers 37 rfl) (ax_7 j) ?_
        refine zr_iload (pc := 76) (zq_d eX6_speakers 38 rfl) 0 rfl ?_
        refine zr_iload_n (pc := 78) (zq_d eX6_speakers 39 rfl) 5 rfl rfl ?_
        refine zr_Si (pc := 79) [_, _, _, _] (zq_d eX6_speakers 40 rfl) (s_X6_placeInLine G N z j X4 _ _ _ _) zd_X6_placeInLine zl_RX6_102 rfl rfl (Nat.le_of_ble_eq_true rfl) (Nat.le_of_ble_eq_true rfl) (Nat.le_of_ble_eq_true rfl) ⟨Nat.le_refl _, Nat.le_refl _⟩ (fun v5 => ?_)
        refine zr_istore (pc := 82) (lo2 := [(7, .int v5), (6, .int v3), (5, .ref (zq_ad G h2)), (0, .ref (zq_ad G 35)), (1, .int a1), (2, .int a2), (3, .int a3), (4, .int (X.1 6 (zq_ix a1)))]) (zq_d eX6_speakers 41 rfl) (Nat.le_of_ble_eq_true rfl) rfl ?_
        refine zr_iconst (pc := 84) (zq_d eX6_speakers 42 rfl) zc_i0 ?_
        refine zr_istore (pc := 85) (lo2 := [(8, .int (0 : Int32)), (7, .int v5), (6, .int v3), (5, .ref (zq_ad G h2)), (0, .ref (zq_ad G 35)), (1, .int a1), (2, .int a2), (3, .int a3), (4, .int (X.1 6 (zq_ix a1)))]) (zq_d eX6_speakers 43 rfl) (Nat.le_of_ble_eq_true rfl) rfl ?_
        refine zr_iload (pc := 87) (zq_d eX6_speakers 44 rfl) 1 rfl ?_
        have hj110_2 : ∀ (v6 : Int32), zq_V G YX6_speakers (3, 0, 0) (zq_si (zq_shX j) z) 0 0 110 [(0, .ref (zq_ad G 35)), (2, .int a2), (4, .int (X.1 6 (zq_ix a1))), (5, .ref (zq_ad G h2)), (6, .int v3), (8, .int v6)] [] (zq_shX j) z X4 (j_X6_speakers_110 N j X a1 a2 h2 v3 X4 v6) := by
          intro v6
          unfold j_X6_speakers_110
          refine zr_iload (pc := 110) (zq_d eX6_speakers 56 rfl) 2 rfl ?_
          refine zr_iconst (pc := 112) (zq_d eX6_speakers 57 rfl) zc_i4 ?_
          have hj139_1 : ∀ (v7 : Int32), zq_V G YX6_speakers (3, 0, 0) (zq_si (zq_shX j) z) 0 0 139 [(0, .ref (zq_ad G 35)), (2, .int a2), (5, .ref (zq_ad G h2)), (8, .int v7)] [] (zq_shX j) z X4 (j_X6_speakers_139 N j a2 h2 X4 v7) := by
            intro v7
            unfold j_X6_speakers_139
            refine zr_aload_n (pc := 139) (zq_d eX6_speakers 74 rfl) 0 rfl rfl ?_
            refine zr_getR (pc := 140) (zq_d eX6_speakers 75 rfl) zf_RX6_34 (kx_35_1 j) (fun h8 gh8 => ?_)
            refine zr_getI (pc := 143) (zq_d eX6_speakers 76 rfl) zf_RX6_106 (zq_ho_k6 gh8) ?_
            refine zr_if_le (pc := 146) 161 (zq_d eX6_speakers 77 rfl) (by decide) (fun _ => ?_) (fun _ => ?_)
            · refine zr_iload (pc := 161) (zq_d eX6_speakers 84 rfl) 3 rfl ?_
              exact zr_ireturn (pc := 163) (zq_d eX6_speakers 85 rfl) rfl rfl (Nat.zero_le _) (Nat.zero_le _)
            · refine zr_aload_n (pc := 149) (zq_d eX6_speakers 78 rfl) 0 rfl rfl ?_
              refine zr_iload (pc := 150) (zq_d eX6_speakers 79 rfl) 3 rfl ?_
              refine zr_iload_n (pc := 152) (zq_d eX6_speakers 80 rfl) 1 rfl rfl ?_
              refine zr_aload (pc := 153) (zq_d eX6_speakers 81 rfl) 2 rfl ?_
              refine zr_Vi (pc := 155) [_, _, _] (zq_d eX6_speakers 82 rfl) (s_X6_withoutNear G N z j X4 _ _ h2 gh2) zd_X6_withoutNear zl_RX6_109 (ox_35 j) rfl rfl rfl rfl (Nat.le_of_ble_eq_true rfl) (Nat.le_of_ble_eq_true rfl) (Nat.le_of_ble_eq_true rfl) ⟨Nat.le_refl _, Nat.le_refl _⟩ (fun v9 => ?_)
              refine zr_goto (pc := 158) 163 (zq_d eX6_speakers 83 rfl) (by decide) ?_
              exact zr_ireturn (pc := 163) (zq_d eX6_speakers 85 rfl) rfl rfl (Nat.zero_le _) (Nat.zero_le _)
          refine zr_icmp_ne (pc := 113) 139 (zq_d eX6_speakers 58 rfl) (by decide) (fun _ => ?_) (fun _ => ?_)
          · exact zr_lo [0, 1, 3, 5] rfl (hj139_1 v6)
          · refine zr_iload (pc := 116) (zq_d eX6_speakers 59 rfl) 4 rfl ?_
            refine zr_iconst (pc := 118) (zq_d eX6_speakers 60 rfl) zc_i2 ?_
            refine zr_iremk (pc := 119) (zq_d eX6_speakers 61 rfl) (by decide) ?_
            refine zr_if_ne (pc := 120) 139 (zq_d eX6_speakers 62 rfl) (by decide) (fun _ => ?_) (fun _ => ?_)
            · exact zr_lo [0, 1, 3, 5] rfl (hj139_1 v6)
            · refine zr_iload (pc := 123) (zq_d eX6_speakers 63 rfl) 5 rfl ?_
              refine zr_iconst (pc := 125) (zq_d eX6_speakers 64 rfl) zc_i1 ?_
              refine zr_aload_n (pc := 126) (zq_d eX6_speakers 65 rfl) 0 rfl rfl ?_
              refine zr_getC (pc := 127) (zq_d eX6_speakers 66 rfl) zf_RX6_17 (kx_35_3 j) ?_
              refine zr_iload (pc := 130) (zq_d eX6_speakers 67 rfl) 4 rfl ?_
              refine zr_iconst (pc := 132) (zq_d eX6_speakers 68 rfl) zc_i2 ?_
              refine zr_idivk (pc := 133) (zq_d eX6_speakers 69 rfl) (by decide) ?_
              refine zr_iald (pc := 134) (zq_d eX6_speakers 70 rfl) (ax_37 j) ?_
              refine zr_ishl (pc := 135) (zq_d eX6_speakers 71 rfl) ?_
              refine zr_ior (pc := 136) (zq_d eX6_speakers 72 rfl) ?_
              refine zr_nm (fun v10 => ?_)
              refine zr_istore (pc := 137) (lo2 := [(8, .int v10), (0, .ref (zq_ad G 35)), (2, .int a2), (4, .int (X.1 6 (zq_ix a1))), (5, .ref (zq_ad G h2)), (6, .int v3)]) (zq_d eX6_speakers 73 rfl) (Nat.le_of_ble_eq_true rfl) rfl ?_
              exact zr_lo [1, 2, 4, 0] rfl (hj139_1 v10)
        refine zr_if_lt (pc := 89) 110 (zq_d eX6_speakers 45 rfl) (by decide) (fun _ => ?_) (fun _ => ?_)
        · exact zr_lo [4, 6, 8, 3, 2, 0] rfl (hj110_2 (0 : Int32))
        · refine zr_iload (pc := 92) (zq_d eX6_speakers 46 rfl) 1 rfl ?_
          refine zr_iload (pc := 94) (zq_d eX6_speakers 47 rfl) 2 rfl ?_
          refine zr_icmp_ge (pc := 96) 110 (zq_d eX6_speakers 48 rfl) (by decide) (fun _ => ?_) (fun _ => ?_)
          · exact zr_lo [4, 6, 8, 3, 2, 0] rfl (hj110_2 (0 : Int32))
          · refine zr_iconst (pc := 99) (zq_d eX6_speakers 49 rfl) zc_i1 ?_
            refine zr_aload_n (pc := 100) (zq_d eX6_speakers 50 rfl) 4 rfl rfl ?_
            refine zr_getC (pc := 101) (zq_d eX6_speakers 51 rfl) zf_RX6_17 (kx_35_3 j) ?_
            refine zr_iload (pc := 104) (zq_d eX6_speakers 52 rfl) 1 rfl ?_
            refine zr_iald (pc := 106) (zq_d eX6_speakers 53 rfl) (ax_37 j) ?_
            refine zr_ishl (pc := 107) (zq_d eX6_speakers 54 rfl) ?_
            refine zr_istore (pc := 108) (lo2 := [(8, .int (zq_shl (1 : Int32) (X4.1 37 (zq_ix v5)))), (7, .int v5), (6, .int v3), (5, .ref (zq_ad G h2)), (0, .ref (zq_ad G 35)), (1, .int a1), (2, .int a2), (3, .int a3), (4, .int (X.1 6 (zq_ix a1)))]) (zq_d eX6_speakers 55 rfl) (Nat.le_of_ble_eq_true rfl) rfl ?_
            exact zr_lo [4, 6, 8, 3, 2, 0] rfl (hj110_2 (zq_shl (1 : Int32) (X4.1 37 (zq_ix v5))))
      refine zr_icmp_eq (pc := 27) 37 (zq_d eX6_speakers 15 rfl) (by decide) (fun _ => ?_) (fun _ => ?_)
      · refine zr_aload_n (pc := 37) (zq_d eX6_speakers 19 rfl) 1 rfl rfl ?_
        refine zr_getC (pc := 38) (zq_d eX6_speakers 20 rfl) zf_RX6_30 (kx_35_0 j) ?_
        refine zr_getC (pc := 41) (zq_d eX6_speakers 21 rfl) zf_RX6_93 (kx_1_2 j) ?_
        refine zr_goto (pc := 44) 54 (zq_d eX6_speakers 22 rfl) (by decide) ?_
        exact zr_lo [1, 2, 3, 4, 0] rfl (hj54_3 3 (zi5_3 j))
      · refine zr_iload (pc := 30) (zq_d eX6_speakers 16 rfl) 0 rfl ?_
        refine zr_bipush (pc := 32) (zq_d eX6_speakers 17 rfl) zc_b6 ?_
        refine zr_icmp_ne (pc := 34) 47 (zq_d eX6_speakers 18 rfl) (by decide) (fun _ => ?_) (fun _ => ?_)
        · refine zr_aload_n (pc := 47) (zq_d eX6_speakers 23 rfl) 1 rfl rfl ?_
          refine zr_getC (pc := 48) (zq_d eX6_speakers 24 rfl) zf_RX6_30 (kx_35_0 j) ?_
          refine zr_getC (pc := 51) (zq_d eX6_speakers 25 rfl) zf_RX6_61 (kx_1_1 j) ?_
          exact zr_lo [1, 2, 3, 4, 0] rfl (hj54_3 2 (zi5_2 j))
        · refine zr_aload_n (pc := 37) (zq_d eX6_speakers 19 rfl) 1 rfl rfl ?_
          refine zr_getC (pc := 38) (zq_d eX6_speakers 20 rfl) zf_RX6_30 (kx_35_0 j) ?_
          refine zr_getC (pc := 41) (zq_d eX6_speakers 21 rfl) zf_RX6_93 (kx_1_2 j) ?_
          refine zr_goto (pc := 44) 54 (zq_d eX6_speakers 22 rfl) (by decide) ?_
          exact zr_lo [1, 2, 3, 4, 0] rfl (hj54_3 3 (zi5_3 j))
    · refine zr_iconst (pc := 11) (zq_d eX6_speakers 5 rfl) zc_i0 ?_
      exact zr_ireturn (pc := 12) (zq_d eX6_speakers 6 rfl) rfl rfl (Nat.zero_le _) (Nat.zero_le _)
def b_X1_tellSpeakers_9 (N : Nat) (j : Nat) (a1 : Int32) (v1 : Int32) (rc2_1 : Int32 → zq_M → Option zq_M) (rc9_2 : Int32 → zq_M → Option zq_M) (v3 : Int32) (X4 : zq_M) : Option zq_M :=
  (f_X5_everybody N j X4 1).bind (fun v5 => if v5 < v3 then (rc2_1 (v1 + (1 : Int32)) X4) else ((f_X6_speakers N j X4 v1 v3 ((X4.1 1 7) + a1)).bind (zq_p (fun v6 X7 => zq_ck ((v1 * (32 : Int32)) + v3) 96 (zq_b (zq_u1 X7 48 (zq_ix ((v1 * (32 : Int32)) + v3)) v6) (fun X8 => rc9_2 (v3 + (1 : Int32)) X8))))))
def b_X1_tellSpeakers_2 (N : Nat) (j : Nat) (a1 : Int32) (rc2_1 : Int32 → zq_M → Option zq_M) (v1 : Int32) (X2 : zq_M) : Option zq_M :=
  if (3 : Int32) ≤ v1 then (some X2) else (zq_loop (fun _ _ => none) (b_X1_tellSpeakers_9 N j a1 v1 rc2_1) N (0 : Int32) X2)
def f_X1_tellSpeakers (N j : Nat) (X : zq_M) (a1 : Int32) : Option zq_M :=
  zq_loop (fun _ _ => none) (b_X1_tellSpeakers_2 N j a1) N (0 : Int32) X
set_option maxRecDepth 20000 in
set_option maxHeartbeats 8000000 in
theorem s_X1_tellSpeakers (G : zq_G) (N z j : Nat) (X : zq_M) (a1 : Int32) : zq_V G YX1_tellSpeakers (4, 0, 0) (zq_sv (zq_shX j) z) 0 0 0 (lv_args 0 [.ref (zq_ad G 45), .int a1]) [] (zq_shX j) z X (f_X1_tellSpeakers N j X a1) := by
  unfold f_X1_tellSpeakers
  refine zr_lo (l2 := [(0, .ref (zq_ad G 45)), (1, .int a1)]) [0, 1] rfl ?_
  refine zr_iconst (pc := 0) (zq_d eX1_tellSpeakers 0 rfl) zc_i0 ?_
  refine zr_istore_n (pc := 1) (lo2 := [(2, .int (0 : Int32)), (0, .ref (zq_ad G 45)), (1, .int a1)]) (zq_d eX1_tellSpeakers 1 rfl) rfl (Nat.le_of_ble_eq_true rfl) rfl ?_
  have hbrc2_1 : ∀ rc2_1 : Int32 → zq_M → Option zq_M, (∀ (v1 : Int32) (X2 : zq_M), zq_V G YX1_tellSpeakers (4, 0, 0) (zq_sv (zq_shX j) z) 0 0 2 [(0, .ref (zq_ad G 45)), (1, .int a1), (2, .int v1)] [] (zq_shX j) z X2 (rc2_1 v1 X2)) → ∀ (v1 : Int32) (X2 : zq_M), zq_V G YX1_tellSpeakers (4, 0, 0) (zq_sv (zq_shX j) z) 0 0 2 [(0, .ref (zq_ad G 45)), (1, .int a1), (2, .int v1)] [] (zq_shX j) z X2 (b_X1_tellSpeakers_2 N j a1 rc2_1 v1 X2) := by
    intro rc2_1 hrc2_1 v1 X2
    unfold b_X1_tellSpeakers_2
    refine zr_iload_n (pc := 2) (zq_d eX1_tellSpeakers 2 rfl) 2 rfl rfl ?_
    refine zr_iconst (pc := 3) (zq_d eX1_tellSpeakers 3 rfl) zc_i3 ?_
    refine zr_icmp_ge (pc := 4) 67 (zq_d eX1_tellSpeakers 4 rfl) (by decide) (fun _ => ?_) (fun _ => ?_)
    · exact zr_vreturn (pc := 67) (zq_d eX1_tellSpeakers 36 rfl) rfl rfl (Nat.zero_le _) (Nat.zero_le _)
    · refine zr_iconst (pc := 7) (zq_d eX1_tellSpeakers 5 rfl) zc_i0 ?_
      refine zr_istore_n (pc := 8) (lo2 := [(3, .int (0 : Int32)), (0, .ref (zq_ad G 45)), (1, .int a1), (2, .int v1)]) (zq_d eX1_tellSpeakers 6 rfl) rfl (Nat.le_of_ble_eq_true rfl) rfl ?_
      have hbrc9_2 : ∀ rc9_2 : Int32 → zq_M → Option zq_M, (∀ (v3 : Int32) (X4 : zq_M), zq_V G YX1_tellSpeakers (4, 0, 0) (zq_sv (zq_shX j) z) 0 0 9 [(0, .ref (zq_ad G 45)), (1, .int a1), (2, .int v1), (3, .int v3)] [] (zq_shX j) z X4 (rc9_2 v3 X4)) → ∀ (v3 : Int32) (X4 : zq_M), zq_V G YX1_tellSpeakers (4, 0, 0) (zq_sv (zq_shX j) z) 0 0 9 [(0, .ref (zq_ad G 45)), (1, .int a1), (2, .int v1), (3, .int v3)] [] (zq_shX j) z X4 (b_X1_tellSpeakers_9 N j a1 v1 rc2_1 rc9_2 v3 X4) := by
        intro rc9_2 hrc9_2 v3 X4
        unfold b_X1_tellSpeakers_9
        refine zr_iload_n (pc := 9) (zq_d eX1_tellSpeakers 7 rfl) 3 rfl rfl ?_
        refine zr_aload_n (pc := 10) (zq_d eX1_tellSpeakers 8 rfl) 0 rfl rfl ?_
        refine zr_getC (pc := 11) (zq_d eX1_tellSpeakers 9 rfl) zf_RX1_29 (kx_45_0 j) ?_
        refine zr_getC (pc := 14) (zq_d eX1_tellSpeakers 10 rfl) zf_RX1_33 (kx_35_0 j) ?_
        refine zr_Vi (pc := 17) [] (zq_d eX1_tellSpeakers 11 rfl) (s_X5_everybody G N z j X4 1 (zsc_1 j)) zd_X5_everybody zl_RX1_88 (ox_1 j) rfl rfl rfl rfl (Nat.le_of_ble_eq_true rfl) (Nat.le_of_ble_eq_true rfl) (Nat.le_of_ble_eq_true rfl) ⟨Nat.le_refl _, Nat.le_refl _⟩ (fun v5 => ?_)
        refine zr_icmp_gt (pc := 20) 61 (zq_d eX1_tellSpeakers 12 rfl) (by decide) (fun _ => ?_) (fun _ => ?_)
        · refine zr_iinc (pc := 61) (j := 2) (v := (v1 + (1 : Int32))) (lo2 := [(2, .int (v1 + (1 : Int32))), (0, .ref (zq_ad G 45)), (1, .int a1), (3, .int v3)]) (zq_d eX1_tellSpeakers 34 rfl) rfl (by rw [zc_i1]) (Nat.le_of_ble_eq_true rfl) rfl ?_
          refine zr_goto (pc := 64) 2 (zq_d eX1_tellSpeakers 35 rfl) (by decide) ?_
          exact zr_lo [1, 2, 0] rfl (hrc2_1 (v1 + (1 : Int32)) X4)
        · refine zr_aload_n (pc := 23) (zq_d eX1_tellSpeakers 13 rfl) 0 rfl rfl ?_
          refine zr_getC (pc := 24) (zq_d eX1_tellSpeakers 14 rfl) zf_RX1_20 (kx_45_3 j) ?_
          refine zr_iload_n (pc := 27) (zq_d eX1_tellSpeakers 15 rfl) 2 rfl rfl ?_
          refine zr_bipush (pc := 28) (zq_d eX1_tellSpeakers 16 rfl) zc_b32 ?_
          refine zr_imul (pc := 30) (zq_d eX1_tellSpeakers 17 rfl) ?_
          refine zr_iload_n (pc := 31) (zq_d eX1_tellSpeakers 18 rfl) 3 rfl rfl ?_
          refine zr_iadd (pc := 32) (zq_d eX1_tellSpeakers 19 rfl) ?_
          refine zr_aload_n (pc := 33) (zq_d eX1_tellSpeakers 20 rfl) 0 rfl rfl ?_
          refine zr_getC (pc := 34) (zq_d eX1_tellSpeakers 21 rfl) zf_RX1_29 (kx_45_0 j) ?_
          refine zr_iload_n (pc := 37) (zq_d eX1_tellSpeakers 22 rfl) 2 rfl rfl ?_
          refine zr_iload_n (pc := 38) (zq_d eX1_tellSpeakers 23 rfl) 3 rfl rfl ?_
          refine zr_aload_n (pc := 39) (zq_d eX1_tellSpeakers 24 rfl) 0 rfl rfl ?_
          refine zr_getC (pc := 40) (zq_d eX1_tellSpeakers 25 rfl) zf_RX1_29 (kx_45_0 j) ?_
          refine zr_getC (pc := 43) (zq_d eX1_tellSpeakers 26 rfl) zf_RX1_33 (kx_35_0 j) ?_
          refine zr_getI (pc := 46) (zq_d eX1_tellSpeakers 27 rfl) zf_RX1_91 (kx_1_7 j) ?_
          refine zr_iload_n (pc := 49) (zq_d eX1_tellSpeakers 28 rfl) 1 rfl rfl ?_
          refine zr_iadd (pc := 50) (zq_d eX1_tellSpeakers 29 rfl) ?_
          refine zr_Wsi (pc := 51) [_, _, _] (zq_d eX1_tellSpeakers 30 rfl) (s_X6_speakers G N z j X4 _ _ _) zd_X6_speakers zl_RX1_94 (ox_35 j) rfl rfl rfl rfl (Nat.le_of_ble_eq_true rfl) (Nat.le_of_ble_eq_true rfl) (Nat.le_of_ble_eq_true rfl) ⟨Nat.le_refl _, Nat.le_refl _⟩ (fun v6 X7 => ?_)
          refine zr_iast (pc := 54) (zq_d eX1_tellSpeakers 31 rfl) (ax_48 j) (fun X8 => ?_)
          refine zr_iinc (pc := 55) (j := 3) (v := (v3 + (1 : Int32))) (lo2 := [(3, .int (v3 + (1 : Int32))), (0, .ref (zq_ad G 45)), (1, .int a1), (2, .int v1)]) (zq_d eX1_tellSpeakers 32 rfl) rfl (by rw [zc_i1]) (Nat.le_of_ble_eq_true rfl) rfl ?_
          refine zr_goto (pc := 58) 9 (zq_d eX1_tellSpeakers 33 rfl) (by decide) ?_
          exact zr_lo [1, 2, 3, 0] rfl (hrc9_2 (v3 + (1 : Int32)) X8)
      have hlrc9_2 := zr_loop (P := fun (rc9_2 : Int32 → zq_M → Option zq_M) => ∀ (v3 : Int32) (X4 : zq_M), zq_V G YX1_tellSpeakers (4, 0, 0) (zq_sv (zq_shX j) z) 0 0 9 [(0, .ref (zq_ad G 45)), (1, .int a1), (2, .int v1), (3, .int v3)] [] (zq_shX j) z X4 (rc9_2 v3 X4)) (fun _ _ => none) (b_X1_tellSpeakers_9 N j a1 v1 rc2_1) (fun _ _ => zr_none) hbrc9_2 N
      exact zr_lo [1, 2, 3, 0] rfl (hlrc9_2 (0 : Int32) X2)
  have hlrc2_1 := zr_loop (P := fun (rc2_1 : Int32 → zq_M → Option zq_M) => ∀ (v1 : Int32) (X2 : zq_M), zq_V G YX1_tellSpeakers (4, 0, 0) (zq_sv (zq_shX j) z) 0 0 2 [(0, .ref (zq_ad G 45)), (1, .int a1), (2, .int v1)] [] (zq_shX j) z X2 (rc2_1 v1 X2)) (fun _ _ => none) (b_X1_tellSpeakers_2 N j a1) (fun _ _ => zr_none) hbrc2_1 N
  exact zr_lo [1, 2, 0] rfl (hlrc2_1 (0 : Int32) X)
def b_X6_whoIsAt_5 (X : zq_M) (a1 : Int32) (a2 : Int32) (rc5_1 : Int32 → Int32 → Option Int32) (v1 : Int32) (v2 : Int32) : Option Int32 :=
  if (X.1 1 0) ≤ v2 then (some v1) else (if ¬ ((zq_shr a1 ((2 : Int32) * v2)) &&& (3 : Int32)) = a2 then (rc5_1 v1 (v2 + (1 : Int32))) else (rc5_1 (v1 ||| (zq_shl (1 : Int32) v2)) (v2 + (1 : Int32))))
def f_X6_whoIsAt (N j : Nat) (X : zq_M) (a1 : Int32) (a2 : Int32) : Option Int32 :=
  zq_loop (fun _ _ => none) (b_X6_whoIsAt_5 X a1 a2) N (0 : Int32) (0 : Int32)
set_option maxRecDepth 20000 in
set_option maxHeartbeats 8000000 in
theorem s_X6_whoIsAt (G : zq_G) (N z j : Nat) (X : zq_M) (a1 : Int32) (a2 : Int32) : zq_V G YX6_whoIsAt (1, 0, 0) (zq_ei (zq_shX j) z X) 0 0 0 (lv_args 0 [.ref (zq_ad G 35), .int a1, .int a2]) [] (zq_shX j) z X (f_X6_whoIsAt N j X a1 a2) := by
  unfold f_X6_whoIsAt
  refine zr_lo (l2 := [(0, .ref (zq_ad G 35)), (1, .int a1), (2, .int a2)]) [0, 1, 2] rfl ?_
  refine zr_iconst (pc := 0) (zq_d eX6_whoIsAt 0 rfl) zc_i0 ?_
  refine zr_istore_n (pc := 1) (lo2 := [(3, .int (0 : Int32)), (0, .ref (zq_ad G 35)), (1, .int a1), (2, .int a2)]) (zq_d eX6_whoIsAt 1 rfl) rfl (Nat.le_of_ble_eq_true rfl) rfl ?_
  refine zr_iconst (pc := 2) (zq_d eX6_whoIsAt 2 rfl) zc_i0 ?_
  refine zr_istore (pc := 3) (lo2 := [(4, .int (0 : Int32)), (3, .int (0 : Int32)), (0, .ref (zq_ad G 35)), (1, .int a1), (2, .int a2)]) (zq_d eX6_whoIsAt 3 rfl) (Nat.le_of_ble_eq_true rfl) rfl ?_
  have hbrc5_1 : ∀ rc5_1 : Int32 → Int32 → Option Int32, (∀ (v1 : Int32) (v2 : Int32), zq_V G YX6_whoIsAt (1, 0, 0) (zq_ei (zq_shX j) z X) 0 0 5 [(0, .ref (zq_ad G 35)), (1, .int a1), (2, .int a2), (3, .int v1), (4, .int v2)] [] (zq_shX j) z X (rc5_1 v1 v2)) → ∀ (v1 : Int32) (v2 : Int32), zq_V G YX6_whoIsAt (1, 0, 0) (zq_ei (zq_shX j) z X) 0 0 5 [(0, .ref (zq_ad G 35)), (1, .int a1), (2, .int a2), (3, .int v1), (4, .int v2)] [] (zq_shX j) z X (b_X6_whoIsAt_5 X a1 a2 rc5_1 v1 v2) := by
    intro rc5_1 hrc5_1 v1 v2
    unfold b_X6_whoIsAt_5
    refine zr_iload (pc := 5) (zq_d eX6_whoIsAt 4 rfl) 4 rfl ?_
    refine zr_aload_n (pc := 7) (zq_d eX6_whoIsAt 5 rfl) 0 rfl rfl ?_
    refine zr_getC (pc := 8) (zq_d eX6_whoIsAt 6 rfl) zf_RX6_30 (kx_35_0 j) ?_
    refine zr_getI (pc := 11) (zq_d eX6_whoIsAt 7 rfl) zf_RX6_67 (kx_1_0 j) ?_
    refine zr_icmp_ge (pc := 14) 42 (zq_d eX6_whoIsAt 8 rfl) (by decide) (fun _ => ?_) (fun _ => ?_)
    · refine zr_iload_n (pc := 42) (zq_d eX6_whoIsAt 26 rfl) 3 rfl rfl ?_
      exact zr_ireturn (pc := 43) (zq_d eX6_whoIsAt 27 rfl) rfl rfl (Nat.zero_le _) (Nat.zero_le _)
    · refine zr_iload_n (pc := 17) (zq_d eX6_whoIsAt 9 rfl) 1 rfl rfl ?_
      refine zr_iconst (pc := 18) (zq_d eX6_whoIsAt 10 rfl) zc_i2 ?_
      refine zr_iload (pc := 19) (zq_d eX6_whoIsAt 11 rfl) 4 rfl ?_
      refine zr_imul (pc := 21) (zq_d eX6_whoIsAt 12 rfl) ?_
      refine zr_ishr (pc := 22) (zq_d eX6_whoIsAt 13 rfl) ?_
      refine zr_iconst (pc := 23) (zq_d eX6_whoIsAt 14 rfl) zc_i3 ?_
      refine zr_iand (pc := 24) (zq_d eX6_whoIsAt 15 rfl) ?_
      refine zr_iload_n (pc := 25) (zq_d eX6_whoIsAt 16 rfl) 2 rfl rfl ?_
      refine zr_icmp_ne (pc := 26) 36 (zq_d eX6_whoIsAt 17 rfl) (by decide) (fun _ => ?_) (fun _ => ?_)
      · refine zr_iinc (pc := 36) (j := 4) (v := (v2 + (1 : Int32))) (lo2 := [(4, .int (v2 + (1 : Int32))), (0, .ref (zq_ad G 35)), (1, .int a1), (2, .int a2), (3, .int v1)]) (zq_d eX6_whoIsAt 24 rfl) rfl (by rw [zc_i1]) (Nat.le_of_ble_eq_true rfl) rfl ?_
        refine zr_goto (pc := 39) 5 (zq_d eX6_whoIsAt 25 rfl) (by decide) ?_
        exact zr_lo [1, 2, 3, 4, 0] rfl (hrc5_1 v1 (v2 + (1 : Int32)))
      · refine zr_iload_n (pc := 29) (zq_d eX6_whoIsAt 18 rfl) 3 rfl rfl ?_
        refine zr_iconst (pc := 30) (zq_d eX6_whoIsAt 19 rfl) zc_i1 ?_
        refine zr_iload (pc := 31) (zq_d eX6_whoIsAt 20 rfl) 4 rfl ?_
        refine zr_ishl (pc := 33) (zq_d eX6_whoIsAt 21 rfl) ?_
        refine zr_ior (pc := 34) (zq_d eX6_whoIsAt 22 rfl) ?_
        refine zr_istore_n (pc := 35) (lo2 := [(3, .int (v1 ||| (zq_shl (1 : Int32) v2))), (0, .ref (zq_ad G 35)), (1, .int a1), (2, .int a2), (4, .int v2)]) (zq_d eX6_whoIsAt 23 rfl) rfl (Nat.le_of_ble_eq_true rfl) rfl ?_
        refine zr_iinc (pc := 36) (j := 4) (v := (v2 + (1 : Int32))) (lo2 := [(4, .int (v2 + (1 : Int32))), (3, .int (v1 ||| (zq_shl (1 : Int32) v2))), (0, .ref (zq_ad G 35)), (1, .int a1), (2, .int a2)]) (zq_d eX6_whoIsAt 24 rfl) rfl (by rw [zc_i1]) (Nat.le_of_ble_eq_true rfl) rfl ?_
        refine zr_goto (pc := 39) 5 (zq_d eX6_whoIsAt 25 rfl) (by decide) ?_
        exact zr_lo [2, 3, 4, 1, 0] rfl (hrc5_1 (v1 ||| (zq_shl (1 : Int32) v2)) (v2 + (1 : Int32)))
  have hlrc5_1 := zr_loop (P := fun (rc5_1 : Int32 → Int32 → Option Int32) => ∀ (v1 : Int32) (v2 : Int32), zq_V G YX6_whoIsAt (1, 0, 0) (zq_ei (zq_shX j) z X) 0 0 5 [(0, .ref (zq_ad G 35)), (1, .int a1), (2, .int a2), (3, .int v1), (4, .int v2)] [] (zq_shX j) z X (rc5_1 v1 v2)) (fun _ _ => none) (b_X6_whoIsAt_5 X a1 a2) (fun _ _ => zr_none) hbrc5_1 N
  exact zr_lo [2, 3, 4, 1, 0] rfl (hlrc5_1 (0 : Int32) (0 : Int32))
def b_X1_knowingThen_4 (X : zq_M) (a1 : Int32) (rc4_1 : Int32 → Int32 → Option Int32) (v1 : Int32) (v2 : Int32) : Option Int32 :=
  if (3 : Int32) ≤ v2 then (some v1) else (zq_ck v2 3 (if ((X.1 50 (zq_ix v2)) &&& a1) = 0 then (rc4_1 v1 (v2 + (1 : Int32))) else (zq_ck v2 3 (rc4_1 (v1 ||| (X.1 49 (zq_ix v2))) (v2 + (1 : Int32))))))
def f_X1_knowingThen (N j : Nat) (X : zq_M) (a1 : Int32) : Option Int32 :=
  zq_loop (fun _ _ => none) (b_X1_knowingThen_4 X a1) N a1 (0 : Int32)
set_option maxRecDepth 20000 in
set_option maxHeartbeats 8000000 in
theorem s_X1_knowingThen (G : zq_G) (N z j : Nat) (X : zq_M) (a1 : Int32) : zq_V G YX1_knowingThen (1, 0, 0) (zq_ei (zq_shX j) z X) 0 0 0 (lv_args 0 [.ref (zq_ad G 45), .int a1]) [] (zq_shX j) z X (f_X1_knowingThen N j X a1) := by
  unfold f_X1_knowingThen
  refine zr_lo (l2 := [(0, .ref (zq_ad G 45)), (1, .int a1)]) [0, 1] rfl ?_
  refine zr_iload_n (pc := 0) (zq_d eX1_knowingThen 0 rfl) 1 rfl rfl ?_
  refine zr_istore_n (pc := 1) (lo2 := [(2, .int a1), (0, .ref (zq_ad G 45)), (1, .int a1)]) (zq_d eX1_knowingThen 1 rfl) rfl (Nat.le_of_ble_eq_true rfl) rfl ?_
  refine zr_iconst (pc := 2) (zq_d eX1_knowingThen 2 rfl) zc_i0 ?_
  refine zr_istore_n (pc := 3) (lo2 := [(3, .int (0 : Int32)), (2, .int a1), (0, .ref (zq_ad G 45)), (1, .int a1)]) (zq_d eX1_knowingThen 3 rfl) rfl (Nat.le_of_ble_eq_true rfl) rfl ?_
  have hbrc4_1 : ∀ rc4_1 : Int32 → Int32 → Option Int32, (∀ (v1 : Int32) (v2 : Int32), zq_V G YX1_knowingThen (1, 0, 0) (zq_ei (zq_shX j) z X) 0 0 4 [(0, .ref (zq_ad G 45)), (1, .int a1), (2, .int v1), (3, .int v2)] [] (zq_shX j) z X (rc4_1 v1 v2)) → ∀ (v1 : Int32) (v2 : Int32), zq_V G YX1_knowingThen (1, 0, 0) (zq_ei (zq_shX j) z X) 0 0 4 [(0, .ref (zq_ad G 45)), (1, .int a1), (2, .int v1), (3, .int v2)] [] (zq_shX j) z X (b_X1_knowingThen_4 X a1 rc4_1 v1 v2) := by
    intro rc4_1 hrc4_1 v1 v2
    unfold b_X1_knowingThen_4
    refine zr_iload_n (pc := 4) (zq_d eX1_knowingThen 4 rfl) 3 rfl rfl ?_
    refine zr_iconst (pc := 5) (zq_d eX1_knowingThen 5 rfl) zc_i3 ?_
    refine zr_icmp_ge (pc := 6) 35 (zq_d eX1_knowingThen 6 rfl) (by decide) (fun _ => ?_) (fun _ => ?_)
    · refine zr_iload_n (pc := 35) (zq_d eX1_knowingThen 23 rfl) 2 rfl rfl ?_
      exact zr_ireturn (pc := 36) (zq_d eX1_knowingThen 24 rfl) rfl rfl (Nat.zero_le _) (Nat.zero_le _)
    · refine zr_aload_n (pc := 9) (zq_d eX1_knowingThen 7 rfl) 0 rfl rfl ?_
      refine zr_getC (pc := 10) (zq_d eX1_knowingThen 8 rfl) zf_RX1_26 (kx_45_5 j) ?_
      refine zr_iload_n (pc := 13) (zq_d eX1_knowingThen 9 rfl) 3 rfl rfl ?_
      refine zr_iald (pc := 14) (zq_d eX1_knowingThen 10 rfl) (ax_50 j) ?_
      refine zr_iload_n (pc := 15) (zq_d eX1_knowingThen 11 rfl) 1 rfl rfl ?_
      refine zr_iand (pc := 16) (zq_d eX1_knowingThen 12 rfl) ?_
      refine zr_if_eq (pc := 17) 29 (zq_d eX1_knowingThen 13 rfl) (by decide) (fun _ => ?_) (fun _ => ?_)
      · refine zr_iinc (pc := 29) (j := 3) (v := (v2 + (1 : Int32))) (lo2 := [(3, .int (v2 + (1 : Int32))), (0, .ref (zq_ad G 45)), (1, .int a1), (2, .int v1)]) (zq_d eX1_knowingThen 21 rfl) rfl (by rw [zc_i1]) (Nat.le_of_ble_eq_true rfl) rfl ?_
        refine zr_goto (pc := 32) 4 (zq_d eX1_knowingThen 22 rfl) (by decide) ?_
        exact zr_lo [1, 2, 3, 0] rfl (hrc4_1 v1 (v2 + (1 : Int32)))
      · refine zr_iload_n (pc := 20) (zq_d eX1_knowingThen 14 rfl) 2 rfl rfl ?_
        refine zr_aload_n (pc := 21) (zq_d eX1_knowingThen 15 rfl) 0 rfl rfl ?_
        refine zr_getC (pc := 22) (zq_d eX1_knowingThen 16 rfl) zf_RX1_23 (kx_45_4 j) ?_
        refine zr_iload_n (pc := 25) (zq_d eX1_knowingThen 17 rfl) 3 rfl rfl ?_
        refine zr_iald (pc := 26) (zq_d eX1_knowingThen 18 rfl) (ax_49 j) ?_
        refine zr_ior (pc := 27) (zq_d eX1_knowingThen 19 rfl) ?_
        refine zr_istore_n (pc := 28) (lo2 := [(2, .int (v1 ||| (X.1 49 (zq_ix v2)))), (0, .ref (zq_ad G 45)), (1, .int a1), (3, .int v2)]) (zq_d eX1_knowingThen 20 rfl) rfl (Nat.le_of_ble_eq_true rfl) rfl ?_
        refine zr_iinc (pc := 29) (j := 3) (v := (v2 + (1 : Int32))) (lo2 := [(3, .int (v2 + (1 : Int32))), (2, .int (v1 ||| (X.1 49 (zq_ix v2)))), (0, .ref (zq_ad G 45)), (1, .int a1)]) (zq_d eX1_knowingThen 21 rfl) rfl (by rw [zc_i1]) (Nat.le_of_ble_eq_true rfl) rfl ?_
        refine zr_goto (pc := 32) 4 (zq_d eX1_knowingThen 22 rfl) (by decide) ?_
        exact zr_lo [2, 3, 1, 0] rfl (hrc4_1 (v1 ||| (X.1 49 (zq_ix v2))) (v2 + (1 : Int32)))
  have hlrc4_1 := zr_loop (P := fun (rc4_1 : Int32 → Int32 → Option Int32) => ∀ (v1 : Int32) (v2 : Int32), zq_V G YX1_knowingThen (1, 0, 0) (zq_ei (zq_shX j) z X) 0 0 4 [(0, .ref (zq_ad G 45)), (1, .int a1), (2, .int v1), (3, .int v2)] [] (zq_shX j) z X (rc4_1 v1 v2)) (fun _ _ => none) (b_X1_knowingThen_4 X a1) (fun _ _ => zr_none) hbrc4_1 N
  exact zr_lo [2, 3, 1, 0] rfl (hlrc4_1 a1 (0 : Int32))
