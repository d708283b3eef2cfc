def zq_eh (G : zq_G) (q : Int32 × zq_M × Nat) : Option Value × zq_W := (some (.int q.1), zq_shX q.2.2, zq_ad G (111 + 5 * q.2.2), q.2.1)
theorem zq_hnew (j : Nat) : zq_fin_X2_init (111 + 5 * j) (zq_shX j) = zq_shX (j + 1) := by
  funext d
  unfold zq_fin_X2_init zq_us zq_shX
  by_cases h1 : d < 69
  · repeat rw [if_neg (by omega)]
    rw [if_pos h1, if_pos h1]
  · rw [if_neg h1]
    rw [if_neg h1]
    by_cases h2 : d < 111
    · repeat rw [if_neg (by omega)]
      rw [if_pos h2, if_pos h2]
    · rw [if_neg h2]
      rw [if_neg h2]
      by_cases h3 : d < 111 + 5 * j
      · repeat rw [if_neg (by omega)]
        rw [if_pos (by omega), if_pos (by omega)]
      · by_cases h4 : d < 111 + 5 * j + 5
        · obtain ⟨q, hq⟩ : ∃ q, d = 111 + 5 * j + q := ⟨d - (111 + 5 * j), by omega⟩
          have hq5 : q < 5 := by omega
          have e1 : (d - 111) / 5 = j := by omega
          have e2 : (d - 111) % 5 = q := by omega
          have e3 : d - q = 111 + 5 * j := by omega
          rw [e1, e2, e3, if_neg (Nat.lt_irrefl j), if_pos (Nat.lt_succ_self j)]
          subst hq
          rcases (show q = 0 ∨ q = 1 ∨ q = 2 ∨ q = 3 ∨ q = 4 by omega) with h5 | h5 | h5 | h5 | h5
          · subst h5
            rw [if_neg (by omega)]
            rw [if_neg (by omega)]
            rw [if_neg (by omega)]
            rw [if_neg (by omega)]
            rw [if_pos (by omega)]
            rfl
          · subst h5
            rw [if_neg (by omega)]
            rw [if_neg (by omega)]
            rw [if_neg (by omega)]
            rw [if_pos (by omega)]
            rfl
          · subst h5
            rw [if_neg (by omega)]
            rw [if_neg (by omega)]
            rw [if_pos (by omega)]
            rfl
          · subst h5
            rw [if_neg (by omega)]
            rw [if_pos (by omega)]
            rfl
          · subst h5
            rw [if_pos (by omega)]
            rfl
        · repeat rw [if_neg (by omega)]
theorem zq_hno (j i : Nat) (hi : i < j) : zq_ho (zq_shX j) (111 + 5 * i) = true := by
  unfold zq_ho
  simp only [Bool.and_eq_true, decide_eq_true_eq]
  have key : ∀ d, d < 5 → zq_shX j (111 + 5 * i + d) = some (zq_hsh (111 + 5 * i) d) := by
    intro d hd
    unfold zq_shX
    rw [if_neg (by omega), if_neg (by omega), if_pos (by omega)]
    have e2 : (111 + 5 * i + d - 111) % 5 = d := by omega
    rw [e2]
    have e3 : 111 + 5 * i + d - d = 111 + 5 * i := by omega
    rw [e3]
  exact ⟨⟨⟨⟨key 0 (by omega), key 1 (by omega)⟩, key 2 (by omega)⟩, key 3 (by omega)⟩, key 4 (by omega)⟩
def f_X10_house (N j : Nat) (X : zq_M) : Option (Int32 × zq_M × Nat) :=
  if (X.1 0 6) < (6 : Int32) then (zq_b (zq_z X (111 + 5 * j)) (fun X1 => (f_X2_init (111 + 5 * j) X1).bind (fun X2 => (f_X3_readInto N (j + 1) X2 (111 + 5 * j) (X2.1 0 4)).bind (zq_p (fun v3 X4 => zq_b (zq_u1 X4 0 4 (0 : Int32)) (fun X5 => if v3 < 0 then (zq_ck (X5.1 0 6) 6 (zq_b (zq_u3 X5 22 (zq_ix (X5.1 0 6)) (some (111 + 5 * j))) (fun X6 => zq_b (zq_u1 X6 1 14 (X6.1 0 6)) (fun X7 => zq_b (zq_u1 X7 0 6 ((X7.1 0 6) + (1 : Int32))) (fun X8 => some ((X8.1 1 14), X8, (j + 1))))))) else (some (((-10 : Int32) - v3), X5, (j + 1))))))))) else (some ((-4 : Int32), X, j))
set_option maxRecDepth 20000 in
set_option maxHeartbeats 8000000 in
theorem s_X10_house (G : zq_G) (N j : Nat) (X : zq_M) : zq_V G YX10_house (204, 5, 137) (zq_eh G) 0 0 0 (lv_args 0 [.ref (zq_ad G 0)]) [] (zq_shX j) (zq_ad G (111 + 5 * j)) X (f_X10_house N j X) := by
  unfold f_X10_house
  refine zr_lo (l2 := [(0, .ref (zq_ad G 0))]) [0] rfl ?_
  refine zr_aload_n (pc := 0) (zq_d eX10_house 0 rfl) 0 rfl rfl ?_
  refine zr_getI (pc := 1) (zq_d eX10_house 1 rfl) zf_RX10_151 (kx_0_6 j) ?_
  refine zr_bipush (pc := 4) (zq_d eX10_house 2 rfl) zc_b6 ?_
  refine zr_icmp_lt (pc := 6) 12 (zq_d eX10_house 3 rfl) (by decide) (fun _ => ?_) (fun _ => ?_)
  · refine zr_new (pc := 12) (c := (111 + 5 * j)) (ks := [0, 3, 3, 3, 3, 0, 0]) (zq_d eX10_house 6 rfl) (q := (RX2, TX2, 7)) rfl (zq_m1 118 rfl rfl) (zq_m1 120 rfl rfl) (zq_m1 3 rfl rfl) (zw_2 G) rfl (Nat.le_of_ble_eq_true rfl) (Nat.le_of_ble_eq_true rfl) (fun X1 => ?_)
    refine zr_dup (pc := 15) (zq_d eX10_house 7 rfl) rfl ?_
    refine zr_sz (sh2 := zq_us (zq_shX j) (111 + 5 * j) (.inl (2, [0, 3, 3, 3, 3, 0, 0]))) (z2 := zq_ad G ((111 + 5 * j) + 1)) rfl (by simp only [zq_ad] <;> omega) ?_
    refine zr_callIN (pc := 16) (host := "MiddleSpeaks") (As := []) (c := (111 + 5 * j)) (zq_d eX10_house 8 rfl) (s_X2_init G (111 + 5 * j) (zq_shX j) X1) zd_X2_init.1 zd_X2_init.2 rfl rfl (List.mem_of_getElem? (i := 1) rfl) rfl rfl (Nat.le_of_ble_eq_true rfl) (Nat.le_of_ble_eq_true rfl) (Nat.le_of_ble_eq_true rfl) ⟨(Nat.le_of_ble_eq_true rfl), (Nat.le_of_ble_eq_true rfl)⟩ (fun X2 _ => ?_)
    refine zr_sz (sh2 := zq_shX (j + 1)) (z2 := zq_ad G (111 + 5 * (j + 1))) (zq_hnew j) (by simp only [zq_ev, zq_ad] <;> omega) ?_
    refine zr_astore_n (pc := 19) (lo2 := [(1, .ref (zq_ad G (111 + 5 * j))), (0, .ref (zq_ad G 0))]) (zq_d eX10_house 9 rfl) rfl (Nat.le_of_ble_eq_true rfl) rfl ?_
    refine zr_aload_n (pc := 20) (zq_d eX10_house 10 rfl) 1 rfl rfl ?_
    refine zr_getC (pc := 21) (zq_d eX10_house 11 rfl) zf_RX10_39 (kx_0_8 (j + 1)) ?_
    refine zr_aload_n (pc := 24) (zq_d eX10_house 12 rfl) 0 rfl rfl ?_
    refine zr_aload_n (pc := 25) (zq_d eX10_house 13 rfl) 1 rfl rfl ?_
    refine zr_getC (pc := 26) (zq_d eX10_house 14 rfl) zf_RX10_21 (kx_0_3 (j + 1)) ?_
    refine zr_aload_n (pc := 29) (zq_d eX10_house 15 rfl) 1 rfl rfl ?_
    refine zr_getI (pc := 30) (zq_d eX10_house 16 rfl) zf_RX10_148 (kx_0_4 (j + 1)) ?_
    refine zr_Wsi (pc := 33) [_, _, _] (zq_d eX10_house 17 rfl) (s_X3_readInto G N (zq_ad G (111 + 5 * (j + 1))) (j + 1) X2 (111 + 5 * j) (zq_hno (j + 1) j (Nat.lt_succ_self j)) _) zd_X3_readInto zl_RX10_154 (ox_28 (j + 1)) rfl rfl rfl rfl (Nat.le_of_ble_eq_true rfl) (Nat.le_of_ble_eq_true rfl) (Nat.le_of_ble_eq_true rfl) ⟨(Nat.le_of_ble_eq_true rfl), (Nat.le_of_ble_eq_true rfl)⟩ (fun v3 X4 => ?_)
    refine zr_istore_n (pc := 36) (lo2 := [(2, .int v3), (1, .ref (zq_ad G (111 + 5 * j))), (0, .ref (zq_ad G 0))]) (zq_d eX10_house 18 rfl) rfl (Nat.le_of_ble_eq_true rfl) rfl ?_
    refine zr_aload_n (pc := 37) (zq_d eX10_house 19 rfl) 2 rfl rfl ?_
    refine zr_iconst (pc := 38) (zq_d eX10_house 20 rfl) zc_i0 ?_
    refine zr_putI (pc := 39) (zq_d eX10_house 21 rfl) zf_RX10_148 (kx_0_4 (j + 1)) zn_10_4 (fun X5 => ?_)
    refine zr_iload_n (pc := 42) (zq_d eX10_house 22 rfl) 0 rfl rfl ?_
    refine zr_if_lt (pc := 43) 51 (zq_d eX10_house 23 rfl) (by decide) (fun _ => ?_) (fun _ => ?_)
    · refine zr_aload_n (pc := 51) (zq_d eX10_house 28 rfl) 2 rfl rfl ?_
      refine zr_getC (pc := 52) (zq_d eX10_house 29 rfl) zf_RX10_27 (kx_0_5 (j + 1)) ?_
      refine zr_aload_n (pc := 55) (zq_d eX10_house 30 rfl) 2 rfl rfl ?_
      refine zr_getI (pc := 56) (zq_d eX10_house 31 rfl) zf_RX10_151 (kx_0_6 (j + 1)) ?_
      refine zr_aload_n (pc := 59) (zq_d eX10_house 32 rfl) 1 rfl rfl ?_
      refine zr_aast (pc := 60) (kd := 3) (ci := 2) (zq_d eX10_house 33 rfl) (ax_22 (j + 1)) (fun _ _ _ => rfl) rfl rfl (zq_ho_s (zq_hno (j + 1) j (Nat.lt_succ_self j))) (fun X6 => ?_)
      refine zr_aload_n (pc := 61) (zq_d eX10_house 34 rfl) 2 rfl rfl ?_
      refine zr_getC (pc := 62) (zq_d eX10_house 35 rfl) zf_RX10_12 (kx_0_0 (j + 1)) ?_
      refine zr_aload_n (pc := 65) (zq_d eX10_house 36 rfl) 2 rfl rfl ?_
      refine zr_getI (pc := 66) (zq_d eX10_house 37 rfl) zf_RX10_151 (kx_0_6 (j + 1)) ?_
      refine zr_putI (pc := 69) (zq_d eX10_house 38 rfl) zf_RX10_158 (kx_1_14 (j + 1)) zn_5_14 (fun X7 => ?_)
      refine zr_aload_n (pc := 72) (zq_d eX10_house 39 rfl) 2 rfl rfl ?_
      refine zr_dup (pc := 73) (zq_d eX10_house 40 rfl) rfl ?_
      refine zr_getI (pc := 74) (zq_d eX10_house 41 rfl) zf_RX10_151 (kx_0_6 (j + 1)) ?_
      refine zr_iconst (pc := 77) (zq_d eX10_house 42 rfl) zc_i1 ?_
      refine zr_iadd (pc := 78) (zq_d eX10_house 43 rfl) ?_
      refine zr_putI (pc := 79) (zq_d eX10_house 44 rfl) zf_RX10_151 (kx_0_6 (j + 1)) zn_10_6 (fun X8 => ?_)
      refine zr_aload_n (pc := 82) (zq_d eX10_house 45 rfl) 2 rfl rfl ?_
      refine zr_getC (pc := 83) (zq_d eX10_house 46 rfl) zf_RX10_12 (kx_0_0 (j + 1)) ?_
      refine zr_getI (pc := 86) (zq_d eX10_house 47 rfl) zf_RX10_158 (kx_1_14 (j + 1)) ?_
      exact zr_ireturn (pc := 89) (zq_d eX10_house 48 rfl) rfl rfl (Nat.le_of_ble_eq_true rfl) (Nat.le_of_ble_eq_true rfl)
    · refine zr_bipush (pc := 46) (zq_d eX10_house 24 rfl) zc_bm10 ?_
      refine zr_iload_n (pc := 48) (zq_d eX10_house 25 rfl) 0 rfl rfl ?_
      refine zr_isub (pc := 49) (zq_d eX10_house 26 rfl) ?_
      exact zr_ireturn (pc := 50) (zq_d eX10_house 27 rfl) rfl rfl (Nat.le_of_ble_eq_true rfl) (Nat.le_of_ble_eq_true rfl)
  · refine zr_bipush (pc := 9) (zq_d eX10_house 4 rfl) zc_bm4 ?_
    exact zr_ireturn (pc := 11) (zq_d eX10_house 5 rfl) rfl rfl (Nat.le_of_ble_eq_true rfl) (Nat.le_of_ble_eq_true rfl)
