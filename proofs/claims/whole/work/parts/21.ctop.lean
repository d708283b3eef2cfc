def f_X11_init (X : zq_M) : Option zq_M :=
  zq_b (zq_u1 X 69 0 (0 : Int32)) (fun X1 => zq_b (zq_u1 X1 69 1 (0 : Int32)) (fun X2 => zq_b (zq_u1 X2 69 2 (0 : Int32)) (fun X3 => zq_b (zq_u1 X3 69 3 (0 : Int32)) (fun X4 => zq_b (zq_z X4 70) (fun X5 => zq_b (zq_z X5 71) (fun X6 => zq_b (zq_z X6 72) (fun X7 => zq_b (zq_z X7 73) (fun X8 => zq_b (zq_z X8 74) (fun X9 => zq_b (zq_u1 X9 69 9 (0 : Int32)) (fun X10 => zq_b (zq_u1 X10 69 10 (0 : Int32)) (fun X11 => zq_b (zq_u1 X11 69 11 (-1 : Int32)) (fun X12 => zq_b (zq_u1 X12 69 12 (0 : Int32)) (fun X13 => zq_b (zq_u1 X13 69 13 (0 : Int32)) (fun X14 => zq_b (zq_u1 X14 69 14 (0 : Int32)) (fun X15 => zq_b (zq_z X15 75) (fun X16 => zq_b (zq_z X16 76) (fun X17 => zq_b (zq_z X17 77) (fun X18 => zq_b (zq_z X18 78) (fun X19 => zq_b (zq_z X19 79) (fun X20 => zq_b (zq_z X20 80) (fun X21 => zq_b (zq_z X21 81) (fun X22 => zq_b (zq_z X22 82) (fun X23 => zq_b (zq_u1 X23 69 23 (0 : Int32)) (fun X24 => zq_b (zq_u1 X24 69 24 (0 : Int32)) (fun X25 => zq_b (zq_u1 X25 69 25 (0 : Int32)) (fun X26 => zq_b (zq_z X26 83) (fun X27 => zq_ck (0 : Int32) 17 (zq_b (zq_u1 X27 83 (zq_ix (0 : Int32)) (112 : Int32)) (fun X28 => zq_ck (1 : Int32) 17 (zq_b (zq_u1 X28 83 (zq_ix (1 : Int32)) (114 : Int32)) (fun X29 => zq_ck (2 : Int32) 17 (zq_b (zq_u1 X29 83 (zq_ix (2 : Int32)) (105 : Int32)) (fun X30 => zq_ck (3 : Int32) 17 (zq_b (zq_u1 X30 83 (zq_ix (3 : Int32)) (99 : Int32)) (fun X31 => zq_ck (4 : Int32) 17 (zq_b (zq_u1 X31 83 (zq_ix (4 : Int32)) (101 : Int32)) (fun X32 => zq_ck (5 : Int32) 17 (zq_b (zq_u1 X32 83 (zq_ix (5 : Int32)) (98 : Int32)) (fun X33 => zq_ck (6 : Int32) 17 (zq_b (zq_u1 X33 83 (zq_ix (6 : Int32)) (97 : Int32)) (fun X34 => zq_ck (7 : Int32) 17 (zq_b (zq_u1 X34 83 (zq_ix (7 : Int32)) (114 : Int32)) (fun X35 => zq_ck (8 : Int32) 17 (zq_b (zq_u1 X35 83 (zq_ix (8 : Int32)) (119 : Int32)) (fun X36 => zq_ck (9 : Int32) 17 (zq_b (zq_u1 X36 83 (zq_ix (9 : Int32)) (111 : Int32)) (fun X37 => zq_ck (10 : Int32) 17 (zq_b (zq_u1 X37 83 (zq_ix (10 : Int32)) (114 : Int32)) (fun X38 => zq_ck (11 : Int32) 17 (zq_b (zq_u1 X38 83 (zq_ix (11 : Int32)) (116 : Int32)) (fun X39 => zq_ck (12 : Int32) 17 (zq_b (zq_u1 X39 83 (zq_ix (12 : Int32)) (104 : Int32)) (fun X40 => zq_ck (13 : Int32) 17 (zq_b (zq_u1 X40 83 (zq_ix (13 : Int32)) (115 : Int32)) (fun X41 => zq_ck (14 : Int32) 17 (zq_b (zq_u1 X41 83 (zq_ix (14 : Int32)) (97 : Int32)) (fun X42 => zq_ck (15 : Int32) 17 (zq_b (zq_u1 X42 83 (zq_ix (15 : Int32)) (109 : Int32)) (fun X43 => zq_ck (16 : Int32) 17 (zq_b (zq_u1 X43 83 (zq_ix (16 : Int32)) (101 : Int32)) (fun X44 => zq_b (zq_z X44 84) (fun X45 => zq_b (zq_z X45 85) (fun X46 => zq_b (zq_z X46 86) (fun X47 => zq_b (zq_z X47 87) (fun X48 => zq_b (zq_z X48 88) (fun X49 => zq_b (zq_z X49 89) (fun X50 => zq_b (zq_z X50 90) (fun X51 => zq_b (zq_z X51 91) (fun X52 => zq_b (zq_z X52 92) (fun X53 => zq_b (zq_u1 X53 69 36 (0 : Int32)) (fun X54 => zq_b (zq_z X54 93) (fun X55 => zq_b (zq_z X55 94) (fun X56 => zq_b (zq_z X56 95) (fun X57 => zq_b (zq_u2 X57 69 40 (0 : Int64)) (fun X58 => zq_b (zq_u2 X58 69 41 (1 : Int64)) (fun X59 => zq_b (zq_u1 X59 69 42 (0 : Int32)) (fun X60 => zq_b (zq_z X60 96) (fun X61 => zq_b (zq_z X61 97) (fun X62 => zq_gz (0 : Int32) (zq_b (zq_u1 X62 69 45 (0 : Int32)) (fun X63 => zq_b (zq_u1 X63 69 46 (-1 : Int32)) (fun X64 => zq_b (zq_u1 X64 69 47 (0 : Int32)) (fun X65 => zq_b (zq_u1 X65 69 48 (0 : Int32)) (fun X66 => zq_b (zq_u1 X66 69 49 (0 : Int32)) (fun X67 => zq_b (zq_u1 X67 69 50 (0 : Int32)) (fun X68 => zq_b (zq_u1 X68 69 51 (0 : Int32)) (fun X69 => zq_b (zq_u1 X69 69 52 (0 : Int32)) (fun X70 => zq_b (zq_z X70 98) (fun X71 => zq_b (zq_z X71 99) (fun X72 => zq_b (zq_z X72 100) (fun X73 => zq_b (zq_z X73 101) (fun X74 => zq_b (zq_z X74 102) (fun X75 => zq_b (zq_z X75 103) (fun X76 => zq_b (zq_z X76 104) (fun X77 => zq_b (zq_z X77 105) (fun X78 => zq_b (zq_u1 X78 69 61 (0 : Int32)) (fun X79 => zq_b (zq_z X79 106) (fun X80 => zq_b (zq_z X80 107) (fun X81 => zq_ck (0 : Int32) 6 (zq_b (zq_u1 X81 107 (zq_ix (0 : Int32)) (-1 : Int32)) (fun X82 => zq_ck (1 : Int32) 6 (zq_b (zq_u1 X82 107 (zq_ix (1 : Int32)) (-1 : Int32)) (fun X83 => zq_ck (2 : Int32) 6 (zq_b (zq_u1 X83 107 (zq_ix (2 : Int32)) (-1 : Int32)) (fun X84 => zq_ck (3 : Int32) 6 (zq_b (zq_u1 X84 107 (zq_ix (3 : Int32)) (-1 : Int32)) (fun X85 => zq_ck (4 : Int32) 6 (zq_b (zq_u1 X85 107 (zq_ix (4 : Int32)) (-1 : Int32)) (fun X86 => zq_ck (5 : Int32) 6 (zq_b (zq_u1 X86 107 (zq_ix (5 : Int32)) (-1 : Int32)) (fun X87 => zq_b (zq_z X87 108) (fun X88 => zq_b (zq_z X88 109) (fun X89 => zq_b (zq_z X89 110) (fun X90 => some X90))))))))))))))))))))))))))))))))))))))))))))))))))))))))))))))))))))))))))))))))))))))))))))))))))))))))))))))))))
set_option maxRecDepth 20000 in
set_option maxHeartbeats 8000000 in
theorem s_X11_init (G : zq_G) (X : zq_M) : zq_V G YX11_init (2, 41, 71612) (zq_ev zq_shM (zq_ad G 141)) 0 0 0 (lv_args 0 [.ref (zq_ad G 69)]) [] (zq_us (fun _ => none) 69 (.inl (11, [0, 0, 0, 0, 3, 3, 3, 3, 3, 0, 0, 0, 0, 0, 0, 3, 3, 3, 3, 3, 3, 3, 3, 0, 0, 0, 3, 3, 3, 3, 3, 3, 3, 3, 3, 3, 0, 3, 3, 3, 1, 1, 0, 3, 3, 0, 0, 0, 0, 0, 0, 0, 0, 3, 3, 3, 3, 3, 3, 3, 3, 0, 3, 3, 3, 3, 3]))) (zq_ad G 69 + 1) X (f_X11_init X) := by
  unfold f_X11_init
  refine zr_lo (l2 := [(0, .ref (zq_ad G 69))]) [0] rfl ?_
  refine zr_aload_n (pc := 0) (zq_d eX11_init 0 rfl) 0 rfl rfl ?_
  refine zr_oinit (pc := 1) (zq_d eX11_init 1 rfl) zl_RX11_1 zx_oi1 zx_oi2 (Nat.le_of_ble_eq_true rfl) (Nat.le_of_ble_eq_true rfl) ?_
  refine zr_aload_n (pc := 4) (zq_d eX11_init 2 rfl) 0 rfl rfl ?_
  refine zr_iconst (pc := 5) (zq_d eX11_init 3 rfl) zc_i0 ?_
  refine zr_putI (pc := 6) (zq_d eX11_init 4 rfl) zf_RX11_7 rfl zn_11_0 (fun X1 => ?_)
  refine zr_aload_n (pc := 9) (zq_d eX11_init 5 rfl) 0 rfl rfl ?_
  refine zr_iconst (pc := 10) (zq_d eX11_init 6 rfl) zc_i0 ?_
  refine zr_putI (pc := 11) (zq_d eX11_init 7 rfl) zf_RX11_13 rfl zn_11_1 (fun X2 => ?_)
  refine zr_aload_n (pc := 14) (zq_d eX11_init 8 rfl) 0 rfl rfl ?_
  refine zr_iconst (pc := 15) (zq_d eX11_init 9 rfl) zc_i0 ?_
  refine zr_putI (pc := 16) (zq_d eX11_init 10 rfl) zf_RX11_16 rfl zn_11_2 (fun X3 => ?_)
  refine zr_aload_n (pc := 19) (zq_d eX11_init 11 rfl) 0 rfl rfl ?_
  refine zr_iconst (pc := 20) (zq_d eX11_init 12 rfl) zc_i0 ?_
  refine zr_putI (pc := 21) (zq_d eX11_init 13 rfl) zf_RX11_19 rfl zn_11_3 (fun X4 => ?_)
  refine zr_aload_n (pc := 24) (zq_d eX11_init 14 rfl) 0 rfl rfl ?_
  refine zr_iconst (pc := 25) (zq_d eX11_init 15 rfl) zc_i5 ?_
  refine zr_newa (pc := 26) (c := 70) (kd := 0) (N1 := 5) (zq_d eX11_init 16 rfl) (zq_m1 117 rfl rfl) rfl (by decide) (by decide) (by decide) (by decide) (by simp only [zq_ev, zq_ad, zq_prm] <;> (repeat' split) <;> omega) (Nat.le_of_ble_eq_true rfl) (Nat.le_of_ble_eq_true rfl) (fun X5 => ?_)
  refine zr_putC (pc := 28) (ks := [0, 0, 0, 0, 3, 3, 3, 3, 3, 0, 0, 0, 0, 0, 0, 3, 3, 3, 3, 3, 3, 3, 3, 0, 0, 0, 3, 3, 3, 3, 3, 3, 3, 3, 3, 3, 0, 3, 3, 3, 1, 1, 0, 3, 3, 0, 0, 0, 0, 0, 0, 0, 0, 3, 3, 3, 3, 3, 3, 3, 3, 0, 3, 3, 3, 3, 3]) (j := 70) (zq_d eX11_init 17 rfl) zf_RX11_22 rfl rfl zn_11_4 rfl (fun q h => by cases h; rfl) rfl rfl ?_
  refine zr_aload_n (pc := 31) (zq_d eX11_init 18 rfl) 0 rfl rfl ?_
  refine zr_iconst (pc := 32) (zq_d eX11_init 19 rfl) zc_i5 ?_
  refine zr_newa (pc := 33) (c := 71) (kd := 0) (N1 := 5) (zq_d eX11_init 20 rfl) (zq_m1 117 rfl rfl) rfl (by decide) (by decide) (by decide) (by decide) (by simp only [zq_ev, zq_ad, zq_prm] <;> (repeat' split) <;> omega) (Nat.le_of_ble_eq_true rfl) (Nat.le_of_ble_eq_true rfl) (fun X6 => ?_)
  refine zr_putC (pc := 35) (ks := [0, 0, 0, 0, 74, 3, 3, 3, 3, 0, 0, 0, 0, 0, 0, 3, 3, 3, 3, 3, 3, 3, 3, 0, 0, 0, 3, 3, 3, 3, 3, 3, 3, 3, 3, 3, 0, 3, 3, 3, 1, 1, 0, 3, 3, 0, 0, 0, 0, 0, 0, 0, 0, 3, 3, 3, 3, 3, 3, 3, 3, 0, 3, 3, 3, 3, 3]) (j := 71) (zq_d eX11_init 21 rfl) zf_RX11_26 rfl rfl zn_11_5 rfl (fun q h => by cases h; rfl) rfl rfl ?_
  refine zr_aload_n (pc := 38) (zq_d eX11_init 22 rfl) 0 rfl rfl ?_
  refine zr_iconst (pc := 39) (zq_d eX11_init 23 rfl) zc_i5 ?_
  refine zr_newa (pc := 40) (c := 72) (kd := 0) (N1 := 5) (zq_d eX11_init 24 rfl) (zq_m1 117 rfl rfl) rfl (by decide) (by decide) (by decide) (by decide) (by simp only [zq_ev, zq_ad, zq_prm] <;> (repeat' split) <;> omega) (Nat.le_of_ble_eq_true rfl) (Nat.le_of_ble_eq_true rfl) (fun X7 => ?_)
  refine zr_putC (pc := 42) (ks := [0, 0, 0, 0, 74, 75, 3, 3, 3, 0, 0, 0, 0, 0, 0, 3, 3, 3, 3, 3, 3, 3, 3, 0, 0, 0, 3, 3, 3, 3, 3, 3, 3, 3, 3, 3, 0, 3, 3, 3, 1, 1, 0, 3, 3, 0, 0, 0, 0, 0, 0, 0, 0, 3, 3, 3, 3, 3, 3, 3, 3, 0, 3, 3, 3, 3, 3]) (j := 72) (zq_d eX11_init 25 rfl) zf_RX11_29 rfl rfl zn_11_6 rfl (fun q h => by cases h; rfl) rfl rfl ?_
  refine zr_aload_n (pc := 45) (zq_d eX11_init 26 rfl) 0 rfl rfl ?_
  refine zr_iconst (pc := 46) (zq_d eX11_init 27 rfl) zc_i3 ?_
  refine zr_newa (pc := 47) (c := 73) (kd := 0) (N1 := 3) (zq_d eX11_init 28 rfl) (zq_m1 117 rfl rfl) rfl (by decide) (by decide) (by decide) (by decide) (by simp only [zq_ev, zq_ad, zq_prm] <;> (repeat' split) <;> omega) (Nat.le_of_ble_eq_true rfl) (Nat.le_of_ble_eq_true rfl) (fun X8 => ?_)
  refine zr_putC (pc := 49) (ks := [0, 0, 0, 0, 74, 75, 76, 3, 3, 0, 0, 0, 0, 0, 0, 3, 3, 3, 3, 3, 3, 3, 3, 0, 0, 0, 3, 3, 3, 3, 3, 3, 3, 3, 3, 3, 0, 3, 3, 3, 1, 1, 0, 3, 3, 0, 0, 0, 0, 0, 0, 0, 0, 3, 3, 3, 3, 3, 3, 3, 3, 0, 3, 3, 3, 3, 3]) (j := 73) (zq_d eX11_init 29 rfl) zf_RX11_32 rfl rfl zn_11_7 rfl (fun q h => by cases h; rfl) rfl rfl ?_
  refine zr_aload_n (pc := 52) (zq_d eX11_init 30 rfl) 0 rfl rfl ?_
  refine zr_iconst (pc := 53) (zq_d eX11_init 31 rfl) zc_i3 ?_
  refine zr_newa (pc := 54) (c := 74) (kd := 0) (N1 := 3) (zq_d eX11_init 32 rfl) (zq_m1 117 rfl rfl) rfl (by decide) (by decide) (by decide) (by decide) (by simp only [zq_ev, zq_ad, zq_prm] <;> (repeat' split) <;> omega) (Nat.le_of_ble_eq_true rfl) (Nat.le_of_ble_eq_true rfl) (fun X9 => ?_)
  refine zr_putC (pc := 56) (ks := [0, 0, 0, 0, 74, 75, 76, 77, 3, 0, 0, 0, 0, 0, 0, 3, 3, 3, 3, 3, 3, 3, 3, 0, 0, 0, 3, 3, 3, 3, 3, 3, 3, 3, 3, 3, 0, 3, 3, 3, 1, 1, 0, 3, 3, 0, 0, 0, 0, 0, 0, 0, 0, 3, 3, 3, 3, 3, 3, 3, 3, 0, 3, 3, 3, 3, 3]) (j := 74) (zq_d eX11_init 33 rfl) zf_RX11_35 rfl rfl zn_11_8 rfl (fun q h => by cases h; rfl) rfl rfl ?_
  refine zr_aload_n (pc := 59) (zq_d eX11_init 34 rfl) 0 rfl rfl ?_
  refine zr_iconst (pc := 60) (zq_d eX11_init 35 rfl) zc_i0 ?_
  refine zr_putI (pc := 61) (zq_d eX11_init 36 rfl) zf_RX11_38 rfl zn_11_9 (fun X10 => ?_)
  refine zr_aload_n (pc := 64) (zq_d eX11_init 37 rfl) 0 rfl rfl ?_
  refine zr_iconst (pc := 65) (zq_d eX11_init 38 rfl) zc_i0 ?_
  refine zr_putI (pc := 66) (zq_d eX11_init 39 rfl) zf_RX11_41 rfl zn_11_10 (fun X11 => ?_)
  refine zr_aload_n (pc := 69) (zq_d eX11_init 40 rfl) 0 rfl rfl ?_
  refine zr_iconst (pc := 70) (zq_d eX11_init 41 rfl) zc_im1 ?_
  refine zr_putI (pc := 71) (zq_d eX11_init 42 rfl) zf_RX11_44 rfl zn_11_11 (fun X12 => ?_)
  refine zr_aload_n (pc := 74) (zq_d eX11_init 43 rfl) 0 rfl rfl ?_
  refine zr_iconst (pc := 75) (zq_d eX11_init 44 rfl) zc_i0 ?_
  refine zr_putI (pc := 76) (zq_d eX11_init 45 rfl) zf_RX11_47 rfl zn_11_12 (fun X13 => ?_)
  refine zr_aload_n (pc := 79) (zq_d eX11_init 46 rfl) 0 rfl rfl ?_
  refine zr_iconst (pc := 80) (zq_d eX11_init 47 rfl) zc_i0 ?_
  refine zr_putI (pc := 81) (zq_d eX11_init 48 rfl) zf_RX11_50 rfl zn_11_13 (fun X14 => ?_)
  refine zr_aload_n (pc := 84) (zq_d eX11_init 49 rfl) 0 rfl rfl ?_
  refine zr_iconst (pc := 85) (zq_d eX11_init 50 rfl) zc_i0 ?_
  refine zr_putI (pc := 86) (zq_d eX11_init 51 rfl) zf_RX11_53 rfl zn_11_14 (fun X15 => ?_)
  refine zr_aload_n (pc := 89) (zq_d eX11_init 52 rfl) 0 rfl rfl ?_
  refine zr_bipush (pc := 90) (zq_d eX11_init 53 rfl) zc_b100 ?_
  refine zr_newa (pc := 92) (c := 75) (kd := 0) (N1 := 100) (zq_d eX11_init 54 rfl) (zq_m1 117 rfl rfl) rfl (by decide) (by decide) (by decide) (by decide) (by simp only [zq_ev, zq_ad, zq_prm] <;> (repeat' split) <;> omega) (Nat.le_of_ble_eq_true rfl) (Nat.le_of_ble_eq_true rfl) (fun X16 => ?_)
  refine zr_putC (pc := 94) (ks := [0, 0, 0, 0, 74, 75, 76, 77, 78, 0, 0, 0, 0, 0, 0, 3, 3, 3, 3, 3, 3, 3, 3, 0, 0, 0, 3, 3, 3, 3, 3, 3, 3, 3, 3, 3, 0, 3, 3, 3, 1, 1, 0, 3, 3, 0, 0, 0, 0, 0, 0, 0, 0, 3, 3, 3, 3, 3, 3, 3, 3, 0, 3, 3, 3, 3, 3]) (j := 75) (zq_d eX11_init 55 rfl) zf_RX11_56 rfl rfl zn_11_15 rfl (fun q h => by cases h; rfl) rfl rfl ?_
  refine zr_aload_n (pc := 97) (zq_d eX11_init 56 rfl) 0 rfl rfl ?_
  refine zr_bipush (pc := 98) (zq_d eX11_init 57 rfl) zc_b6 ?_
  refine zr_newa (pc := 100) (c := 76) (kd := 0) (N1 := 6) (zq_d eX11_init 58 rfl) (zq_m1 117 rfl rfl) rfl (by decide) (by decide) (by decide) (by decide) (by simp only [zq_ev, zq_ad, zq_prm] <;> (repeat' split) <;> omega) (Nat.le_of_ble_eq_true rfl) (Nat.le_of_ble_eq_true rfl) (fun X17 => ?_)
  refine zr_putC (pc := 102) (ks := [0, 0, 0, 0, 74, 75, 76, 77, 78, 0, 0, 0, 0, 0, 0, 79, 3, 3, 3, 3, 3, 3, 3, 0, 0, 0, 3, 3, 3, 3, 3, 3, 3, 3, 3, 3, 0, 3, 3, 3, 1, 1, 0, 3, 3, 0, 0, 0, 0, 0, 0, 0, 0, 3, 3, 3, 3, 3, 3, 3, 3, 0, 3, 3, 3, 3, 3]) (j := 76) (zq_d eX11_init 59 rfl) zf_RX11_59 rfl rfl zn_11_16 rfl (fun q h => by cases h; rfl) rfl rfl ?_
  refine zr_aload_n (pc := 105) (zq_d eX11_init 60 rfl) 0 rfl rfl ?_
  refine zr_bipush (pc := 106) (zq_d eX11_init 61 rfl) zc_b60 ?_
  refine zr_newa (pc := 108) (c := 77) (kd := 0) (N1 := 60) (zq_d eX11_init 62 rfl) (zq_m1 117 rfl rfl) rfl (by decide) (by decide) (by decide) (by decide) (by simp only [zq_ev, zq_ad, zq_prm] <;> (repeat' split) <;> omega) (Nat.le_of_ble_eq_true rfl) (Nat.le_of_ble_eq_true rfl) (fun X18 => ?_)
  refine zr_putC (pc := 110) (ks := [0, 0, 0, 0, 74, 75, 76, 77, 78, 0, 0, 0, 0, 0, 0, 79, 80, 3, 3, 3, 3, 3, 3, 0, 0, 0, 3, 3, 3, 3, 3, 3, 3, 3, 3, 3, 0, 3, 3, 3, 1, 1, 0, 3, 3, 0, 0, 0, 0, 0, 0, 0, 0, 3, 3, 3, 3, 3, 3, 3, 3, 0, 3, 3, 3, 3, 3]) (j := 77) (zq_d eX11_init 63 rfl) zf_RX11_62 rfl rfl zn_11_17 rfl (fun q h => by cases h; rfl) rfl rfl ?_
  refine zr_aload_n (pc := 113) (zq_d eX11_init 64 rfl) 0 rfl rfl ?_
  refine zr_bipush (pc := 114) (zq_d eX11_init 65 rfl) zc_b60 ?_
  refine zr_newa (pc := 116) (c := 78) (kd := 0) (N1 := 60) (zq_d eX11_init 66 rfl) (zq_m1 117 rfl rfl) rfl (by decide) (by decide) (by decide) (by decide) (by simp only [zq_ev, zq_ad, zq_prm] <;> (repeat' split) <;> omega) (Nat.le_of_ble_eq_true rfl) (Nat.le_of_ble_eq_true rfl) (fun X19 => ?_)
  refine zr_putC (pc := 118) (ks := [0, 0, 0, 0, 74, 75, 76, 77, 78, 0, 0, 0, 0, 0, 0, 79, 80, 81, 3, 3, 3, 3, 3, 0, 0, 0, 3, 3, 3, 3, 3, 3, 3, 3, 3, 3, 0, 3, 3, 3, 1, 1, 0, 3, 3, 0, 0, 0, 0, 0, 0, 0, 0, 3, 3, 3, 3, 3, 3, 3, 3, 0, 3, 3, 3, 3, 3]) (j := 78) (zq_d eX11_init 67 rfl) zf_RX11_65 rfl rfl zn_11_18 rfl (fun q h => by cases h; rfl) rfl rfl ?_
  refine zr_aload_n (pc := 121) (zq_d eX11_init 68 rfl) 0 rfl rfl ?_
  refine zr_bipush (pc := 122) (zq_d eX11_init 69 rfl) zc_b60 ?_
  refine zr_newa (pc := 124) (c := 79) (kd := 0) (N1 := 60) (zq_d eX11_init 70 rfl) (zq_m1 117 rfl rfl) rfl (by decide) (by decide) (by decide) (by decide) (by simp only [zq_ev, zq_ad, zq_prm] <;> (repeat' split) <;> omega) (Nat.le_of_ble_eq_true rfl) (Nat.le_of_ble_eq_true rfl) (fun X20 => ?_)
  refine zr_putC (pc := 126) (ks := [0, 0, 0, 0, 74, 75, 76, 77, 78, 0, 0, 0, 0, 0, 0, 79, 80, 81, 82, 3, 3, 3, 3, 0, 0, 0, 3, 3, 3, 3, 3, 3, 3, 3, 3, 3, 0, 3, 3, 3, 1, 1, 0, 3, 3, 0, 0, 0, 0, 0, 0, 0, 0, 3, 3, 3, 3, 3, 3, 3, 3, 0, 3, 3, 3, 3, 3]) (j := 79) (zq_d eX11_init 71 rfl) zf_RX11_68 rfl rfl zn_11_19 rfl (fun q h => by cases h; rfl) rfl rfl ?_
  refine zr_aload_n (pc := 129) (zq_d eX11_init 72 rfl) 0 rfl rfl ?_
  refine zr_bipush (pc := 130) (zq_d eX11_init 73 rfl) zc_b60 ?_
  refine zr_newa (pc := 132) (c := 80) (kd := 0) (N1 := 60) (zq_d eX11_init 74 rfl) (zq_m1 117 rfl rfl) rfl (by decide) (by decide) (by decide) (by decide) (by simp only [zq_ev, zq_ad, zq_prm] <;> (repeat' split) <;> omega) (Nat.le_of_ble_eq_true rfl) (Nat.le_of_ble_eq_true rfl) (fun X21 => ?_)
  refine zr_putC (pc := 134) (ks := [0, 0, 0, 0, 74, 75, 76, 77, 78, 0, 0, 0, 0, 0, 0, 79, 80, 81, 82, 83, 3, 3, 3, 0, 0, 0, 3, 3, 3, 3, 3, 3, 3, 3, 3, 3, 0, 3, 3, 3, 1, 1, 0, 3, 3, 0, 0, 0, 0, 0, 0, 0, 0, 3, 3, 3, 3, 3, 3, 3, 3, 0, 3, 3, 3, 3, 3]) (j := 80) (zq_d eX11_init 75 rfl) zf_RX11_71 rfl rfl zn_11_20 rfl (fun q h => by cases h; rfl) rfl rfl ?_
  refine zr_aload_n (pc := 137) (zq_d eX11_init 76 rfl) 0 rfl rfl ?_
  refine zr_sipush (pc := 138) (zq_d eX11_init 77 rfl) zc_s600 ?_
  refine zr_newa (pc := 141) (c := 81) (kd := 0) (N1 := 600) (zq_d eX11_init 78 rfl) (zq_m1 117 rfl rfl) rfl (by decide) (by decide) (by decide) (by decide) (by simp only [zq_ev, zq_ad, zq_prm] <;> (repeat' split) <;> omega) (Nat.le_of_ble_eq_true rfl) (Nat.le_of_ble_eq_true rfl) (fun X22 => ?_)
  refine zr_putC (pc := 143) (ks := [0, 0, 0, 0, 74, 75, 76, 77, 78, 0, 0, 0, 0, 0, 0, 79, 80, 81, 82, 83, 84, 3, 3, 0, 0, 0, 3, 3, 3, 3, 3, 3, 3, 3, 3, 3, 0, 3, 3, 3, 1, 1, 0, 3, 3, 0, 0, 0, 0, 0, 0, 0, 0, 3, 3, 3, 3, 3, 3, 3, 3, 0, 3, 3, 3, 3, 3]) (j := 81) (zq_d eX11_init 79 rfl) zf_RX11_74 rfl rfl zn_11_21 rfl (fun q h => by cases h; rfl) rfl rfl ?_
  refine zr_aload_n (pc := 146) (zq_d eX11_init 80 rfl) 0 rfl rfl ?_
  refine zr_bipush (pc := 147) (zq_d eX11_init 81 rfl) zc_b101 ?_
  refine zr_newa (pc := 149) (c := 82) (kd := 0) (N1 := 101) (zq_d eX11_init 82 rfl) (zq_m1 117 rfl rfl) rfl (by decide) (by decide) (by decide) (by decide) (by simp only [zq_ev, zq_ad, zq_prm] <;> (repeat' split) <;> omega) (Nat.le_of_ble_eq_true rfl) (Nat.le_of_ble_eq_true rfl) (fun X23 => ?_)
  refine zr_putC (pc := 151) (ks := [0, 0, 0, 0, 74, 75, 76, 77, 78, 0, 0, 0, 0, 0, 0, 79, 80, 81, 82, 83, 84, 85, 3, 0, 0, 0, 3, 3, 3, 3, 3, 3, 3, 3, 3, 3, 0, 3, 3, 3, 1, 1, 0, 3, 3, 0, 0, 0, 0, 0, 0, 0, 0, 3, 3, 3, 3, 3, 3, 3, 3, 0, 3, 3, 3, 3, 3]) (j := 82) (zq_d eX11_init 83 rfl) zf_RX11_77 rfl rfl zn_11_22 rfl (fun q h => by cases h; rfl) rfl rfl ?_
  refine zr_aload_n (pc := 154) (zq_d eX11_init 84 rfl) 0 rfl rfl ?_
  refine zr_iconst (pc := 155) (zq_d eX11_init 85 rfl) zc_i0 ?_
  refine zr_putI (pc := 156) (zq_d eX11_init 86 rfl) zf_RX11_80 rfl zn_11_23 (fun X24 => ?_)
  refine zr_aload_n (pc := 159) (zq_d eX11_init 87 rfl) 0 rfl rfl ?_
  refine zr_iconst (pc := 160) (zq_d eX11_init 88 rfl) zc_i0 ?_
  refine zr_putI (pc := 161) (zq_d eX11_init 89 rfl) zf_RX11_83 rfl zn_11_24 (fun X25 => ?_)
  refine zr_aload_n (pc := 164) (zq_d eX11_init 90 rfl) 0 rfl rfl ?_
  refine zr_iconst (pc := 165) (zq_d eX11_init 91 rfl) zc_i0 ?_
  refine zr_putI (pc := 166) (zq_d eX11_init 92 rfl) zf_RX11_86 rfl zn_11_25 (fun X26 => ?_)
  refine zr_aload_n (pc := 169) (zq_d eX11_init 93 rfl) 0 rfl rfl ?_
  refine zr_bipush (pc := 170) (zq_d eX11_init 94 rfl) zc_b17 ?_
  refine zr_newa (pc := 172) (c := 83) (kd := 0) (N1 := 17) (zq_d eX11_init 95 rfl) (zq_m1 117 rfl rfl) rfl (by decide) (by decide) (by decide) (by decide) (by simp only [zq_ev, zq_ad, zq_prm] <;> (repeat' split) <;> omega) (Nat.le_of_ble_eq_true rfl) (Nat.le_of_ble_eq_true rfl) (fun X27 => ?_)
  refine zr_dup (pc := 174) (zq_d eX11_init 96 rfl) rfl ?_
  refine zr_iconst (pc := 175) (zq_d eX11_init 97 rfl) zc_i0 ?_
  refine zr_bipush (pc := 176) (zq_d eX11_init 98 rfl) zc_b112 ?_
  refine zr_iast (pc := 178) (zq_d eX11_init 99 rfl) rfl (fun X28 => ?_)
  refine zr_dup (pc := 179) (zq_d eX11_init 100 rfl) rfl ?_
  refine zr_iconst (pc := 180) (zq_d eX11_init 101 rfl) zc_i1 ?_
  refine zr_bipush (pc := 181) (zq_d eX11_init 102 rfl) zc_b114 ?_
  refine zr_iast (pc := 183) (zq_d eX11_init 103 rfl) rfl (fun X29 => ?_)
  refine zr_dup (pc := 184) (zq_d eX11_init 104 rfl) rfl ?_
  refine zr_iconst (pc := 185) (zq_d eX11_init 105 rfl) zc_i2 ?_
  refine zr_bipush (pc := 186) (zq_d eX11_init 106 rfl) zc_b105 ?_
  refine zr_iast (pc := 188) (zq_d eX11_init 107 rfl) rfl (fun X30 => ?_)
  refine zr_dup (pc := 189) (zq_d eX11_init 108 rfl) rfl ?_
  refine zr_iconst (pc := 190) (zq_d eX11_init 109 rfl) zc_i3 ?_
  refine zr_bipush (pc := 191) (zq_d eX11_init 110 rfl) zc_b99 ?_
  refine zr_iast (pc := 193) (zq_d eX11_init 111 rfl) rfl (fun X31 => ?_)
  refine zr_dup (pc := 194) (zq_d eX11_init 112 rfl) rfl ?_
  refine zr_iconst (pc := 195) (zq_d eX11_init 113 rfl) zc_i4 ?_
  refine zr_bipush (pc := 196) (zq_d eX11_init 114 rfl) zc_b101 ?_
  refine zr_iast (pc := 198) (zq_d eX11_init 115 rfl) rfl (fun X32 => ?_)
  refine zr_dup (pc := 199) (zq_d eX11_init 116 rfl) rfl ?_
  refine zr_iconst (pc := 200) (zq_d eX11_init 117 rfl) zc_i5 ?_
  refine zr_bipush (pc := 201) (zq_d eX11_init 118 rfl) zc_b98 ?_
  refine zr_iast (pc := 203) (zq_d eX11_init 119 rfl) rfl (fun X33 => ?_)
  refine zr_dup (pc := 204) (zq_d eX11_init 120 rfl) rfl ?_
  refine zr_bipush (pc := 205) (zq_d eX11_init 121 rfl) zc_b6 ?_
  refine zr_bipush (pc := 207) (zq_d eX11_init 122 rfl) zc_b97 ?_
  refine zr_iast (pc := 209) (zq_d eX11_init 123 rfl) rfl (fun X34 => ?_)
  refine zr_dup (pc := 210) (zq_d eX11_init 124 rfl) rfl ?_
  refine zr_bipush (pc := 211) (zq_d eX11_init 125 rfl) zc_b7 ?_
  refine zr_bipush (pc := 213) (zq_d eX11_init 126 rfl) zc_b114 ?_
  refine zr_iast (pc := 215) (zq_d eX11_init 127 rfl) rfl (fun X35 => ?_)
  refine zr_dup (pc := 216) (zq_d eX11_init 128 rfl) rfl ?_
  refine zr_bipush (pc := 217) (zq_d eX11_init 129 rfl) zc_b8 ?_
  refine zr_bipush (pc := 219) (zq_d eX11_init 130 rfl) zc_b119 ?_
  refine zr_iast (pc := 221) (zq_d eX11_init 131 rfl) rfl (fun X36 => ?_)
  refine zr_dup (pc := 222) (zq_d eX11_init 132 rfl) rfl ?_
  refine zr_bipush (pc := 223) (zq_d eX11_init 133 rfl) zc_b9 ?_
  refine zr_bipush (pc := 225) (zq_d eX11_init 134 rfl) zc_b111 ?_
  refine zr_iast (pc := 227) (zq_d eX11_init 135 rfl) rfl (fun X37 => ?_)
  refine zr_dup (pc := 228) (zq_d eX11_init 136 rfl) rfl ?_
  refine zr_bipush (pc := 229) (zq_d eX11_init 137 rfl) zc_b10 ?_
  refine zr_bipush (pc := 231) (zq_d eX11_init 138 rfl) zc_b114 ?_
  refine zr_iast (pc := 233) (zq_d eX11_init 139 rfl) rfl (fun X38 => ?_)
  refine zr_dup (pc := 234) (zq_d eX11_init 140 rfl) rfl ?_
  refine zr_bipush (pc := 235) (zq_d eX11_init 141 rfl) zc_b11 ?_
  refine zr_bipush (pc := 237) (zq_d eX11_init 142 rfl) zc_b116 ?_
  refine zr_iast (pc := 239) (zq_d eX11_init 143 rfl) rfl (fun X39 => ?_)
  refine zr_dup (pc := 240) (zq_d eX11_init 144 rfl) rfl ?_
  refine zr_bipush (pc := 241) (zq_d eX11_init 145 rfl) zc_b12 ?_
  refine zr_bipush (pc := 243) (zq_d eX11_init 146 rfl) zc_b104 ?_
  refine zr_iast (pc := 245) (zq_d eX11_init 147 rfl) rfl (fun X40 => ?_)
  refine zr_dup (pc := 246) (zq_d eX11_init 148 rfl) rfl ?_
  refine zr_bipush (pc := 247) (zq_d eX11_init 149 rfl) zc_b13 ?_
  refine zr_bipush (pc := 249) (zq_d eX11_init 150 rfl) zc_b115 ?_
  refine zr_iast (pc := 251) (zq_d eX11_init 151 rfl) rfl (fun X41 => ?_)
  refine zr_dup (pc := 252) (zq_d eX11_init 152 rfl) rfl ?_
  refine zr_bipush (pc := 253) (zq_d eX11_init 153 rfl) zc_b14 ?_
  refine zr_bipush (pc := 255) (zq_d eX11_init 154 rfl) zc_b97 ?_
  refine zr_iast (pc := 257) (zq_d eX11_init 155 rfl) rfl (fun X42 => ?_)
  refine zr_dup (pc := 258) (zq_d eX11_init 156 rfl) rfl ?_
  refine zr_bipush (pc := 259) (zq_d eX11_init 157 rfl) zc_b15 ?_
  refine zr_bipush (pc := 261) (zq_d eX11_init 158 rfl) zc_b109 ?_
  refine zr_iast (pc := 263) (zq_d eX11_init 159 rfl) rfl (fun X43 => ?_)
  refine zr_dup (pc := 264) (zq_d eX11_init 160 rfl) rfl ?_
  refine zr_bipush (pc := 265) (zq_d eX11_init 161 rfl) zc_b16 ?_
  refine zr_bipush (pc := 267) (zq_d eX11_init 162 rfl) zc_b101 ?_
  refine zr_iast (pc := 269) (zq_d eX11_init 163 rfl) rfl (fun X44 => ?_)
  refine zr_putC (pc := 270) (ks := [0, 0, 0, 0, 74, 75, 76, 77, 78, 0, 0, 0, 0, 0, 0, 79, 80, 81, 82, 83, 84, 85, 86, 0, 0, 0, 3, 3, 3, 3, 3, 3, 3, 3, 3, 3, 0, 3, 3, 3, 1, 1, 0, 3, 3, 0, 0, 0, 0, 0, 0, 0, 0, 3, 3, 3, 3, 3, 3, 3, 3, 0, 3, 3, 3, 3, 3]) (j := 83) (zq_d eX11_init 164 rfl) zf_RX11_89 rfl rfl zn_11_26 rfl (fun q h => by cases h; rfl) rfl rfl ?_
  refine zr_aload_n (pc := 273) (zq_d eX11_init 165 rfl) 0 rfl rfl ?_
  refine zr_bipush (pc := 274) (zq_d eX11_init 166 rfl) zc_b100 ?_
  refine zr_newa (pc := 276) (c := 84) (kd := 1) (N1 := 100) (zq_d eX11_init 167 rfl) (zq_m1 201 rfl rfl) rfl (by decide) (by decide) (by decide) (by decide) (by simp only [zq_ev, zq_ad, zq_prm] <;> (repeat' split) <;> omega) (Nat.le_of_ble_eq_true rfl) (Nat.le_of_ble_eq_true rfl) (fun X45 => ?_)
  refine zr_putC (pc := 278) (ks := [0, 0, 0, 0, 74, 75, 76, 77, 78, 0, 0, 0, 0, 0, 0, 79, 80, 81, 82, 83, 84, 85, 86, 0, 0, 0, 87, 3, 3, 3, 3, 3, 3, 3, 3, 3, 0, 3, 3, 3, 1, 1, 0, 3, 3, 0, 0, 0, 0, 0, 0, 0, 0, 3, 3, 3, 3, 3, 3, 3, 3, 0, 3, 3, 3, 3, 3]) (j := 84) (zq_d eX11_init 168 rfl) zf_RX11_92 rfl rfl zn_11_27 rfl (fun q h => by cases h; rfl) rfl rfl ?_
  refine zr_aload_n (pc := 281) (zq_d eX11_init 169 rfl) 0 rfl rfl ?_
  refine zr_bipush (pc := 282) (zq_d eX11_init 170 rfl) zc_b120 ?_
  refine zr_newa (pc := 284) (c := 85) (kd := 0) (N1 := 120) (zq_d eX11_init 171 rfl) (zq_m1 117 rfl rfl) rfl (by decide) (by decide) (by decide) (by decide) (by simp only [zq_ev, zq_ad, zq_prm] <;> (repeat' split) <;> omega) (Nat.le_of_ble_eq_true rfl) (Nat.le_of_ble_eq_true rfl) (fun X46 => ?_)
  refine zr_putC (pc := 286) (ks := [0, 0, 0, 0, 74, 75, 76, 77, 78, 0, 0, 0, 0, 0, 0, 79, 80, 81, 82, 83, 84, 85, 86, 0, 0, 0, 87, 88, 3, 3, 3, 3, 3, 3, 3, 3, 0, 3, 3, 3, 1, 1, 0, 3, 3, 0, 0, 0, 0, 0, 0, 0, 0, 3, 3, 3, 3, 3, 3, 3, 3, 0, 3, 3, 3, 3, 3]) (j := 85) (zq_d eX11_init 172 rfl) zf_RX11_96 rfl rfl zn_11_28 rfl (fun q h => by cases h; rfl) rfl rfl ?_
  refine zr_aload_n (pc := 289) (zq_d eX11_init 173 rfl) 0 rfl rfl ?_
  refine zr_bipush (pc := 290) (zq_d eX11_init 174 rfl) zc_b120 ?_
  refine zr_newa (pc := 292) (c := 86) (kd := 1) (N1 := 120) (zq_d eX11_init 175 rfl) (zq_m1 201 rfl rfl) rfl (by decide) (by decide) (by decide) (by decide) (by simp only [zq_ev, zq_ad, zq_prm] <;> (repeat' split) <;> omega) (Nat.le_of_ble_eq_true rfl) (Nat.le_of_ble_eq_true rfl) (fun X47 => ?_)
  refine zr_putC (pc := 294) (ks := [0, 0, 0, 0, 74, 75, 76, 77, 78, 0, 0, 0, 0, 0, 0, 79, 80, 81, 82, 83, 84, 85, 86, 0, 0, 0, 87, 88, 89, 3, 3, 3, 3, 3, 3, 3, 0, 3, 3, 3, 1, 1, 0, 3, 3, 0, 0, 0, 0, 0, 0, 0, 0, 3, 3, 3, 3, 3, 3, 3, 3, 0, 3, 3, 3, 3, 3]) (j := 86) (zq_d eX11_init 176 rfl) zf_RX11_99 rfl rfl zn_11_29 rfl (fun q h => by cases h; rfl) rfl rfl ?_
  refine zr_aload_n (pc := 297) (zq_d eX11_init 177 rfl) 0 rfl rfl ?_
  refine zr_sipush (pc := 298) (zq_d eX11_init 178 rfl) zc_s1024 ?_
  refine zr_newa (pc := 301) (c := 87) (kd := 1) (N1 := 1024) (zq_d eX11_init 179 rfl) (zq_m1 201 rfl rfl) rfl (by decide) (by decide) (by decide) (by decide) (by simp only [zq_ev, zq_ad, zq_prm] <;> (repeat' split) <;> omega) (Nat.le_of_ble_eq_true rfl) (Nat.le_of_ble_eq_true rfl) (fun X48 => ?_)
  refine zr_putC (pc := 303) (ks := [0, 0, 0, 0, 74, 75, 76, 77, 78, 0, 0, 0, 0, 0, 0, 79, 80, 81, 82, 83, 84, 85, 86, 0, 0, 0, 87, 88, 89, 90, 3, 3, 3, 3, 3, 3, 0, 3, 3, 3, 1, 1, 0, 3, 3, 0, 0, 0, 0, 0, 0, 0, 0, 3, 3, 3, 3, 3, 3, 3, 3, 0, 3, 3, 3, 3, 3]) (j := 87) (zq_d eX11_init 180 rfl) zf_RX11_102 rfl rfl zn_11_30 rfl (fun q h => by cases h; rfl) rfl rfl ?_
  refine zr_aload_n (pc := 306) (zq_d eX11_init 181 rfl) 0 rfl rfl ?_
  refine zr_sipush (pc := 307) (zq_d eX11_init 182 rfl) zc_s1024 ?_
  refine zr_newa (pc := 310) (c := 88) (kd := 1) (N1 := 1024) (zq_d eX11_init 183 rfl) (zq_m1 201 rfl rfl) rfl (by decide) (by decide) (by decide) (by decide) (by simp only [zq_ev, zq_ad, zq_prm] <;> (repeat' split) <;> omega) (Nat.le_of_ble_eq_true rfl) (Nat.le_of_ble_eq_true rfl) (fun X49 => ?_)
  refine zr_putC (pc := 312) (ks := [0, 0, 0, 0, 74, 75, 76, 77, 78, 0, 0, 0, 0, 0, 0, 79, 80, 81, 82, 83, 84, 85, 86, 0, 0, 0, 87, 88, 89, 90, 91, 3, 3, 3, 3, 3, 0, 3, 3, 3, 1, 1, 0, 3, 3, 0, 0, 0, 0, 0, 0, 0, 0, 3, 3, 3, 3, 3, 3, 3, 3, 0, 3, 3, 3, 3, 3]) (j := 88) (zq_d eX11_init 184 rfl) zf_RX11_105 rfl rfl zn_11_31 rfl (fun q h => by cases h; rfl) rfl rfl ?_
  refine zr_aload_n (pc := 315) (zq_d eX11_init 185 rfl) 0 rfl rfl ?_
  refine zr_sipush (pc := 316) (zq_d eX11_init 186 rfl) zc_s1024 ?_
  refine zr_newa (pc := 319) (c := 89) (kd := 0) (N1 := 1024) (zq_d eX11_init 187 rfl) (zq_m1 117 rfl rfl) rfl (by decide) (by decide) (by decide) (by decide) (by simp only [zq_ev, zq_ad, zq_prm] <;> (repeat' split) <;> omega) (Nat.le_of_ble_eq_true rfl) (Nat.le_of_ble_eq_true rfl) (fun X50 => ?_)
  refine zr_putC (pc := 321) (ks := [0, 0, 0, 0, 74, 75, 76, 77, 78, 0, 0, 0, 0, 0, 0, 79, 80, 81, 82, 83, 84, 85, 86, 0, 0, 0, 87, 88, 89, 90, 91, 92, 3, 3, 3, 3, 0, 3, 3, 3, 1, 1, 0, 3, 3, 0, 0, 0, 0, 0, 0, 0, 0, 3, 3, 3, 3, 3, 3, 3, 3, 0, 3, 3, 3, 3, 3]) (j := 89) (zq_d eX11_init 188 rfl) zf_RX11_108 rfl rfl zn_11_32 rfl (fun q h => by cases h; rfl) rfl rfl ?_
  refine zr_aload_n (pc := 324) (zq_d eX11_init 189 rfl) 0 rfl rfl ?_
  refine zr_sipush (pc := 325) (zq_d eX11_init 190 rfl) zc_s1024 ?_
  refine zr_newa (pc := 328) (c := 90) (kd := 0) (N1 := 1024) (zq_d eX11_init 191 rfl) (zq_m1 117 rfl rfl) rfl (by decide) (by decide) (by decide) (by decide) (by simp only [zq_ev, zq_ad, zq_prm] <;> (repeat' split) <;> omega) (Nat.le_of_ble_eq_true rfl) (Nat.le_of_ble_eq_true rfl) (fun X51 => ?_)
  refine zr_putC (pc := 330) (ks := [0, 0, 0, 0, 74, 75, 76, 77, 78, 0, 0, 0, 0, 0, 0, 79, 80, 81, 82, 83, 84, 85, 86, 0, 0, 0, 87, 88, 89, 90, 91, 92, 93, 3, 3, 3, 0, 3, 3, 3, 1, 1, 0, 3, 3, 0, 0, 0, 0, 0, 0, 0, 0, 3, 3, 3, 3, 3, 3, 3, 3, 0, 3, 3, 3, 3, 3]) (j := 90) (zq_d eX11_init 192 rfl) zf_RX11_111 rfl rfl zn_11_33 rfl (fun q h => by cases h; rfl) rfl rfl ?_
  refine zr_aload_n (pc := 333) (zq_d eX11_init 193 rfl) 0 rfl rfl ?_
  refine zr_ldc (pc := 334) (zq_d eX11_init 194 rfl) zk_RX11_114 ?_
  refine zr_newa (pc := 336) (c := 91) (kd := 1) (N1 := 32768) (zq_d eX11_init 195 rfl) (zq_m1 201 rfl rfl) rfl (by decide) (by decide) (by decide) (by decide) (by simp only [zq_ev, zq_ad, zq_prm] <;> (repeat' split) <;> omega) (Nat.le_of_ble_eq_true rfl) (Nat.le_of_ble_eq_true rfl) (fun X52 => ?_)
  refine zr_putC (pc := 338) (ks := [0, 0, 0, 0, 74, 75, 76, 77, 78, 0, 0, 0, 0, 0, 0, 79, 80, 81, 82, 83, 84, 85, 86, 0, 0, 0, 87, 88, 89, 90, 91, 92, 93, 94, 3, 3, 0, 3, 3, 3, 1, 1, 0, 3, 3, 0, 0, 0, 0, 0, 0, 0, 0, 3, 3, 3, 3, 3, 3, 3, 3, 0, 3, 3, 3, 3, 3]) (j := 91) (zq_d eX11_init 196 rfl) zf_RX11_115 rfl rfl zn_11_34 rfl (fun q h => by cases h; rfl) rfl rfl ?_
  refine zr_aload_n (pc := 341) (zq_d eX11_init 197 rfl) 0 rfl rfl ?_
  refine zr_ldc (pc := 342) (zq_d eX11_init 198 rfl) zk_RX11_114 ?_
  refine zr_newa (pc := 344) (c := 92) (kd := 1) (N1 := 32768) (zq_d eX11_init 199 rfl) (zq_m1 201 rfl rfl) rfl (by decide) (by decide) (by decide) (by decide) (by simp only [zq_ev, zq_ad, zq_prm] <;> (repeat' split) <;> omega) (Nat.le_of_ble_eq_true rfl) (Nat.le_of_ble_eq_true rfl) (fun X53 => ?_)
  refine zr_putC (pc := 346) (ks := [0, 0, 0, 0, 74, 75, 76, 77, 78, 0, 0, 0, 0, 0, 0, 79, 80, 81, 82, 83, 84, 85, 86, 0, 0, 0, 87, 88, 89, 90, 91, 92, 93, 94, 95, 3, 0, 3, 3, 3, 1, 1, 0, 3, 3, 0, 0, 0, 0, 0, 0, 0, 0, 3, 3, 3, 3, 3, 3, 3, 3, 0, 3, 3, 3, 3, 3]) (j := 92) (zq_d eX11_init 200 rfl) zf_RX11_118 rfl rfl zn_11_35 rfl (fun q h => by cases h; rfl) rfl rfl ?_
  refine zr_aload_n (pc := 349) (zq_d eX11_init 201 rfl) 0 rfl rfl ?_
  refine zr_iconst (pc := 350) (zq_d eX11_init 202 rfl) zc_i0 ?_
  refine zr_putI (pc := 351) (zq_d eX11_init 203 rfl) zf_RX11_121 rfl zn_11_36 (fun X54 => ?_)
  refine zr_aload_n (pc := 354) (zq_d eX11_init 204 rfl) 0 rfl rfl ?_
  refine zr_bipush (pc := 355) (zq_d eX11_init 205 rfl) zc_b12 ?_
  refine zr_newa (pc := 357) (c := 93) (kd := 0) (N1 := 12) (zq_d eX11_init 206 rfl) (zq_m1 117 rfl rfl) rfl (by decide) (by decide) (by decide) (by decide) (by simp only [zq_ev, zq_ad, zq_prm] <;> (repeat' split) <;> omega) (Nat.le_of_ble_eq_true rfl) (Nat.le_of_ble_eq_true rfl) (fun X55 => ?_)
  refine zr_putC (pc := 359) (ks := [0, 0, 0, 0, 74, 75, 76, 77, 78, 0, 0, 0, 0, 0, 0, 79, 80, 81, 82, 83, 84, 85, 86, 0, 0, 0, 87, 88, 89, 90, 91, 92, 93, 94, 95, 96, 0, 3, 3, 3, 1, 1, 0, 3, 3, 0, 0, 0, 0, 0, 0, 0, 0, 3, 3, 3, 3, 3, 3, 3, 3, 0, 3, 3, 3, 3, 3]) (j := 93) (zq_d eX11_init 207 rfl) zf_RX11_124 rfl rfl zn_11_37 rfl (fun q h => by cases h; rfl) rfl rfl ?_
  refine zr_aload_n (pc := 362) (zq_d eX11_init 208 rfl) 0 rfl rfl ?_
  refine zr_bipush (pc := 363) (zq_d eX11_init 209 rfl) zc_b12 ?_
  refine zr_newa (pc := 365) (c := 94) (kd := 0) (N1 := 12) (zq_d eX11_init 210 rfl) (zq_m1 117 rfl rfl) rfl (by decide) (by decide) (by decide) (by decide) (by simp only [zq_ev, zq_ad, zq_prm] <;> (repeat' split) <;> omega) (Nat.le_of_ble_eq_true rfl) (Nat.le_of_ble_eq_true rfl) (fun X56 => ?_)
  refine zr_putC (pc := 367) (ks := [0, 0, 0, 0, 74, 75, 76, 77, 78, 0, 0, 0, 0, 0, 0, 79, 80, 81, 82, 83, 84, 85, 86, 0, 0, 0, 87, 88, 89, 90, 91, 92, 93, 94, 95, 96, 0, 97, 3, 3, 1, 1, 0, 3, 3, 0, 0, 0, 0, 0, 0, 0, 0, 3, 3, 3, 3, 3, 3, 3, 3, 0, 3, 3, 3, 3, 3]) (j := 94) (zq_d eX11_init 211 rfl) zf_RX11_127 rfl rfl zn_11_38 rfl (fun q h => by cases h; rfl) rfl rfl ?_
  refine zr_aload_n (pc := 370) (zq_d eX11_init 212 rfl) 0 rfl rfl ?_
  refine zr_iconst (pc := 371) (zq_d eX11_init 213 rfl) zc_i5 ?_
  refine zr_newa (pc := 372) (c := 95) (kd := 0) (N1 := 5) (zq_d eX11_init 214 rfl) (zq_m1 117 rfl rfl) rfl (by decide) (by decide) (by decide) (by decide) (by simp only [zq_ev, zq_ad, zq_prm] <;> (repeat' split) <;> omega) (Nat.le_of_ble_eq_true rfl) (Nat.le_of_ble_eq_true rfl) (fun X57 => ?_)
  refine zr_putC (pc := 374) (ks := [0, 0, 0, 0, 74, 75, 76, 77, 78, 0, 0, 0, 0, 0, 0, 79, 80, 81, 82, 83, 84, 85, 86, 0, 0, 0, 87, 88, 89, 90, 91, 92, 93, 94, 95, 96, 0, 97, 98, 3, 1, 1, 0, 3, 3, 0, 0, 0, 0, 0, 0, 0, 0, 3, 3, 3, 3, 3, 3, 3, 3, 0, 3, 3, 3, 3, 3]) (j := 95) (zq_d eX11_init 215 rfl) zf_RX11_130 rfl rfl zn_11_39 rfl (fun q h => by cases h; rfl) rfl rfl ?_
  refine zr_aload_n (pc := 377) (zq_d eX11_init 216 rfl) 0 rfl rfl ?_
  refine zr_lconst (pc := 378) (v := 0) (zq_d eX11_init 217 rfl) rfl ?_
  refine zr_putL (pc := 379) (zq_d eX11_init 218 rfl) zf_RX11_133 rfl zn_11_40 (fun X58 => ?_)
  refine zr_aload_n (pc := 382) (zq_d eX11_init 219 rfl) 0 rfl rfl ?_
  refine zr_lconst (pc := 383) (v := 1) (zq_d eX11_init 220 rfl) rfl ?_
  refine zr_putL (pc := 384) (zq_d eX11_init 221 rfl) zf_RX11_137 rfl zn_11_41 (fun X59 => ?_)
  refine zr_aload_n (pc := 387) (zq_d eX11_init 222 rfl) 0 rfl rfl ?_
  refine zr_iconst (pc := 388) (zq_d eX11_init 223 rfl) zc_i0 ?_
  refine zr_putI (pc := 389) (zq_d eX11_init 224 rfl) zf_RX11_140 rfl zn_11_42 (fun X60 => ?_)
  refine zr_aload_n (pc := 392) (zq_d eX11_init 225 rfl) 0 rfl rfl ?_
  refine zr_bipush (pc := 393) (zq_d eX11_init 226 rfl) zc_b12 ?_
  refine zr_newa (pc := 395) (c := 96) (kd := 0) (N1 := 12) (zq_d eX11_init 227 rfl) (zq_m1 117 rfl rfl) rfl (by decide) (by decide) (by decide) (by decide) (by simp only [zq_ev, zq_ad, zq_prm] <;> (repeat' split) <;> omega) (Nat.le_of_ble_eq_true rfl) (Nat.le_of_ble_eq_true rfl) (fun X61 => ?_)
  refine zr_putC (pc := 397) (ks := [0, 0, 0, 0, 74, 75, 76, 77, 78, 0, 0, 0, 0, 0, 0, 79, 80, 81, 82, 83, 84, 85, 86, 0, 0, 0, 87, 88, 89, 90, 91, 92, 93, 94, 95, 96, 0, 97, 98, 99, 1, 1, 0, 3, 3, 0, 0, 0, 0, 0, 0, 0, 0, 3, 3, 3, 3, 3, 3, 3, 3, 0, 3, 3, 3, 3, 3]) (j := 96) (zq_d eX11_init 228 rfl) zf_RX11_143 rfl rfl zn_11_43 rfl (fun q h => by cases h; rfl) rfl rfl ?_
  refine zr_aload_n (pc := 400) (zq_d eX11_init 229 rfl) 0 rfl rfl ?_
  refine zr_iconst (pc := 401) (zq_d eX11_init 230 rfl) zc_i5 ?_
  refine zr_newa (pc := 402) (c := 97) (kd := 0) (N1 := 5) (zq_d eX11_init 231 rfl) (zq_m1 117 rfl rfl) rfl (by decide) (by decide) (by decide) (by decide) (by simp only [zq_ev, zq_ad, zq_prm] <;> (repeat' split) <;> omega) (Nat.le_of_ble_eq_true rfl) (Nat.le_of_ble_eq_true rfl) (fun X62 => ?_)
  refine zr_putC (pc := 404) (ks := [0, 0, 0, 0, 74, 75, 76, 77, 78, 0, 0, 0, 0, 0, 0, 79, 80, 81, 82, 83, 84, 85, 86, 0, 0, 0, 87, 88, 89, 90, 91, 92, 93, 94, 95, 96, 0, 97, 98, 99, 1, 1, 0, 100, 3, 0, 0, 0, 0, 0, 0, 0, 0, 3, 3, 3, 3, 3, 3, 3, 3, 0, 3, 3, 3, 3, 3]) (j := 97) (zq_d eX11_init 232 rfl) zf_RX11_146 rfl rfl zn_11_44 rfl (fun q h => by cases h; rfl) rfl rfl ?_
  refine zr_aload_n (pc := 407) (zq_d eX11_init 233 rfl) 0 rfl rfl ?_
  refine zr_iconst (pc := 408) (zq_d eX11_init 234 rfl) zc_i0 ?_
  refine zr_putZ (pc := 409) (zq_d eX11_init 235 rfl) zf_RX11_149 rfl zn_11_45 (fun X63 => ?_)
  refine zr_aload_n (pc := 412) (zq_d eX11_init 236 rfl) 0 rfl rfl ?_
  refine zr_iconst (pc := 413) (zq_d eX11_init 237 rfl) zc_im1 ?_
  refine zr_putI (pc := 414) (zq_d eX11_init 238 rfl) zf_RX11_153 rfl zn_11_46 (fun X64 => ?_)
  refine zr_aload_n (pc := 417) (zq_d eX11_init 239 rfl) 0 rfl rfl ?_
  refine zr_iconst (pc := 418) (zq_d eX11_init 240 rfl) zc_i0 ?_
  refine zr_putI (pc := 419) (zq_d eX11_init 241 rfl) zf_RX11_156 rfl zn_11_47 (fun X65 => ?_)
  refine zr_aload_n (pc := 422) (zq_d eX11_init 242 rfl) 0 rfl rfl ?_
  refine zr_iconst (pc := 423) (zq_d eX11_init 243 rfl) zc_i0 ?_
  refine zr_putI (pc := 424) (zq_d eX11_init 244 rfl) zf_RX11_159 rfl zn_11_48 (fun X66 => ?_)
  refine zr_aload_n (pc := 427) (zq_d eX11_init 245 rfl) 0 rfl rfl ?_
  refine zr_iconst (pc := 428) (zq_d eX11_init 246 rfl) zc_i0 ?_
  refine zr_putI (pc := 429) (zq_d eX11_init 247 rfl) zf_RX11_162 rfl zn_11_49 (fun X67 => ?_)
  refine zr_aload_n (pc := 432) (zq_d eX11_init 248 rfl) 0 rfl rfl ?_
  refine zr_iconst (pc := 433) (zq_d eX11_init 249 rfl) zc_i0 ?_
  refine zr_putI (pc := 434) (zq_d eX11_init 250 rfl) zf_RX11_165 rfl zn_11_50 (fun X68 => ?_)
  refine zr_aload_n (pc := 437) (zq_d eX11_init 251 rfl) 0 rfl rfl ?_
  refine zr_iconst (pc := 438) (zq_d eX11_init 252 rfl) zc_i0 ?_
  refine zr_putI (pc := 439) (zq_d eX11_init 253 rfl) zf_RX11_168 rfl zn_11_51 (fun X69 => ?_)
  refine zr_aload_n (pc := 442) (zq_d eX11_init 254 rfl) 0 rfl rfl ?_
  refine zr_iconst (pc := 443) (zq_d eX11_init 255 rfl) zc_i0 ?_
  refine zr_putI (pc := 444) (zq_d eX11_init 256 rfl) zf_RX11_171 rfl zn_11_52 (fun X70 => ?_)
  refine zr_aload_n (pc := 447) (zq_d eX11_init 257 rfl) 0 rfl rfl ?_
  refine zr_iconst (pc := 448) (zq_d eX11_init 258 rfl) zc_i5 ?_
  refine zr_newa (pc := 449) (c := 98) (kd := 0) (N1 := 5) (zq_d eX11_init 259 rfl) (zq_m1 117 rfl rfl) rfl (by decide) (by decide) (by decide) (by decide) (by simp only [zq_ev, zq_ad, zq_prm] <;> (repeat' split) <;> omega) (Nat.le_of_ble_eq_true rfl) (Nat.le_of_ble_eq_true rfl) (fun X71 => ?_)
  refine zr_putC (pc := 451) (ks := [0, 0, 0, 0, 74, 75, 76, 77, 78, 0, 0, 0, 0, 0, 0, 79, 80, 81, 82, 83, 84, 85, 86, 0, 0, 0, 87, 88, 89, 90, 91, 92, 93, 94, 95, 96, 0, 97, 98, 99, 1, 1, 0, 100, 101, 0, 0, 0, 0, 0, 0, 0, 0, 3, 3, 3, 3, 3, 3, 3, 3, 0, 3, 3, 3, 3, 3]) (j := 98) (zq_d eX11_init 260 rfl) zf_RX11_174 rfl rfl zn_11_53 rfl (fun q h => by cases h; rfl) rfl rfl ?_
  refine zr_aload_n (pc := 454) (zq_d eX11_init 261 rfl) 0 rfl rfl ?_
  refine zr_iconst (pc := 455) (zq_d eX11_init 262 rfl) zc_i5 ?_
  refine zr_newa (pc := 456) (c := 99) (kd := 0) (N1 := 5) (zq_d eX11_init 263 rfl) (zq_m1 117 rfl rfl) rfl (by decide) (by decide) (by decide) (by decide) (by simp only [zq_ev, zq_ad, zq_prm] <;> (repeat' split) <;> omega) (Nat.le_of_ble_eq_true rfl) (Nat.le_of_ble_eq_true rfl) (fun X72 => ?_)
  refine zr_putC (pc := 458) (ks := [0, 0, 0, 0, 74, 75, 76, 77, 78, 0, 0, 0, 0, 0, 0, 79, 80, 81, 82, 83, 84, 85, 86, 0, 0, 0, 87, 88, 89, 90, 91, 92, 93, 94, 95, 96, 0, 97, 98, 99, 1, 1, 0, 100, 101, 0, 0, 0, 0, 0, 0, 0, 0, 102, 3, 3, 3, 3, 3, 3, 3, 0, 3, 3, 3, 3, 3]) (j := 99) (zq_d eX11_init 264 rfl) zf_RX11_177 rfl rfl zn_11_54 rfl (fun q h => by cases h; rfl) rfl rfl ?_
  refine zr_aload_n (pc := 461) (zq_d eX11_init 265 rfl) 0 rfl rfl ?_
  refine zr_iconst (pc := 462) (zq_d eX11_init 266 rfl) zc_i5 ?_
  refine zr_newa (pc := 463) (c := 100) (kd := 0) (N1 := 5) (zq_d eX11_init 267 rfl) (zq_m1 117 rfl rfl) rfl (by decide) (by decide) (by decide) (by decide) (by simp only [zq_ev, zq_ad, zq_prm] <;> (repeat' split) <;> omega) (Nat.le_of_ble_eq_true rfl) (Nat.le_of_ble_eq_true rfl) (fun X73 => ?_)
  refine zr_putC (pc := 465) (ks := [0, 0, 0, 0, 74, 75, 76, 77, 78, 0, 0, 0, 0, 0, 0, 79, 80, 81, 82, 83, 84, 85, 86, 0, 0, 0, 87, 88, 89, 90, 91, 92, 93, 94, 95, 96, 0, 97, 98, 99, 1, 1, 0, 100, 101, 0, 0, 0, 0, 0, 0, 0, 0, 102, 103, 3, 3, 3, 3, 3, 3, 0, 3, 3, 3, 3, 3]) (j := 100) (zq_d eX11_init 268 rfl) zf_RX11_180 rfl rfl zn_11_55 rfl (fun q h => by cases h; rfl) rfl rfl ?_
  refine zr_aload_n (pc := 468) (zq_d eX11_init 269 rfl) 0 rfl rfl ?_
  refine zr_iconst (pc := 469) (zq_d eX11_init 270 rfl) zc_i3 ?_
  refine zr_newa (pc := 470) (c := 101) (kd := 0) (N1 := 3) (zq_d eX11_init 271 rfl) (zq_m1 117 rfl rfl) rfl (by decide) (by decide) (by decide) (by decide) (by simp only [zq_ev, zq_ad, zq_prm] <;> (repeat' split) <;> omega) (Nat.le_of_ble_eq_true rfl) (Nat.le_of_ble_eq_true rfl) (fun X74 => ?_)
  refine zr_putC (pc := 472) (ks := [0, 0, 0, 0, 74, 75, 76, 77, 78, 0, 0, 0, 0, 0, 0, 79, 80, 81, 82, 83, 84, 85, 86, 0, 0, 0, 87, 88, 89, 90, 91, 92, 93, 94, 95, 96, 0, 97, 98, 99, 1, 1, 0, 100, 101, 0, 0, 0, 0, 0, 0, 0, 0, 102, 103, 104, 3, 3, 3, 3, 3, 0, 3, 3, 3, 3, 3]) (j := 101) (zq_d eX11_init 272 rfl) zf_RX11_183 rfl rfl zn_11_56 rfl (fun q h => by cases h; rfl) rfl rfl ?_
  refine zr_aload_n (pc := 475) (zq_d eX11_init 273 rfl) 0 rfl rfl ?_
  refine zr_iconst (pc := 476) (zq_d eX11_init 274 rfl) zc_i3 ?_
  refine zr_newa (pc := 477) (c := 102) (kd := 0) (N1 := 3) (zq_d eX11_init 275 rfl) (zq_m1 117 rfl rfl) rfl (by decide) (by decide) (by decide) (by decide) (by simp only [zq_ev, zq_ad, zq_prm] <;> (repeat' split) <;> omega) (Nat.le_of_ble_eq_true rfl) (Nat.le_of_ble_eq_true rfl) (fun X75 => ?_)
  refine zr_putC (pc := 479) (ks := [0, 0, 0, 0, 74, 75, 76, 77, 78, 0, 0, 0, 0, 0, 0, 79, 80, 81, 82, 83, 84, 85, 86, 0, 0, 0, 87, 88, 89, 90, 91, 92, 93, 94, 95, 96, 0, 97, 98, 99, 1, 1, 0, 100, 101, 0, 0, 0, 0, 0, 0, 0, 0, 102, 103, 104, 105, 3, 3, 3, 3, 0, 3, 3, 3, 3, 3]) (j := 102) (zq_d eX11_init 276 rfl) zf_RX11_186 rfl rfl zn_11_57 rfl (fun q h => by cases h; rfl) rfl rfl ?_
  refine zr_aload_n (pc := 482) (zq_d eX11_init 277 rfl) 0 rfl rfl ?_
  refine zr_bipush (pc := 483) (zq_d eX11_init 278 rfl) zc_b12 ?_
  refine zr_newa (pc := 485) (c := 103) (kd := 0) (N1 := 12) (zq_d eX11_init 279 rfl) (zq_m1 117 rfl rfl) rfl (by decide) (by decide) (by decide) (by decide) (by simp only [zq_ev, zq_ad, zq_prm] <;> (repeat' split) <;> omega) (Nat.le_of_ble_eq_true rfl) (Nat.le_of_ble_eq_true rfl) (fun X76 => ?_)
  refine zr_putC (pc := 487) (ks := [0, 0, 0, 0, 74, 75, 76, 77, 78, 0, 0, 0, 0, 0, 0, 79, 80, 81, 82, 83, 84, 85, 86, 0, 0, 0, 87, 88, 89, 90, 91, 92, 93, 94, 95, 96, 0, 97, 98, 99, 1, 1, 0, 100, 101, 0, 0, 0, 0, 0, 0, 0, 0, 102, 103, 104, 105, 106, 3, 3, 3, 0, 3, 3, 3, 3, 3]) (j := 103) (zq_d eX11_init 280 rfl) zf_RX11_189 rfl rfl zn_11_58 rfl (fun q h => by cases h; rfl) rfl rfl ?_
  refine zr_aload_n (pc := 490) (zq_d eX11_init 281 rfl) 0 rfl rfl ?_
  refine zr_bipush (pc := 491) (zq_d eX11_init 282 rfl) zc_b12 ?_
  refine zr_newa (pc := 493) (c := 104) (kd := 0) (N1 := 12) (zq_d eX11_init 283 rfl) (zq_m1 117 rfl rfl) rfl (by decide) (by decide) (by decide) (by decide) (by simp only [zq_ev, zq_ad, zq_prm] <;> (repeat' split) <;> omega) (Nat.le_of_ble_eq_true rfl) (Nat.le_of_ble_eq_true rfl) (fun X77 => ?_)
  refine zr_putC (pc := 495) (ks := [0, 0, 0, 0, 74, 75, 76, 77, 78, 0, 0, 0, 0, 0, 0, 79, 80, 81, 82, 83, 84, 85, 86, 0, 0, 0, 87, 88, 89, 90, 91, 92, 93, 94, 95, 96, 0, 97, 98, 99, 1, 1, 0, 100, 101, 0, 0, 0, 0, 0, 0, 0, 0, 102, 103, 104, 105, 106, 107, 3, 3, 0, 3, 3, 3, 3, 3]) (j := 104) (zq_d eX11_init 284 rfl) zf_RX11_192 rfl rfl zn_11_59 rfl (fun q h => by cases h; rfl) rfl rfl ?_
  refine zr_aload_n (pc := 498) (zq_d eX11_init 285 rfl) 0 rfl rfl ?_
  refine zr_bipush (pc := 499) (zq_d eX11_init 286 rfl) zc_b12 ?_
  refine zr_newa (pc := 501) (c := 105) (kd := 0) (N1 := 12) (zq_d eX11_init 287 rfl) (zq_m1 117 rfl rfl) rfl (by decide) (by decide) (by decide) (by decide) (by simp only [zq_ev, zq_ad, zq_prm] <;> (repeat' split) <;> omega) (Nat.le_of_ble_eq_true rfl) (Nat.le_of_ble_eq_true rfl) (fun X78 => ?_)
  refine zr_putC (pc := 503) (ks := [0, 0, 0, 0, 74, 75, 76, 77, 78, 0, 0, 0, 0, 0, 0, 79, 80, 81, 82, 83, 84, 85, 86, 0, 0, 0, 87, 88, 89, 90, 91, 92, 93, 94, 95, 96, 0, 97, 98, 99, 1, 1, 0, 100, 101, 0, 0, 0, 0, 0, 0, 0, 0, 102, 103, 104, 105, 106, 107, 108, 3, 0, 3, 3, 3, 3, 3]) (j := 105) (zq_d eX11_init 288 rfl) zf_RX11_195 rfl rfl zn_11_60 rfl (fun q h => by cases h; rfl) rfl rfl ?_
  refine zr_aload_n (pc := 506) (zq_d eX11_init 289 rfl) 0 rfl rfl ?_
  refine zr_iconst (pc := 507) (zq_d eX11_init 290 rfl) zc_i0 ?_
  refine zr_putI (pc := 508) (zq_d eX11_init 291 rfl) zf_RX11_198 rfl zn_11_61 (fun X79 => ?_)
  refine zr_aload_n (pc := 511) (zq_d eX11_init 292 rfl) 0 rfl rfl ?_
  refine zr_bipush (pc := 512) (zq_d eX11_init 293 rfl) zc_b20 ?_
  refine zr_newa (pc := 514) (c := 106) (kd := 0) (N1 := 20) (zq_d eX11_init 294 rfl) (zq_m1 117 rfl rfl) rfl (by decide) (by decide) (by decide) (by decide) (by simp only [zq_ev, zq_ad, zq_prm] <;> (repeat' split) <;> omega) (Nat.le_of_ble_eq_true rfl) (Nat.le_of_ble_eq_true rfl) (fun X80 => ?_)
  refine zr_putC (pc := 516) (ks := [0, 0, 0, 0, 74, 75, 76, 77, 78, 0, 0, 0, 0, 0, 0, 79, 80, 81, 82, 83, 84, 85, 86, 0, 0, 0, 87, 88, 89, 90, 91, 92, 93, 94, 95, 96, 0, 97, 98, 99, 1, 1, 0, 100, 101, 0, 0, 0, 0, 0, 0, 0, 0, 102, 103, 104, 105, 106, 107, 108, 109, 0, 3, 3, 3, 3, 3]) (j := 106) (zq_d eX11_init 295 rfl) zf_RX11_201 rfl rfl zn_11_62 rfl (fun q h => by cases h; rfl) rfl rfl ?_
  refine zr_aload_n (pc := 519) (zq_d eX11_init 296 rfl) 0 rfl rfl ?_
  refine zr_bipush (pc := 520) (zq_d eX11_init 297 rfl) zc_b6 ?_
  refine zr_newa (pc := 522) (c := 107) (kd := 0) (N1 := 6) (zq_d eX11_init 298 rfl) (zq_m1 117 rfl rfl) rfl (by decide) (by decide) (by decide) (by decide) (by simp only [zq_ev, zq_ad, zq_prm] <;> (repeat' split) <;> omega) (Nat.le_of_ble_eq_true rfl) (Nat.le_of_ble_eq_true rfl) (fun X81 => ?_)
  refine zr_dup (pc := 524) (zq_d eX11_init 299 rfl) rfl ?_
  refine zr_iconst (pc := 525) (zq_d eX11_init 300 rfl) zc_i0 ?_
  refine zr_iconst (pc := 526) (zq_d eX11_init 301 rfl) zc_im1 ?_
  refine zr_iast (pc := 527) (zq_d eX11_init 302 rfl) rfl (fun X82 => ?_)
  refine zr_dup (pc := 528) (zq_d eX11_init 303 rfl) rfl ?_
  refine zr_iconst (pc := 529) (zq_d eX11_init 304 rfl) zc_i1 ?_
  refine zr_iconst (pc := 530) (zq_d eX11_init 305 rfl) zc_im1 ?_
  refine zr_iast (pc := 531) (zq_d eX11_init 306 rfl) rfl (fun X83 => ?_)
  refine zr_dup (pc := 532) (zq_d eX11_init 307 rfl) rfl ?_
  refine zr_iconst (pc := 533) (zq_d eX11_init 308 rfl) zc_i2 ?_
  refine zr_iconst (pc := 534) (zq_d eX11_init 309 rfl) zc_im1 ?_
  refine zr_iast (pc := 535) (zq_d eX11_init 310 rfl) rfl (fun X84 => ?_)
  refine zr_dup (pc := 536) (zq_d eX11_init 311 rfl) rfl ?_
  refine zr_iconst (pc := 537) (zq_d eX11_init 312 rfl) zc_i3 ?_
  refine zr_iconst (pc := 538) (zq_d eX11_init 313 rfl) zc_im1 ?_
  refine zr_iast (pc := 539) (zq_d eX11_init 314 rfl) rfl (fun X85 => ?_)
  refine zr_dup (pc := 540) (zq_d eX11_init 315 rfl) rfl ?_
  refine zr_iconst (pc := 541) (zq_d eX11_init 316 rfl) zc_i4 ?_
  refine zr_iconst (pc := 542) (zq_d eX11_init 317 rfl) zc_im1 ?_
  refine zr_iast (pc := 543) (zq_d eX11_init 318 rfl) rfl (fun X86 => ?_)
  refine zr_dup (pc := 544) (zq_d eX11_init 319 rfl) rfl ?_
  refine zr_iconst (pc := 545) (zq_d eX11_init 320 rfl) zc_i5 ?_
  refine zr_iconst (pc := 546) (zq_d eX11_init 321 rfl) zc_im1 ?_
  refine zr_iast (pc := 547) (zq_d eX11_init 322 rfl) rfl (fun X87 => ?_)
  refine zr_putC (pc := 548) (ks := [0, 0, 0, 0, 74, 75, 76, 77, 78, 0, 0, 0, 0, 0, 0, 79, 80, 81, 82, 83, 84, 85, 86, 0, 0, 0, 87, 88, 89, 90, 91, 92, 93, 94, 95, 96, 0, 97, 98, 99, 1, 1, 0, 100, 101, 0, 0, 0, 0, 0, 0, 0, 0, 102, 103, 104, 105, 106, 107, 108, 109, 0, 110, 3, 3, 3, 3]) (j := 107) (zq_d eX11_init 323 rfl) zf_RX11_204 rfl rfl zn_11_63 rfl (fun q h => by cases h; rfl) rfl rfl ?_
  refine zr_aload_n (pc := 551) (zq_d eX11_init 324 rfl) 0 rfl rfl ?_
  refine zr_bipush (pc := 552) (zq_d eX11_init 325 rfl) zc_b6 ?_
  refine zr_newa (pc := 554) (c := 108) (kd := 0) (N1 := 6) (zq_d eX11_init 326 rfl) (zq_m1 117 rfl rfl) rfl (by decide) (by decide) (by decide) (by decide) (by simp only [zq_ev, zq_ad, zq_prm] <;> (repeat' split) <;> omega) (Nat.le_of_ble_eq_true rfl) (Nat.le_of_ble_eq_true rfl) (fun X88 => ?_)
  refine zr_putC (pc := 556) (ks := [0, 0, 0, 0, 74, 75, 76, 77, 78, 0, 0, 0, 0, 0, 0, 79, 80, 81, 82, 83, 84, 85, 86, 0, 0, 0, 87, 88, 89, 90, 91, 92, 93, 94, 95, 96, 0, 97, 98, 99, 1, 1, 0, 100, 101, 0, 0, 0, 0, 0, 0, 0, 0, 102, 103, 104, 105, 106, 107, 108, 109, 0, 110, 111, 3, 3, 3]) (j := 108) (zq_d eX11_init 327 rfl) zf_RX11_207 rfl rfl zn_11_64 rfl (fun q h => by cases h; rfl) rfl rfl ?_
  refine zr_aload_n (pc := 559) (zq_d eX11_init 328 rfl) 0 rfl rfl ?_
  refine zr_sipush (pc := 560) (zq_d eX11_init 329 rfl) zc_s360 ?_
  refine zr_newa (pc := 563) (c := 109) (kd := 2) (N1 := 360) (zq_d eX11_init 330 rfl) (zq_m2 86 rfl rfl) rfl (by decide) (by decide) (by decide) (by decide) (by simp only [zq_ev, zq_ad, zq_prm] <;> (repeat' split) <;> omega) (Nat.le_of_ble_eq_true rfl) (Nat.le_of_ble_eq_true rfl) (fun X89 => ?_)
  refine zr_putC (pc := 565) (ks := [0, 0, 0, 0, 74, 75, 76, 77, 78, 0, 0, 0, 0, 0, 0, 79, 80, 81, 82, 83, 84, 85, 86, 0, 0, 0, 87, 88, 89, 90, 91, 92, 93, 94, 95, 96, 0, 97, 98, 99, 1, 1, 0, 100, 101, 0, 0, 0, 0, 0, 0, 0, 0, 102, 103, 104, 105, 106, 107, 108, 109, 0, 110, 111, 112, 3, 3]) (j := 109) (zq_d eX11_init 331 rfl) zf_RX11_210 rfl rfl zn_11_65 rfl (fun q h => by cases h; rfl) rfl rfl ?_
  refine zr_aload_n (pc := 568) (zq_d eX11_init 332 rfl) 0 rfl rfl ?_
  refine zr_bipush (pc := 569) (zq_d eX11_init 333 rfl) zc_b60 ?_
  refine zr_newa (pc := 571) (c := 110) (kd := 2) (N1 := 60) (zq_d eX11_init 334 rfl) (zq_m2 86 rfl rfl) rfl (by decide) (by decide) (by decide) (by decide) (by simp only [zq_ev, zq_ad, zq_prm] <;> (repeat' split) <;> omega) (Nat.le_of_ble_eq_true rfl) (Nat.le_of_ble_eq_true rfl) (fun X90 => ?_)
  refine zr_putC (pc := 573) (ks := [0, 0, 0, 0, 74, 75, 76, 77, 78, 0, 0, 0, 0, 0, 0, 79, 80, 81, 82, 83, 84, 85, 86, 0, 0, 0, 87, 88, 89, 90, 91, 92, 93, 94, 95, 96, 0, 97, 98, 99, 1, 1, 0, 100, 101, 0, 0, 0, 0, 0, 0, 0, 0, 102, 103, 104, 105, 106, 107, 108, 109, 0, 110, 111, 112, 113, 3]) (j := 110) (zq_d eX11_init 335 rfl) zf_RX11_214 rfl rfl zn_11_66 rfl (fun q h => by cases h; rfl) rfl rfl ?_
  refine zr_sz (sh2 := zq_shM) (z2 := zq_ad G 141) ?_ (by simp only [zq_ev, zq_ad, zq_prm] <;> (repeat' split) <;> omega) ?_
  · funext d
    by_cases h1 : 69 ≤ d ∧ d < 111
    · rcases (show d = 69 ∨ d = 70 ∨ d = 71 ∨ d = 72 ∨ d = 73 ∨ d = 74 ∨ d = 75 ∨ d = 76 ∨ d = 77 ∨ d = 78 ∨ d = 79 ∨ d = 80 ∨ d = 81 ∨ d = 82 ∨ d = 83 ∨ d = 84 ∨ d = 85 ∨ d = 86 ∨ d = 87 ∨ d = 88 ∨ d = 89 ∨ d = 90 ∨ d = 91 ∨ d = 92 ∨ d = 93 ∨ d = 94 ∨ d = 95 ∨ d = 96 ∨ d = 97 ∨ d = 98 ∨ d = 99 ∨ d = 100 ∨ d = 101 ∨ d = 102 ∨ d = 103 ∨ d = 104 ∨ d = 105 ∨ d = 106 ∨ d = 107 ∨ d = 108 ∨ d = 109 ∨ d = 110 by omega) with rfl | rfl | rfl | rfl | rfl | rfl | rfl | rfl | rfl | rfl | rfl | rfl | rfl | rfl | rfl | rfl | rfl | rfl | rfl | rfl | rfl | rfl | rfl | rfl | rfl | rfl | rfl | rfl | rfl | rfl | rfl | rfl | rfl | rfl | rfl | rfl | rfl | rfl | rfl | rfl | rfl | rfl <;> rfl
    · simp only [zq_us]
      repeat rw [if_neg (by omega)]
      unfold zq_shM
      split
      · rfl
      · exact (List.getElem?_eq_none (by show zq_lM.length ≤ _; have hl : zq_lM.length = 42 := rfl; omega)).symm
  · exact zr_vreturn (pc := 576) (zq_d eX11_init 336 rfl) rfl rfl (Nat.le_of_ble_eq_true rfl) (Nat.le_of_ble_eq_true rfl)
def f_X10_init (X : zq_M) : Option zq_M :=
  zq_b (zq_z X 1) (fun X1 => (f_X5_init 1 X1).bind (fun X2 => zq_b (zq_z X2 11) (fun X3 => (f_X5_init 11 X3).bind (fun X4 => zq_b (zq_z X4 21) (fun X5 => zq_b (zq_z X5 22) (fun X6 => zq_b (zq_z X6 23) (fun X7 => (f_X2_init 23 X7).bind (fun X8 => zq_b (zq_z X8 28) (fun X9 => (f_X3_init X9).bind (fun X10 => zq_b (zq_z X10 35) (fun X11 => (f_X6_init X11).bind (fun X12 => zq_b (zq_z X12 41) (fun X13 => (f_X9_init X13).bind (fun X14 => zq_b (zq_z X14 45) (fun X15 => (f_X1_init X15).bind (fun X16 => zq_b (zq_z X16 51) (fun X17 => (f_X8_init X17).bind (fun X18 => zq_b (zq_z X18 52) (fun X19 => (f_X4_init X19).bind (fun X20 => zq_b (zq_z X20 54) (fun X21 => (f_X0_init X21).bind (fun X22 => zq_b (zq_z X22 56) (fun X23 => zq_b (zq_z X23 57) (fun X24 => (f_X7_init 57 X24).bind (fun X25 => zq_ck (0 : Int32) 6 (zq_b (zq_u3 X25 56 (zq_ix (0 : Int32)) (some 57)) (fun X26 => zq_b (zq_z X26 59) (fun X27 => (f_X7_init 59 X27).bind (fun X28 => zq_ck (1 : Int32) 6 (zq_b (zq_u3 X28 56 (zq_ix (1 : Int32)) (some 59)) (fun X29 => zq_b (zq_z X29 61) (fun X30 => (f_X7_init 61 X30).bind (fun X31 => zq_ck (2 : Int32) 6 (zq_b (zq_u3 X31 56 (zq_ix (2 : Int32)) (some 61)) (fun X32 => zq_b (zq_z X32 63) (fun X33 => (f_X7_init 63 X33).bind (fun X34 => zq_ck (3 : Int32) 6 (zq_b (zq_u3 X34 56 (zq_ix (3 : Int32)) (some 63)) (fun X35 => zq_b (zq_z X35 65) (fun X36 => (f_X7_init 65 X36).bind (fun X37 => zq_ck (4 : Int32) 6 (zq_b (zq_u3 X37 56 (zq_ix (4 : Int32)) (some 65)) (fun X38 => zq_b (zq_z X38 67) (fun X39 => (f_X7_init 67 X39).bind (fun X40 => zq_ck (5 : Int32) 6 (zq_b (zq_u3 X40 56 (zq_ix (5 : Int32)) (some 67)) (fun X41 => zq_b (zq_z X41 111) (fun X42 => (f_X2_init 111 X42).bind (fun X43 => zq_ck (0 : Int32) 6 (zq_b (zq_u3 X43 22 (zq_ix (0 : Int32)) (some 111)) (fun X44 => zq_b (zq_z X44 116) (fun X45 => (f_X2_init 116 X45).bind (fun X46 => zq_ck (1 : Int32) 6 (zq_b (zq_u3 X46 22 (zq_ix (1 : Int32)) (some 116)) (fun X47 => zq_b (zq_z X47 121) (fun X48 => (f_X2_init 121 X48).bind (fun X49 => zq_ck (2 : Int32) 6 (zq_b (zq_u3 X49 22 (zq_ix (2 : Int32)) (some 121)) (fun X50 => zq_b (zq_z X50 126) (fun X51 => (f_X2_init 126 X51).bind (fun X52 => zq_ck (3 : Int32) 6 (zq_b (zq_u3 X52 22 (zq_ix (3 : Int32)) (some 126)) (fun X53 => zq_b (zq_z X53 131) (fun X54 => (f_X2_init 131 X54).bind (fun X55 => zq_ck (4 : Int32) 6 (zq_b (zq_u3 X55 22 (zq_ix (4 : Int32)) (some 131)) (fun X56 => zq_b (zq_z X56 136) (fun X57 => (f_X2_init 136 X57).bind (fun X58 => zq_ck (5 : Int32) 6 (zq_b (zq_u3 X58 22 (zq_ix (5 : Int32)) (some 136)) (fun X59 => some X59)))))))))))))))))))))))))))))))))))))))))))))))))))))))))))))))))))))))
set_option maxRecDepth 20000 in
set_option maxHeartbeats 8000000 in
theorem s_X10_init (G : zq_G) (X : zq_M) : zq_V G YX10_init (4, 98, 6245) (zq_ev (zq_shX 6) (zq_ad G 69)) 0 0 0 (lv_args 0 [.ref (zq_ad G 0)]) [] (zq_us (fun _ => none) 0 (.inl (10, [3, 3, 0, 3, 0, 3, 0, 3, 3, 3, 3, 3, 3, 3, 3, 3]))) (zq_ad G 0 + 1) X (f_X10_init X) := by
  unfold f_X10_init
  refine zr_lo (l2 := [(0, .ref (zq_ad G 0))]) [0] rfl ?_
  refine zr_aload_n (pc := 0) (zq_d eX10_init 0 rfl) 0 rfl rfl ?_
  refine zr_oinit (pc := 1) (zq_d eX10_init 1 rfl) zl_RX10_3 zx_oi1 zx_oi2 (Nat.le_of_ble_eq_true rfl) (Nat.le_of_ble_eq_true rfl) ?_
  refine zr_aload_n (pc := 4) (zq_d eX10_init 2 rfl) 0 rfl rfl ?_
  refine zr_new (pc := 5) (c := 1) (ks := [0, 3, 3, 3, 3, 3, 3, 0, 0, 3, 3, 0, 3, 0, 0]) (zq_d eX10_init 3 rfl) (q := (RX5, TX5, 15)) rfl (zq_m1 30 rfl rfl) (zq_m1 31 rfl rfl) (zq_m1 2 rfl rfl) (zw_5 G) (by simp only [zq_ev, zq_ad, zq_prm] <;> (repeat' split) <;> omega) (Nat.le_of_ble_eq_true rfl) (Nat.le_of_ble_eq_true rfl) (fun X1 => ?_)
  refine zr_dup (pc := 8) (zq_d eX10_init 4 rfl) rfl ?_
  refine zr_sz (sh2 := zq_us _ 1 (.inl (5, [0, 3, 3, 3, 3, 3, 3, 0, 0, 3, 3, 0, 3, 0, 0]))) (z2 := zq_ad G 1 + 1) rfl (by simp only [zq_ev, zq_ad, zq_prm] <;> (repeat' split) <;> omega) ?_
  refine zr_callIN (pc := 9) (host := "MiddleSpeaks") (As := []) (zq_d eX10_init 5 rfl) (s_X5_init G 1 (by decide) _ X1) zd_X5_init.1 zd_X5_init.2 rfl rfl (List.mem_of_getElem? (i := 0) rfl) rfl rfl (Nat.le_of_ble_eq_true rfl) (Nat.le_of_ble_eq_true rfl) (Nat.le_of_ble_eq_true rfl) ⟨(Nat.le_of_ble_eq_true rfl), (Nat.le_of_ble_eq_true rfl)⟩ (fun X2 _ => ?_)
  refine zr_putC (pc := 12) (ks := [3, 3, 0, 3, 0, 3, 0, 3, 3, 3, 3, 3, 3, 3, 3, 3]) (j := 1) (zq_d eX10_init 6 rfl) zf_RX10_12 rfl rfl zn_10_0 rfl (fun q h => by cases h; rfl) rfl rfl ?_
  refine zr_aload_n (pc := 15) (zq_d eX10_init 7 rfl) 0 rfl rfl ?_
  refine zr_new (pc := 16) (c := 11) (ks := [0, 3, 3, 3, 3, 3, 3, 0, 0, 3, 3, 0, 3, 0, 0]) (zq_d eX10_init 8 rfl) (q := (RX5, TX5, 15)) rfl (zq_m1 30 rfl rfl) (zq_m1 31 rfl rfl) (zq_m1 2 rfl rfl) (zw_5 G) (by simp only [zq_ev, zq_ad, zq_prm] <;> (repeat' split) <;> omega) (Nat.le_of_ble_eq_true rfl) (Nat.le_of_ble_eq_true rfl) (fun X3 => ?_)
  refine zr_dup (pc := 19) (zq_d eX10_init 9 rfl) rfl ?_
  refine zr_sz (sh2 := zq_us _ 11 (.inl (5, [0, 3, 3, 3, 3, 3, 3, 0, 0, 3, 3, 0, 3, 0, 0]))) (z2 := zq_ad G 11 + 1) rfl (by simp only [zq_ev, zq_ad, zq_prm] <;> (repeat' split) <;> omega) ?_
  refine zr_callIN (pc := 20) (host := "MiddleSpeaks") (As := []) (zq_d eX10_init 10 rfl) (s_X5_init G 11 (by decide) _ X3) zd_X5_init.1 zd_X5_init.2 rfl rfl (List.mem_of_getElem? (i := 0) rfl) rfl rfl (Nat.le_of_ble_eq_true rfl) (Nat.le_of_ble_eq_true rfl) (Nat.le_of_ble_eq_true rfl) ⟨(Nat.le_of_ble_eq_true rfl), (Nat.le_of_ble_eq_true rfl)⟩ (fun X4 _ => ?_)
  refine zr_putC (pc := 23) (ks := [5, 3, 0, 3, 0, 3, 0, 3, 3, 3, 3, 3, 3, 3, 3, 3]) (j := 11) (zq_d eX10_init 11 rfl) zf_RX10_18 rfl rfl zn_10_1 rfl (fun q h => by cases h; rfl) rfl rfl ?_
  refine zr_aload_n (pc := 26) (zq_d eX10_init 12 rfl) 0 rfl rfl ?_
  refine zr_bipush (pc := 27) (zq_d eX10_init 13 rfl) zc_b100 ?_
  refine zr_newa (pc := 29) (c := 21) (kd := 0) (N1 := 100) (zq_d eX10_init 14 rfl) (zq_m1 117 rfl rfl) rfl (by decide) (by decide) (by decide) (by decide) (by simp only [zq_ev, zq_ad, zq_prm] <;> (repeat' split) <;> omega) (Nat.le_of_ble_eq_true rfl) (Nat.le_of_ble_eq_true rfl) (fun X5 => ?_)
  refine zr_putC (pc := 31) (ks := [5, 15, 0, 3, 0, 3, 0, 3, 3, 3, 3, 3, 3, 3, 3, 3]) (j := 21) (zq_d eX10_init 15 rfl) zf_RX10_21 rfl rfl zn_10_3 rfl (fun q h => by cases h; rfl) rfl rfl ?_
  refine zr_aload_n (pc := 34) (zq_d eX10_init 16 rfl) 0 rfl rfl ?_
  refine zr_bipush (pc := 35) (zq_d eX10_init 17 rfl) zc_b6 ?_
  refine zr_newq (pc := 37) (c := 22) (kd := 3) (N1 := 6) (C0 := "MiddleSpeaks$House") (zq_d eX10_init 18 rfl) (zq_m1 118 rfl rfl) (Or.inl ⟨rfl, rfl⟩) (by decide) (by decide) (by decide) (by simp only [zq_ev, zq_ad, zq_prm] <;> (repeat' split) <;> omega) (Nat.le_of_ble_eq_true rfl) (Nat.le_of_ble_eq_true rfl) (fun X6 => ?_)
  refine zr_putC (pc := 40) (ks := [5, 15, 0, 25, 0, 3, 0, 3, 3, 3, 3, 3, 3, 3, 3, 3]) (j := 22) (zq_d eX10_init 19 rfl) zf_RX10_27 rfl rfl zn_10_5 rfl (fun q h => by cases h; rfl) rfl rfl ?_
  refine zr_aload_n (pc := 43) (zq_d eX10_init 20 rfl) 0 rfl rfl ?_
  refine zr_new (pc := 44) (c := 23) (ks := [0, 3, 3, 3, 3, 0, 0]) (zq_d eX10_init 21 rfl) (q := (RX2, TX2, 7)) rfl (zq_m1 118 rfl rfl) (zq_m1 120 rfl rfl) (zq_m1 3 rfl rfl) (zw_2 G) (by simp only [zq_ev, zq_ad, zq_prm] <;> (repeat' split) <;> omega) (Nat.le_of_ble_eq_true rfl) (Nat.le_of_ble_eq_true rfl) (fun X7 => ?_)
  refine zr_dup (pc := 47) (zq_d eX10_init 22 rfl) rfl ?_
  refine zr_sz (sh2 := zq_us _ 23 (.inl (2, [0, 3, 3, 3, 3, 0, 0]))) (z2 := zq_ad G 23 + 1) rfl (by simp only [zq_ev, zq_ad, zq_prm] <;> (repeat' split) <;> omega) ?_
  refine zr_callIN (pc := 48) (host := "MiddleSpeaks") (As := []) (zq_d eX10_init 23 rfl) (s_X2_init G 23 (by decide) _ X7) zd_X2_init.1 zd_X2_init.2 rfl rfl (List.mem_of_getElem? (i := 1) rfl) rfl rfl (Nat.le_of_ble_eq_true rfl) (Nat.le_of_ble_eq_true rfl) (Nat.le_of_ble_eq_true rfl) ⟨(Nat.le_of_ble_eq_true rfl), (Nat.le_of_ble_eq_true rfl)⟩ (fun X8 _ => ?_)
  refine zr_putC (pc := 51) (ks := [5, 15, 0, 25, 0, 26, 0, 3, 3, 3, 3, 3, 3, 3, 3, 3]) (j := 23) (zq_d eX10_init 24 rfl) zf_RX10_32 rfl rfl zn_10_7 rfl (fun q h => by cases h; rfl) rfl rfl ?_
  refine zr_aload_n (pc := 54) (zq_d eX10_init 25 rfl) 0 rfl rfl ?_
  refine zr_new (pc := 55) (c := 28) (ks := [2, 0, 0, 2]) (zq_d eX10_init 26 rfl) (q := (RX3, TX3, 4)) rfl (zq_m1 149 rfl rfl) (zq_m1 150 rfl rfl) (zq_m1 4 rfl rfl) (zw_3 G) (by simp only [zq_ev, zq_ad, zq_prm] <;> (repeat' split) <;> omega) (Nat.le_of_ble_eq_true rfl) (Nat.le_of_ble_eq_true rfl) (fun X9 => ?_)
  refine zr_dup (pc := 58) (zq_d eX10_init 27 rfl) rfl ?_
  refine zr_sz (sh2 := zq_us _ 28 (.inl (3, [2, 0, 0, 2]))) (z2 := zq_ad G 28 + 1) rfl (by simp only [zq_ev, zq_ad, zq_prm] <;> (repeat' split) <;> omega) ?_
  refine zr_callIN (pc := 59) (host := "MiddleSpeaks") (As := []) (zq_d eX10_init 28 rfl) (s_X3_init G _ X9) zd_X3_init.1 zd_X3_init.2 rfl rfl (List.mem_of_getElem? (i := 2) rfl) rfl rfl (Nat.le_of_ble_eq_true rfl) (Nat.le_of_ble_eq_true rfl) (Nat.le_of_ble_eq_true rfl) ⟨(Nat.le_of_ble_eq_true rfl), (Nat.le_of_ble_eq_true rfl)⟩ (fun X10 _ => ?_)
  refine zr_putC (pc := 62) (ks := [5, 15, 0, 25, 0, 26, 0, 27, 3, 3, 3, 3, 3, 3, 3, 3]) (j := 28) (zq_d eX10_init 29 rfl) zf_RX10_39 rfl rfl zn_10_8 rfl (fun q h => by cases h; rfl) rfl rfl ?_
  refine zr_aload_n (pc := 65) (zq_d eX10_init 30 rfl) 0 rfl rfl ?_
  refine zr_new (pc := 66) (c := 35) (ks := [3, 2, 3, 3, 3, 3, 3]) (zq_d eX10_init 31 rfl) (q := (RX6, TX6, 7)) rfl (zq_m1 170 rfl rfl) (zq_m1 171 rfl rfl) (zq_m1 5 rfl rfl) (zw_6 G) (by simp only [zq_ev, zq_ad, zq_prm] <;> (repeat' split) <;> omega) (Nat.le_of_ble_eq_true rfl) (Nat.le_of_ble_eq_true rfl) (fun X11 => ?_)
  refine zr_dup (pc := 69) (zq_d eX10_init 32 rfl) rfl ?_
  refine zr_aload_n (pc := 70) (zq_d eX10_init 33 rfl) 0 rfl rfl ?_
  refine zr_getC (pc := 71) (zq_d eX10_init 34 rfl) zf_RX10_12 rfl ?_
  refine zr_aload_n (pc := 74) (zq_d eX10_init 35 rfl) 0 rfl rfl ?_
  refine zr_getC (pc := 75) (zq_d eX10_init 36 rfl) zf_RX10_32 rfl ?_
  refine zr_sz (sh2 := zq_us _ 35 (.inl (6, [3, 2, 3, 3, 3, 3, 3]))) (z2 := zq_ad G 35 + 1) rfl (by simp only [zq_ev, zq_ad, zq_prm] <;> (repeat' split) <;> omega) ?_
  refine zr_callI (pc := 78) (As := [_, _]) (zq_d eX10_init 37 rfl) (s_X6_init G _ X11) zd_X6_init.1 zd_X6_init.2 rfl rfl zl_RX10_45 rfl rfl (Nat.le_of_ble_eq_true rfl) (Nat.le_of_ble_eq_true rfl) (Nat.le_of_ble_eq_true rfl) ⟨(Nat.le_of_ble_eq_true rfl), (Nat.le_of_ble_eq_true rfl)⟩ (fun X12 _ => ?_)
  refine zr_putC (pc := 81) (ks := [5, 15, 0, 25, 0, 26, 0, 27, 32, 3, 3, 3, 3, 3, 3, 3]) (j := 35) (zq_d eX10_init 38 rfl) zf_RX10_48 rfl rfl zn_10_9 rfl (fun q h => by cases h; rfl) rfl rfl ?_
  refine zr_aload_n (pc := 84) (zq_d eX10_init 39 rfl) 0 rfl rfl ?_
  refine zr_new (pc := 85) (c := 41) (ks := [3, 3, 3, 3, 0, 0, 0, 0]) (zq_d eX10_init 40 rfl) (q := (RX9, TX9, 8)) rfl (zq_m1 202 rfl rfl) (zq_m1 203 rfl rfl) (zq_m1 6 rfl rfl) (zw_9 G) (by simp only [zq_ev, zq_ad, zq_prm] <;> (repeat' split) <;> omega) (Nat.le_of_ble_eq_true rfl) (Nat.le_of_ble_eq_true rfl) (fun X13 => ?_)
  refine zr_dup (pc := 88) (zq_d eX10_init 41 rfl) rfl ?_
  refine zr_aload_n (pc := 89) (zq_d eX10_init 42 rfl) 0 rfl rfl ?_
  refine zr_getC (pc := 90) (zq_d eX10_init 43 rfl) zf_RX10_48 rfl ?_
  refine zr_sz (sh2 := zq_us _ 41 (.inl (9, [3, 3, 3, 3, 0, 0, 0, 0]))) (z2 := zq_ad G 41 + 1) rfl (by simp only [zq_ev, zq_ad, zq_prm] <;> (repeat' split) <;> omega) ?_
  refine zr_callI (pc := 93) (As := [_]) (zq_d eX10_init 44 rfl) (s_X9_init G _ X13) zd_X9_init.1 zd_X9_init.2 rfl rfl zl_RX10_54 rfl rfl (Nat.le_of_ble_eq_true rfl) (Nat.le_of_ble_eq_true rfl) (Nat.le_of_ble_eq_true rfl) ⟨(Nat.le_of_ble_eq_true rfl), (Nat.le_of_ble_eq_true rfl)⟩ (fun X14 _ => ?_)
  refine zr_putC (pc := 96) (ks := [5, 15, 0, 25, 0, 26, 0, 27, 32, 39, 3, 3, 3, 3, 3, 3]) (j := 41) (zq_d eX10_init 45 rfl) zf_RX10_57 rfl rfl zn_10_10 rfl (fun q h => by cases h; rfl) rfl rfl ?_
  refine zr_aload_n (pc := 99) (zq_d eX10_init 46 rfl) 0 rfl rfl ?_
  refine zr_new (pc := 100) (c := 45) (ks := [3, 3, 3, 3, 3, 3, 0]) (zq_d eX10_init 47 rfl) (q := (RX1, TX1, 7)) rfl (zq_m1 233 rfl rfl) (zq_m1 234 rfl rfl) (zq_m1 7 rfl rfl) (zw_1 G) (by simp only [zq_ev, zq_ad, zq_prm] <;> (repeat' split) <;> omega) (Nat.le_of_ble_eq_true rfl) (Nat.le_of_ble_eq_true rfl) (fun X15 => ?_)
  refine zr_dup (pc := 103) (zq_d eX10_init 48 rfl) rfl ?_
  refine zr_aload_n (pc := 104) (zq_d eX10_init 49 rfl) 0 rfl rfl ?_
  refine zr_getC (pc := 105) (zq_d eX10_init 50 rfl) zf_RX10_48 rfl ?_
  refine zr_sz (sh2 := zq_us _ 45 (.inl (1, [3, 3, 3, 3, 3, 3, 0]))) (z2 := zq_ad G 45 + 1) rfl (by simp only [zq_ev, zq_ad, zq_prm] <;> (repeat' split) <;> omega) ?_
  refine zr_callI (pc := 108) (As := [_]) (zq_d eX10_init 51 rfl) (s_X1_init G _ X15) zd_X1_init.1 zd_X1_init.2 rfl rfl zl_RX10_63 rfl rfl (Nat.le_of_ble_eq_true rfl) (Nat.le_of_ble_eq_true rfl) (Nat.le_of_ble_eq_true rfl) ⟨(Nat.le_of_ble_eq_true rfl), (Nat.le_of_ble_eq_true rfl)⟩ (fun X16 _ => ?_)
  refine zr_putC (pc := 111) (ks := [5, 15, 0, 25, 0, 26, 0, 27, 32, 39, 45, 3, 3, 3, 3, 3]) (j := 45) (zq_d eX10_init 52 rfl) zf_RX10_64 rfl rfl zn_10_11 rfl (fun q h => by cases h; rfl) rfl rfl ?_
  refine zr_aload_n (pc := 114) (zq_d eX10_init 53 rfl) 0 rfl rfl ?_
  refine zr_new (pc := 115) (c := 51) (ks := [3]) (zq_d eX10_init 54 rfl) (q := (RX8, TX8, 1)) rfl (zq_m2 21 rfl rfl) (zq_m2 22 rfl rfl) (zq_m1 8 rfl rfl) (zw_8 G) (by simp only [zq_ev, zq_ad, zq_prm] <;> (repeat' split) <;> omega) (Nat.le_of_ble_eq_true rfl) (Nat.le_of_ble_eq_true rfl) (fun X17 => ?_)
  refine zr_dup (pc := 118) (zq_d eX10_init 55 rfl) rfl ?_
  refine zr_aload_n (pc := 119) (zq_d eX10_init 56 rfl) 0 rfl rfl ?_
  refine zr_getC (pc := 120) (zq_d eX10_init 57 rfl) zf_RX10_48 rfl ?_
  refine zr_sz (sh2 := zq_us _ 51 (.inl (8, [3]))) (z2 := zq_ad G 51 + 1) rfl (by simp only [zq_ev, zq_ad, zq_prm] <;> (repeat' split) <;> omega) ?_
  refine zr_callI (pc := 123) (As := [_]) (zq_d eX10_init 58 rfl) (s_X8_init G _ X17) zd_X8_init.1 zd_X8_init.2 rfl rfl zl_RX10_70 rfl rfl (Nat.le_of_ble_eq_true rfl) (Nat.le_of_ble_eq_true rfl) (Nat.le_of_ble_eq_true rfl) ⟨(Nat.le_of_ble_eq_true rfl), (Nat.le_of_ble_eq_true rfl)⟩ (fun X18 _ => ?_)
  refine zr_putC (pc := 126) (ks := [5, 15, 0, 25, 0, 26, 0, 27, 32, 39, 45, 49, 3, 3, 3, 3]) (j := 51) (zq_d eX10_init 59 rfl) zf_RX10_71 rfl rfl zn_10_12 rfl (fun q h => by cases h; rfl) rfl rfl ?_
  refine zr_aload_n (pc := 129) (zq_d eX10_init 60 rfl) 0 rfl rfl ?_
  refine zr_new (pc := 130) (c := 52) (ks := [3, 3]) (zq_d eX10_init 61 rfl) (q := (RX4, TX4, 2)) rfl (zq_m2 31 rfl rfl) (zq_m2 32 rfl rfl) (zq_m1 9 rfl rfl) (zw_4 G) (by simp only [zq_ev, zq_ad, zq_prm] <;> (repeat' split) <;> omega) (Nat.le_of_ble_eq_true rfl) (Nat.le_of_ble_eq_true rfl) (fun X19 => ?_)
  refine zr_dup (pc := 133) (zq_d eX10_init 62 rfl) rfl ?_
  refine zr_aload_n (pc := 134) (zq_d eX10_init 63 rfl) 0 rfl rfl ?_
  refine zr_getC (pc := 135) (zq_d eX10_init 64 rfl) zf_RX10_12 rfl ?_
  refine zr_sz (sh2 := zq_us _ 52 (.inl (4, [3, 3]))) (z2 := zq_ad G 52 + 1) rfl (by simp only [zq_ev, zq_ad, zq_prm] <;> (repeat' split) <;> omega) ?_
  refine zr_callI (pc := 138) (As := [_]) (zq_d eX10_init 65 rfl) (s_X4_init G _ X19) zd_X4_init.1 zd_X4_init.2 rfl rfl zl_RX10_77 rfl rfl (Nat.le_of_ble_eq_true rfl) (Nat.le_of_ble_eq_true rfl) (Nat.le_of_ble_eq_true rfl) ⟨(Nat.le_of_ble_eq_true rfl), (Nat.le_of_ble_eq_true rfl)⟩ (fun X20 _ => ?_)
  refine zr_putC (pc := 141) (ks := [5, 15, 0, 25, 0, 26, 0, 27, 32, 39, 45, 49, 55, 3, 3, 3]) (j := 52) (zq_d eX10_init 66 rfl) zf_RX10_80 rfl rfl zn_10_13 rfl (fun q h => by cases h; rfl) rfl rfl ?_
  refine zr_aload_n (pc := 144) (zq_d eX10_init 67 rfl) 0 rfl rfl ?_
  refine zr_new (pc := 145) (c := 54) (ks := [3, 0, 0, 0, 0]) (zq_d eX10_init 68 rfl) (q := (RX0, TX0, 5)) rfl (zq_m2 44 rfl rfl) (zq_m2 45 rfl rfl) (zq_m1 10 rfl rfl) (zw_0 G) (by simp only [zq_ev, zq_ad, zq_prm] <;> (repeat' split) <;> omega) (Nat.le_of_ble_eq_true rfl) (Nat.le_of_ble_eq_true rfl) (fun X21 => ?_)
  refine zr_dup (pc := 148) (zq_d eX10_init 69 rfl) rfl ?_
  refine zr_sz (sh2 := zq_us _ 54 (.inl (0, [3, 0, 0, 0, 0]))) (z2 := zq_ad G 54 + 1) rfl (by simp only [zq_ev, zq_ad, zq_prm] <;> (repeat' split) <;> omega) ?_
  refine zr_callIN (pc := 149) (host := "MiddleSpeaks") (As := []) (zq_d eX10_init 70 rfl) (s_X0_init G _ X21) zd_X0_init.1 zd_X0_init.2 rfl rfl (List.mem_of_getElem? (i := 4) rfl) rfl rfl (Nat.le_of_ble_eq_true rfl) (Nat.le_of_ble_eq_true rfl) (Nat.le_of_ble_eq_true rfl) ⟨(Nat.le_of_ble_eq_true rfl), (Nat.le_of_ble_eq_true rfl)⟩ (fun X22 _ => ?_)
  refine zr_putC (pc := 152) (ks := [5, 15, 0, 25, 0, 26, 0, 27, 32, 39, 45, 49, 55, 56, 3, 3]) (j := 54) (zq_d eX10_init 71 rfl) zf_RX10_87 rfl rfl zn_10_14 rfl (fun q h => by cases h; rfl) rfl rfl ?_
  refine zr_aload_n (pc := 155) (zq_d eX10_init 72 rfl) 0 rfl rfl ?_
  refine zr_bipush (pc := 156) (zq_d eX10_init 73 rfl) zc_b6 ?_
  refine zr_newq (pc := 158) (c := 56) (kd := 4) (N1 := 6) (C0 := "MiddleSpeaks$Tape") (zq_d eX10_init 74 rfl) (zq_m2 67 rfl rfl) (Or.inr ⟨rfl, rfl⟩) (by decide) (by decide) (by decide) (by simp only [zq_ev, zq_ad, zq_prm] <;> (repeat' split) <;> omega) (Nat.le_of_ble_eq_true rfl) (Nat.le_of_ble_eq_true rfl) (fun X23 => ?_)
  refine zr_putC (pc := 161) (ks := [5, 15, 0, 25, 0, 26, 0, 27, 32, 39, 45, 49, 55, 56, 58, 3]) (j := 56) (zq_d eX10_init 75 rfl) zf_RX10_93 rfl rfl zn_10_15 rfl (fun q h => by cases h; rfl) rfl rfl ?_
  refine zr_iconst (pc := 164) (zq_d eX10_init 76 rfl) zc_i0 ?_
  refine zr_istore_n (pc := 165) (lo2 := [(1, .int (0 : Int32)), (0, .ref (zq_ad G 0))]) (zq_d eX10_init 77 rfl) rfl (Nat.le_of_ble_eq_true rfl) rfl ?_
  refine zr_iload_n (pc := 166) (zq_d eX10_init 78 rfl) 0 rfl rfl ?_
  refine zr_bipush (pc := 167) (zq_d eX10_init 79 rfl) zc_b6 ?_
  refine zr_icmpf_ge (pc := 169) 191 (zq_d eX10_init 80 rfl) (by decide) (by decide) ?_
  refine zr_aload_n (pc := 172) (zq_d eX10_init 81 rfl) 1 rfl rfl ?_
  refine zr_getC (pc := 173) (zq_d eX10_init 82 rfl) zf_RX10_93 rfl ?_
  refine zr_iload_n (pc := 176) (zq_d eX10_init 83 rfl) 0 rfl rfl ?_
  refine zr_new (pc := 177) (c := 57) (ks := [0, 0, 3]) (zq_d eX10_init 84 rfl) (q := (RX7, TX7, 3)) rfl (zq_m2 67 rfl rfl) (zq_m2 69 rfl rfl) (zq_m1 11 rfl rfl) (zw_7 G) (by simp only [zq_ev, zq_ad, zq_prm] <;> (repeat' split) <;> omega) (Nat.le_of_ble_eq_true rfl) (Nat.le_of_ble_eq_true rfl) (fun X24 => ?_)
  refine zr_dup (pc := 180) (zq_d eX10_init 85 rfl) rfl ?_
  refine zr_sz (sh2 := zq_us _ 57 (.inl (7, [0, 0, 3]))) (z2 := zq_ad G 57 + 1) rfl (by simp only [zq_ev, zq_ad, zq_prm] <;> (repeat' split) <;> omega) ?_
  refine zr_callIN (pc := 181) (host := "MiddleSpeaks") (As := []) (zq_d eX10_init 86 rfl) (s_X7_init G 57 (by decide) _ X24) zd_X7_init.1 zd_X7_init.2 rfl rfl (List.mem_of_getElem? (i := 5) rfl) rfl rfl (Nat.le_of_ble_eq_true rfl) (Nat.le_of_ble_eq_true rfl) (Nat.le_of_ble_eq_true rfl) ⟨(Nat.le_of_ble_eq_true rfl), (Nat.le_of_ble_eq_true rfl)⟩ (fun X25 _ => ?_)
  refine zr_aast (pc := 184) (kd := 4) (ci := 7) (zq_d eX10_init 87 rfl) rfl (fun _ _ _ => rfl) rfl rfl rfl (fun X26 => ?_)
  refine zr_iinc (pc := 185) (j := 0) (v := (1 : Int32)) (lo2 := [(1, .int (1 : Int32)), (0, .ref (zq_ad G 0))]) (zq_d eX10_init 88 rfl) rfl (by decide) (Nat.le_of_ble_eq_true rfl) rfl ?_
  refine zr_goto (pc := 188) 166 (zq_d eX10_init 89 rfl) (by decide) ?_
  refine zr_iload_n (pc := 166) (zq_d eX10_init 78 rfl) 0 rfl rfl ?_
  refine zr_bipush (pc := 167) (zq_d eX10_init 79 rfl) zc_b6 ?_
  refine zr_icmpf_ge (pc := 169) 191 (zq_d eX10_init 80 rfl) (by decide) (by decide) ?_
  refine zr_aload_n (pc := 172) (zq_d eX10_init 81 rfl) 1 rfl rfl ?_
  refine zr_getC (pc := 173) (zq_d eX10_init 82 rfl) zf_RX10_93 rfl ?_
  refine zr_iload_n (pc := 176) (zq_d eX10_init 83 rfl) 0 rfl rfl ?_
  refine zr_new (pc := 177) (c := 59) (ks := [0, 0, 3]) (zq_d eX10_init 84 rfl) (q := (RX7, TX7, 3)) rfl (zq_m2 67 rfl rfl) (zq_m2 69 rfl rfl) (zq_m1 11 rfl rfl) (zw_7 G) (by simp only [zq_ev, zq_ad, zq_prm] <;> (repeat' split) <;> omega) (Nat.le_of_ble_eq_true rfl) (Nat.le_of_ble_eq_true rfl) (fun X27 => ?_)
  refine zr_dup (pc := 180) (zq_d eX10_init 85 rfl) rfl ?_
  refine zr_sz (sh2 := zq_us _ 59 (.inl (7, [0, 0, 3]))) (z2 := zq_ad G 59 + 1) rfl (by simp only [zq_ev, zq_ad, zq_prm] <;> (repeat' split) <;> omega) ?_
  refine zr_callIN (pc := 181) (host := "MiddleSpeaks") (As := []) (zq_d eX10_init 86 rfl) (s_X7_init G 59 (by decide) _ X27) zd_X7_init.1 zd_X7_init.2 rfl rfl (List.mem_of_getElem? (i := 5) rfl) rfl rfl (Nat.le_of_ble_eq_true rfl) (Nat.le_of_ble_eq_true rfl) (Nat.le_of_ble_eq_true rfl) ⟨(Nat.le_of_ble_eq_true rfl), (Nat.le_of_ble_eq_true rfl)⟩ (fun X28 _ => ?_)
  refine zr_aast (pc := 184) (kd := 4) (ci := 7) (zq_d eX10_init 87 rfl) rfl (fun _ _ _ => rfl) rfl rfl rfl (fun X29 => ?_)
  refine zr_iinc (pc := 185) (j := 0) (v := (2 : Int32)) (lo2 := [(1, .int (2 : Int32)), (0, .ref (zq_ad G 0))]) (zq_d eX10_init 88 rfl) rfl (by decide) (Nat.le_of_ble_eq_true rfl) rfl ?_
  refine zr_goto (pc := 188) 166 (zq_d eX10_init 89 rfl) (by decide) ?_
  refine zr_iload_n (pc := 166) (zq_d eX10_init 78 rfl) 0 rfl rfl ?_
  refine zr_bipush (pc := 167) (zq_d eX10_init 79 rfl) zc_b6 ?_
  refine zr_icmpf_ge (pc := 169) 191 (zq_d eX10_init 80 rfl) (by decide) (by decide) ?_
  refine zr_aload_n (pc := 172) (zq_d eX10_init 81 rfl) 1 rfl rfl ?_
  refine zr_getC (pc := 173) (zq_d eX10_init 82 rfl) zf_RX10_93 rfl ?_
  refine zr_iload_n (pc := 176) (zq_d eX10_init 83 rfl) 0 rfl rfl ?_
  refine zr_new (pc := 177) (c := 61) (ks := [0, 0, 3]) (zq_d eX10_init 84 rfl) (q := (RX7, TX7, 3)) rfl (zq_m2 67 rfl rfl) (zq_m2 69 rfl rfl) (zq_m1 11 rfl rfl) (zw_7 G) (by simp only [zq_ev, zq_ad, zq_prm] <;> (repeat' split) <;> omega) (Nat.le_of_ble_eq_true rfl) (Nat.le_of_ble_eq_true rfl) (fun X30 => ?_)
  refine zr_dup (pc := 180) (zq_d eX10_init 85 rfl) rfl ?_
  refine zr_sz (sh2 := zq_us _ 61 (.inl (7, [0, 0, 3]))) (z2 := zq_ad G 61 + 1) rfl (by simp only [zq_ev, zq_ad, zq_prm] <;> (repeat' split) <;> omega) ?_
  refine zr_callIN (pc := 181) (host := "MiddleSpeaks") (As := []) (zq_d eX10_init 86 rfl) (s_X7_init G 61 (by decide) _ X30) zd_X7_init.1 zd_X7_init.2 rfl rfl (List.mem_of_getElem? (i := 5) rfl) rfl rfl (Nat.le_of_ble_eq_true rfl) (Nat.le_of_ble_eq_true rfl) (Nat.le_of_ble_eq_true rfl) ⟨(Nat.le_of_ble_eq_true rfl), (Nat.le_of_ble_eq_true rfl)⟩ (fun X31 _ => ?_)
  refine zr_aast (pc := 184) (kd := 4) (ci := 7) (zq_d eX10_init 87 rfl) rfl (fun _ _ _ => rfl) rfl rfl rfl (fun X32 => ?_)
  refine zr_iinc (pc := 185) (j := 0) (v := (3 : Int32)) (lo2 := [(1, .int (3 : Int32)), (0, .ref (zq_ad G 0))]) (zq_d eX10_init 88 rfl) rfl (by decide) (Nat.le_of_ble_eq_true rfl) rfl ?_
  refine zr_goto (pc := 188) 166 (zq_d eX10_init 89 rfl) (by decide) ?_
  refine zr_iload_n (pc := 166) (zq_d eX10_init 78 rfl) 0 rfl rfl ?_
  refine zr_bipush (pc := 167) (zq_d eX10_init 79 rfl) zc_b6 ?_
  refine zr_icmpf_ge (pc := 169) 191 (zq_d eX10_init 80 rfl) (by decide) (by decide) ?_
  refine zr_aload_n (pc := 172) (zq_d eX10_init 81 rfl) 1 rfl rfl ?_
  refine zr_getC (pc := 173) (zq_d eX10_init 82 rfl) zf_RX10_93 rfl ?_
  refine zr_iload_n (pc := 176) (zq_d eX10_init 83 rfl) 0 rfl rfl ?_
  refine zr_new (pc := 177) (c := 63) (ks := [0, 0, 3]) (zq_d eX10_init 84 rfl) (q := (RX7, TX7, 3)) rfl (zq_m2 67 rfl rfl) (zq_m2 69 rfl rfl) (zq_m1 11 rfl rfl) (zw_7 G) (by simp only [zq_ev, zq_ad, zq_prm] <;> (repeat' split) <;> omega) (Nat.le_of_ble_eq_true rfl) (Nat.le_of_ble_eq_true rfl) (fun X33 => ?_)
  refine zr_dup (pc := 180) (zq_d eX10_init 85 rfl) rfl ?_
  refine zr_sz (sh2 := zq_us _ 63 (.inl (7, [0, 0, 3]))) (z2 := zq_ad G 63 + 1) rfl (by simp only [zq_ev, zq_ad, zq_prm] <;> (repeat' split) <;> omega) ?_
  refine zr_callIN (pc := 181) (host := "MiddleSpeaks") (As := []) (zq_d eX10_init 86 rfl) (s_X7_init G 63 (by decide) _ X33) zd_X7_init.1 zd_X7_init.2 rfl rfl (List.mem_of_getElem? (i := 5) rfl) rfl rfl (Nat.le_of_ble_eq_true rfl) (Nat.le_of_ble_eq_true rfl) (Nat.le_of_ble_eq_true rfl) ⟨(Nat.le_of_ble_eq_true rfl), (Nat.le_of_ble_eq_true rfl)⟩ (fun X34 _ => ?_)
  refine zr_aast (pc := 184) (kd := 4) (ci := 7) (zq_d eX10_init 87 rfl) rfl (fun _ _ _ => rfl) rfl rfl rfl (fun X35 => ?_)
  refine zr_iinc (pc := 185) (j := 0) (v := (4 : Int32)) (lo2 := [(1, .int (4 : Int32)), (0, .ref (zq_ad G 0))]) (zq_d eX10_init 88 rfl) rfl (by decide) (Nat.le_of_ble_eq_true rfl) rfl ?_
  refine zr_goto (pc := 188) 166 (zq_d eX10_init 89 rfl) (by decide) ?_
  refine zr_iload_n (pc := 166) (zq_d eX10_init 78 rfl) 0 rfl rfl ?_
  refine zr_bipush (pc := 167) (zq_d eX10_init 79 rfl) zc_b6 ?_
  refine zr_icmpf_ge (pc := 169) 191 (zq_d eX10_init 80 rfl) (by decide) (by decide) ?_
  refine zr_aload_n (pc := 172) (zq_d eX10_init 81 rfl) 1 rfl rfl ?_
  refine zr_getC (pc := 173) (zq_d eX10_init 82 rfl) zf_RX10_93 rfl ?_
  refine zr_iload_n (pc := 176) (zq_d eX10_init 83 rfl) 0 rfl rfl ?_
  refine zr_new (pc := 177) (c := 65) (ks := [0, 0, 3]) (zq_d eX10_init 84 rfl) (q := (RX7, TX7, 3)) rfl (zq_m2 67 rfl rfl) (zq_m2 69 rfl rfl) (zq_m1 11 rfl rfl) (zw_7 G) (by simp only [zq_ev, zq_ad, zq_prm] <;> (repeat' split) <;> omega) (Nat.le_of_ble_eq_true rfl) (Nat.le_of_ble_eq_true rfl) (fun X36 => ?_)
  refine zr_dup (pc := 180) (zq_d eX10_init 85 rfl) rfl ?_
  refine zr_sz (sh2 := zq_us _ 65 (.inl (7, [0, 0, 3]))) (z2 := zq_ad G 65 + 1) rfl (by simp only [zq_ev, zq_ad, zq_prm] <;> (repeat' split) <;> omega) ?_
  refine zr_callIN (pc := 181) (host := "MiddleSpeaks") (As := []) (zq_d eX10_init 86 rfl) (s_X7_init G 65 (by decide) _ X36) zd_X7_init.1 zd_X7_init.2 rfl rfl (List.mem_of_getElem? (i := 5) rfl) rfl rfl (Nat.le_of_ble_eq_true rfl) (Nat.le_of_ble_eq_true rfl) (Nat.le_of_ble_eq_true rfl) ⟨(Nat.le_of_ble_eq_true rfl), (Nat.le_of_ble_eq_true rfl)⟩ (fun X37 _ => ?_)
  refine zr_aast (pc := 184) (kd := 4) (ci := 7) (zq_d eX10_init 87 rfl) rfl (fun _ _ _ => rfl) rfl rfl rfl (fun X38 => ?_)
  refine zr_iinc (pc := 185) (j := 0) (v := (5 : Int32)) (lo2 := [(1, .int (5 : Int32)), (0, .ref (zq_ad G 0))]) (zq_d eX10_init 88 rfl) rfl (by decide) (Nat.le_of_ble_eq_true rfl) rfl ?_
  refine zr_goto (pc := 188) 166 (zq_d eX10_init 89 rfl) (by decide) ?_
  refine zr_iload_n (pc := 166) (zq_d eX10_init 78 rfl) 0 rfl rfl ?_
  refine zr_bipush (pc := 167) (zq_d eX10_init 79 rfl) zc_b6 ?_
  refine zr_icmpf_ge (pc := 169) 191 (zq_d eX10_init 80 rfl) (by decide) (by decide) ?_
  refine zr_aload_n (pc := 172) (zq_d eX10_init 81 rfl) 1 rfl rfl ?_
  refine zr_getC (pc := 173) (zq_d eX10_init 82 rfl) zf_RX10_93 rfl ?_
  refine zr_iload_n (pc := 176) (zq_d eX10_init 83 rfl) 0 rfl rfl ?_
  refine zr_new (pc := 177) (c := 67) (ks := [0, 0, 3]) (zq_d eX10_init 84 rfl) (q := (RX7, TX7, 3)) rfl (zq_m2 67 rfl rfl) (zq_m2 69 rfl rfl) (zq_m1 11 rfl rfl) (zw_7 G) (by simp only [zq_ev, zq_ad, zq_prm] <;> (repeat' split) <;> omega) (Nat.le_of_ble_eq_true rfl) (Nat.le_of_ble_eq_true rfl) (fun X39 => ?_)
  refine zr_dup (pc := 180) (zq_d eX10_init 85 rfl) rfl ?_
  refine zr_sz (sh2 := zq_us _ 67 (.inl (7, [0, 0, 3]))) (z2 := zq_ad G 67 + 1) rfl (by simp only [zq_ev, zq_ad, zq_prm] <;> (repeat' split) <;> omega) ?_
  refine zr_callIN (pc := 181) (host := "MiddleSpeaks") (As := []) (zq_d eX10_init 86 rfl) (s_X7_init G 67 (by decide) _ X39) zd_X7_init.1 zd_X7_init.2 rfl rfl (List.mem_of_getElem? (i := 5) rfl) rfl rfl (Nat.le_of_ble_eq_true rfl) (Nat.le_of_ble_eq_true rfl) (Nat.le_of_ble_eq_true rfl) ⟨(Nat.le_of_ble_eq_true rfl), (Nat.le_of_ble_eq_true rfl)⟩ (fun X40 _ => ?_)
  refine zr_aast (pc := 184) (kd := 4) (ci := 7) (zq_d eX10_init 87 rfl) rfl (fun _ _ _ => rfl) rfl rfl rfl (fun X41 => ?_)
  refine zr_iinc (pc := 185) (j := 0) (v := (6 : Int32)) (lo2 := [(1, .int (6 : Int32)), (0, .ref (zq_ad G 0))]) (zq_d eX10_init 88 rfl) rfl (by decide) (Nat.le_of_ble_eq_true rfl) rfl ?_
  refine zr_goto (pc := 188) 166 (zq_d eX10_init 89 rfl) (by decide) ?_
  refine zr_iload_n (pc := 166) (zq_d eX10_init 78 rfl) 0 rfl rfl ?_
  refine zr_bipush (pc := 167) (zq_d eX10_init 79 rfl) zc_b6 ?_
  refine zr_icmpt_ge (pc := 169) 191 (zq_d eX10_init 80 rfl) (by decide) (by decide) ?_
  refine zr_iconst (pc := 191) (zq_d eX10_init 90 rfl) zc_i0 ?_
  refine zr_istore_n (pc := 192) (lo2 := [(1, .int (0 : Int32)), (0, .ref (zq_ad G 0))]) (zq_d eX10_init 91 rfl) rfl (Nat.le_of_ble_eq_true rfl) rfl ?_
  refine zr_iload_n (pc := 193) (zq_d eX10_init 92 rfl) 0 rfl rfl ?_
  refine zr_bipush (pc := 194) (zq_d eX10_init 93 rfl) zc_b6 ?_
  refine zr_icmpf_ge (pc := 196) 218 (zq_d eX10_init 94 rfl) (by decide) (by decide) ?_
  refine zr_aload_n (pc := 199) (zq_d eX10_init 95 rfl) 1 rfl rfl ?_
  refine zr_getC (pc := 200) (zq_d eX10_init 96 rfl) zf_RX10_27 rfl ?_
  refine zr_iload_n (pc := 203) (zq_d eX10_init 97 rfl) 0 rfl rfl ?_
  refine zr_new (pc := 204) (c := 111) (ks := [0, 3, 3, 3, 3, 0, 0]) (zq_d eX10_init 98 rfl) (q := (RX2, TX2, 7)) rfl (zq_m1 118 rfl rfl) (zq_m1 120 rfl rfl) (zq_m1 3 rfl rfl) (zw_2 G) (by simp only [zq_ev, zq_ad, zq_prm] <;> (repeat' split) <;> omega) (Nat.le_of_ble_eq_true rfl) (Nat.le_of_ble_eq_true rfl) (fun X42 => ?_)
  refine zr_dup (pc := 207) (zq_d eX10_init 99 rfl) rfl ?_
  refine zr_sz (sh2 := zq_us _ 111 (.inl (2, [0, 3, 3, 3, 3, 0, 0]))) (z2 := zq_ad G 111 + 1) rfl (by simp only [zq_ev, zq_ad, zq_prm] <;> (repeat' split) <;> omega) ?_
  refine zr_callIN (pc := 208) (host := "MiddleSpeaks") (As := []) (zq_d eX10_init 100 rfl) (s_X2_init G 111 (by decide) _ X42) zd_X2_init.1 zd_X2_init.2 rfl rfl (List.mem_of_getElem? (i := 1) rfl) rfl rfl (Nat.le_of_ble_eq_true rfl) (Nat.le_of_ble_eq_true rfl) (Nat.le_of_ble_eq_true rfl) ⟨(Nat.le_of_ble_eq_true rfl), (Nat.le_of_ble_eq_true rfl)⟩ (fun X43 _ => ?_)
  refine zr_aast (pc := 211) (kd := 3) (ci := 2) (zq_d eX10_init 101 rfl) rfl (fun _ _ _ => rfl) rfl rfl rfl (fun X44 => ?_)
  refine zr_iinc (pc := 212) (j := 0) (v := (1 : Int32)) (lo2 := [(1, .int (1 : Int32)), (0, .ref (zq_ad G 0))]) (zq_d eX10_init 102 rfl) rfl (by decide) (Nat.le_of_ble_eq_true rfl) rfl ?_
  refine zr_goto (pc := 215) 193 (zq_d eX10_init 103 rfl) (by decide) ?_
  refine zr_iload_n (pc := 193) (zq_d eX10_init 92 rfl) 0 rfl rfl ?_
  refine zr_bipush (pc := 194) (zq_d eX10_init 93 rfl) zc_b6 ?_
  refine zr_icmpf_ge (pc := 196) 218 (zq_d eX10_init 94 rfl) (by decide) (by decide) ?_
  refine zr_aload_n (pc := 199) (zq_d eX10_init 95 rfl) 1 rfl rfl ?_
  refine zr_getC (pc := 200) (zq_d eX10_init 96 rfl) zf_RX10_27 rfl ?_
  refine zr_iload_n (pc := 203) (zq_d eX10_init 97 rfl) 0 rfl rfl ?_
  refine zr_new (pc := 204) (c := 116) (ks := [0, 3, 3, 3, 3, 0, 0]) (zq_d eX10_init 98 rfl) (q := (RX2, TX2, 7)) rfl (zq_m1 118 rfl rfl) (zq_m1 120 rfl rfl) (zq_m1 3 rfl rfl) (zw_2 G) (by simp only [zq_ev, zq_ad, zq_prm] <;> (repeat' split) <;> omega) (Nat.le_of_ble_eq_true rfl) (Nat.le_of_ble_eq_true rfl) (fun X45 => ?_)
  refine zr_dup (pc := 207) (zq_d eX10_init 99 rfl) rfl ?_
  refine zr_sz (sh2 := zq_us _ 116 (.inl (2, [0, 3, 3, 3, 3, 0, 0]))) (z2 := zq_ad G 116 + 1) rfl (by simp only [zq_ev, zq_ad, zq_prm] <;> (repeat' split) <;> omega) ?_
  refine zr_callIN (pc := 208) (host := "MiddleSpeaks") (As := []) (zq_d eX10_init 100 rfl) (s_X2_init G 116 (by decide) _ X45) zd_X2_init.1 zd_X2_init.2 rfl rfl (List.mem_of_getElem? (i := 1) rfl) rfl rfl (Nat.le_of_ble_eq_true rfl) (Nat.le_of_ble_eq_true rfl) (Nat.le_of_ble_eq_true rfl) ⟨(Nat.le_of_ble_eq_true rfl), (Nat.le_of_ble_eq_true rfl)⟩ (fun X46 _ => ?_)
  refine zr_aast (pc := 211) (kd := 3) (ci := 2) (zq_d eX10_init 101 rfl) rfl (fun _ _ _ => rfl) rfl rfl rfl (fun X47 => ?_)
  refine zr_iinc (pc := 212) (j := 0) (v := (2 : Int32)) (lo2 := [(1, .int (2 : Int32)), (0, .ref (zq_ad G 0))]) (zq_d eX10_init 102 rfl) rfl (by decide) (Nat.le_of_ble_eq_true rfl) rfl ?_
  refine zr_goto (pc := 215) 193 (zq_d eX10_init 103 rfl) (by decide) ?_
  refine zr_iload_n (pc := 193) (zq_d eX10_init 92 rfl) 0 rfl rfl ?_
  refine zr_bipush (pc := 194) (zq_d eX10_init 93 rfl) zc_b6 ?_
  refine zr_icmpf_ge (pc := 196) 218 (zq_d eX10_init 94 rfl) (by decide) (by decide) ?_
  refine zr_aload_n (pc := 199) (zq_d eX10_init 95 rfl) 1 rfl rfl ?_
  refine zr_getC (pc := 200) (zq_d eX10_init 96 rfl) zf_RX10_27 rfl ?_
  refine zr_iload_n (pc := 203) (zq_d eX10_init 97 rfl) 0 rfl rfl ?_
  refine zr_new (pc := 204) (c := 121) (ks := [0, 3, 3, 3, 3, 0, 0]) (zq_d eX10_init 98 rfl) (q := (RX2, TX2, 7)) rfl (zq_m1 118 rfl rfl) (zq_m1 120 rfl rfl) (zq_m1 3 rfl rfl) (zw_2 G) (by simp only [zq_ev, zq_ad, zq_prm] <;> (repeat' split) <;> omega) (Nat.le_of_ble_eq_true rfl) (Nat.le_of_ble_eq_true rfl) (fun X48 => ?_)
  refine zr_dup (pc := 207) (zq_d eX10_init 99 rfl) rfl ?_
  refine zr_sz (sh2 := zq_us _ 121 (.inl (2, [0, 3, 3, 3, 3, 0, 0]))) (z2 := zq_ad G 121 + 1) rfl (by simp only [zq_ev, zq_ad, zq_prm] <;> (repeat' split) <;> omega) ?_
  refine zr_callIN (pc := 208) (host := "MiddleSpeaks") (As := []) (zq_d eX10_init 100 rfl) (s_X2_init G 121 (by decide) _ X48) zd_X2_init.1 zd_X2_init.2 rfl rfl (List.mem_of_getElem? (i := 1) rfl) rfl rfl (Nat.le_of_ble_eq_true rfl) (Nat.le_of_ble_eq_true rfl) (Nat.le_of_ble_eq_true rfl) ⟨(Nat.le_of_ble_eq_true rfl), (Nat.le_of_ble_eq_true rfl)⟩ (fun X49 _ => ?_)
  refine zr_aast (pc := 211) (kd := 3) (ci := 2) (zq_d eX10_init 101 rfl) rfl (fun _ _ _ => rfl) rfl rfl rfl (fun X50 => ?_)
  refine zr_iinc (pc := 212) (j := 0) (v := (3 : Int32)) (lo2 := [(1, .int (3 : Int32)), (0, .ref (zq_ad G 0))]) (zq_d eX10_init 102 rfl) rfl (by decide) (Nat.le_of_ble_eq_true rfl) rfl ?_
  refine zr_goto (pc := 215) 193 (zq_d eX10_init 103 rfl) (by decide) ?_
  refine zr_iload_n (pc := 193) (zq_d eX10_init 92 rfl) 0 rfl rfl ?_
  refine zr_bipush (pc := 194) (zq_d eX10_init 93 rfl) zc_b6 ?_
  refine zr_icmpf_ge (pc := 196) 218 (zq_d eX10_init 94 rfl) (by decide) (by decide) ?_
  refine zr_aload_n (pc := 199) (zq_d eX10_init 95 rfl) 1 rfl rfl ?_
  refine zr_getC (pc := 200) (zq_d eX10_init 96 rfl) zf_RX10_27 rfl ?_
  refine zr_iload_n (pc := 203) (zq_d eX10_init 97 rfl) 0 rfl rfl ?_
  refine zr_new (pc := 204) (c := 126) (ks := [0, 3, 3, 3, 3, 0, 0]) (zq_d eX10_init 98 rfl) (q := (RX2, TX2, 7)) rfl (zq_m1 118 rfl rfl) (zq_m1 120 rfl rfl) (zq_m1 3 rfl rfl) (zw_2 G) (by simp only [zq_ev, zq_ad, zq_prm] <;> (repeat' split) <;> omega) (Nat.le_of_ble_eq_true rfl) (Nat.le_of_ble_eq_true rfl) (fun X51 => ?_)
  refine zr_dup (pc := 207) (zq_d eX10_init 99 rfl) rfl ?_
  refine zr_sz (sh2 := zq_us _ 126 (.inl (2, [0, 3, 3, 3, 3, 0, 0]))) (z2 := zq_ad G 126 + 1) rfl (by simp only [zq_ev, zq_ad, zq_prm] <;> (repeat' split) <;> omega) ?_
  refine zr_callIN (pc := 208) (host := "MiddleSpeaks") (As := []) (zq_d eX10_init 100 rfl) (s_X2_init G 126 (by decide) _ X51) zd_X2_init.1 zd_X2_init.2 rfl rfl (List.mem_of_getElem? (i := 1) rfl) rfl rfl (Nat.le_of_ble_eq_true rfl) (Nat.le_of_ble_eq_true rfl) (Nat.le_of_ble_eq_true rfl) ⟨(Nat.le_of_ble_eq_true rfl), (Nat.le_of_ble_eq_true rfl)⟩ (fun X52 _ => ?_)
  refine zr_aast (pc := 211) (kd := 3) (ci := 2) (zq_d eX10_init 101 rfl) rfl (fun _ _ _ => rfl) rfl rfl rfl (fun X53 => ?_)
  refine zr_iinc (pc := 212) (j := 0) (v := (4 : Int32)) (lo2 := [(1, .int (4 : Int32)), (0, .ref (zq_ad G 0))]) (zq_d eX10_init 102 rfl) rfl (by decide) (Nat.le_of_ble_eq_true rfl) rfl ?_
  refine zr_goto (pc := 215) 193 (zq_d eX10_init 103 rfl) (by decide) ?_
  refine zr_iload_n (pc := 193) (zq_d eX10_init 92 rfl) 0 rfl rfl ?_
  refine zr_bipush (pc := 194) (zq_d eX10_init 93 rfl) zc_b6 ?_
  refine zr_icmpf_ge (pc := 196) 218 (zq_d eX10_init 94 rfl) (by decide) (by decide) ?_
  refine zr_aload_n (pc := 199) (zq_d eX10_init 95 rfl) 1 rfl rfl ?_
  refine zr_getC (pc := 200) (zq_d eX10_init 96 rfl) zf_RX10_27 rfl ?_
  refine zr_iload_n (pc := 203) (zq_d eX10_init 97 rfl) 0 rfl rfl ?_
  refine zr_new (pc := 204) (c := 131) (ks := [0, 3, 3, 3, 3, 0, 0]) (zq_d eX10_init 98 rfl) (q := (RX2, TX2, 7)) rfl (zq_m1 118 rfl rfl) (zq_m1 120 rfl rfl) (zq_m1 3 rfl rfl) (zw_2 G) (by simp only [zq_ev, zq_ad, zq_prm] <;> (repeat' split) <;> omega) (Nat.le_of_ble_eq_true rfl) (Nat.le_of_ble_eq_true rfl) (fun X54 => ?_)
  refine zr_dup (pc := 207) (zq_d eX10_init 99 rfl) rfl ?_
  refine zr_sz (sh2 := zq_us _ 131 (.inl (2, [0, 3, 3, 3, 3, 0, 0]))) (z2 := zq_ad G 131 + 1) rfl (by simp only [zq_ev, zq_ad, zq_prm] <;> (repeat' split) <;> omega) ?_
  refine zr_callIN (pc := 208) (host := "MiddleSpeaks") (As := []) (zq_d eX10_init 100 rfl) (s_X2_init G 131 (by decide) _ X54) zd_X2_init.1 zd_X2_init.2 rfl rfl (List.mem_of_getElem? (i := 1) rfl) rfl rfl (Nat.le_of_ble_eq_true rfl) (Nat.le_of_ble_eq_true rfl) (Nat.le_of_ble_eq_true rfl) ⟨(Nat.le_of_ble_eq_true rfl), (Nat.le_of_ble_eq_true rfl)⟩ (fun X55 _ => ?_)
  refine zr_aast (pc := 211) (kd := 3) (ci := 2) (zq_d eX10_init 101 rfl) rfl (fun _ _ _ => rfl) rfl rfl rfl (fun X56 => ?_)
  refine zr_iinc (pc := 212) (j := 0) (v := (5 : Int32)) (lo2 := [(1, .int (5 : Int32)), (0, .ref (zq_ad G 0))]) (zq_d eX10_init 102 rfl) rfl (by decide) (Nat.le_of_ble_eq_true rfl) rfl ?_
  refine zr_goto (pc := 215) 193 (zq_d eX10_init 103 rfl) (by decide) ?_
  refine zr_iload_n (pc := 193) (zq_d eX10_init 92 rfl) 0 rfl rfl ?_
  refine zr_bipush (pc := 194) (zq_d eX10_init 93 rfl) zc_b6 ?_
  refine zr_icmpf_ge (pc := 196) 218 (zq_d eX10_init 94 rfl) (by decide) (by decide) ?_
  refine zr_aload_n (pc := 199) (zq_d eX10_init 95 rfl) 1 rfl rfl ?_
  refine zr_getC (pc := 200) (zq_d eX10_init 96 rfl) zf_RX10_27 rfl ?_
  refine zr_iload_n (pc := 203) (zq_d eX10_init 97 rfl) 0 rfl rfl ?_
  refine zr_new (pc := 204) (c := 136) (ks := [0, 3, 3, 3, 3, 0, 0]) (zq_d eX10_init 98 rfl) (q := (RX2, TX2, 7)) rfl (zq_m1 118 rfl rfl) (zq_m1 120 rfl rfl) (zq_m1 3 rfl rfl) (zw_2 G) (by simp only [zq_ev, zq_ad, zq_prm] <;> (repeat' split) <;> omega) (Nat.le_of_ble_eq_true rfl) (Nat.le_of_ble_eq_true rfl) (fun X57 => ?_)
  refine zr_dup (pc := 207) (zq_d eX10_init 99 rfl) rfl ?_
  refine zr_sz (sh2 := zq_us _ 136 (.inl (2, [0, 3, 3, 3, 3, 0, 0]))) (z2 := zq_ad G 136 + 1) rfl (by simp only [zq_ev, zq_ad, zq_prm] <;> (repeat' split) <;> omega) ?_
  refine zr_callIN (pc := 208) (host := "MiddleSpeaks") (As := []) (zq_d eX10_init 100 rfl) (s_X2_init G 136 (by decide) _ X57) zd_X2_init.1 zd_X2_init.2 rfl rfl (List.mem_of_getElem? (i := 1) rfl) rfl rfl (Nat.le_of_ble_eq_true rfl) (Nat.le_of_ble_eq_true rfl) (Nat.le_of_ble_eq_true rfl) ⟨(Nat.le_of_ble_eq_true rfl), (Nat.le_of_ble_eq_true rfl)⟩ (fun X58 _ => ?_)
  refine zr_aast (pc := 211) (kd := 3) (ci := 2) (zq_d eX10_init 101 rfl) rfl (fun _ _ _ => rfl) rfl rfl rfl (fun X59 => ?_)
  refine zr_iinc (pc := 212) (j := 0) (v := (6 : Int32)) (lo2 := [(1, .int (6 : Int32)), (0, .ref (zq_ad G 0))]) (zq_d eX10_init 102 rfl) rfl (by decide) (Nat.le_of_ble_eq_true rfl) rfl ?_
  refine zr_goto (pc := 215) 193 (zq_d eX10_init 103 rfl) (by decide) ?_
  refine zr_iload_n (pc := 193) (zq_d eX10_init 92 rfl) 0 rfl rfl ?_
  refine zr_bipush (pc := 194) (zq_d eX10_init 93 rfl) zc_b6 ?_
  refine zr_icmpt_ge (pc := 196) 218 (zq_d eX10_init 94 rfl) (by decide) (by decide) ?_
  refine zr_sz (sh2 := (zq_shX 6)) (z2 := zq_ad G 69) ?_ (by simp only [zq_ev, zq_ad, zq_prm] <;> (repeat' split) <;> omega) ?_
  · funext d
    by_cases h1 : d < 69 ∨ 111 ≤ d ∧ d < 141
    · rcases (show d = 0 ∨ d = 1 ∨ d = 2 ∨ d = 3 ∨ d = 4 ∨ d = 5 ∨ d = 6 ∨ d = 7 ∨ d = 8 ∨ d = 9 ∨ d = 10 ∨ d = 11 ∨ d = 12 ∨ d = 13 ∨ d = 14 ∨ d = 15 ∨ d = 16 ∨ d = 17 ∨ d = 18 ∨ d = 19 ∨ d = 20 ∨ d = 21 ∨ d = 22 ∨ d = 23 ∨ d = 24 ∨ d = 25 ∨ d = 26 ∨ d = 27 ∨ d = 28 ∨ d = 29 ∨ d = 30 ∨ d = 31 ∨ d = 32 ∨ d = 33 ∨ d = 34 ∨ d = 35 ∨ d = 36 ∨ d = 37 ∨ d = 38 ∨ d = 39 ∨ d = 40 ∨ d = 41 ∨ d = 42 ∨ d = 43 ∨ d = 44 ∨ d = 45 ∨ d = 46 ∨ d = 47 ∨ d = 48 ∨ d = 49 ∨ d = 50 ∨ d = 51 ∨ d = 52 ∨ d = 53 ∨ d = 54 ∨ d = 55 ∨ d = 56 ∨ d = 57 ∨ d = 58 ∨ d = 59 ∨ d = 60 ∨ d = 61 ∨ d = 62 ∨ d = 63 ∨ d = 64 ∨ d = 65 ∨ d = 66 ∨ d = 67 ∨ d = 68 ∨ d = 111 ∨ d = 112 ∨ d = 113 ∨ d = 114 ∨ d = 115 ∨ d = 116 ∨ d = 117 ∨ d = 118 ∨ d = 119 ∨ d = 120 ∨ d = 121 ∨ d = 122 ∨ d = 123 ∨ d = 124 ∨ d = 125 ∨ d = 126 ∨ d = 127 ∨ d = 128 ∨ d = 129 ∨ d = 130 ∨ d = 131 ∨ d = 132 ∨ d = 133 ∨ d = 134 ∨ d = 135 ∨ d = 136 ∨ d = 137 ∨ d = 138 ∨ d = 139 ∨ d = 140 by omega) with rfl | rfl | rfl | rfl | rfl | rfl | rfl | rfl | rfl | rfl | rfl | rfl | rfl | rfl | rfl | rfl | rfl | rfl | rfl | rfl | rfl | rfl | rfl | rfl | rfl | rfl | rfl | rfl | rfl | rfl | rfl | rfl | rfl | rfl | rfl | rfl | rfl | rfl | rfl | rfl | rfl | rfl | rfl | rfl | rfl | rfl | rfl | rfl | rfl | rfl | rfl | rfl | rfl | rfl | rfl | rfl | rfl | rfl | rfl | rfl | rfl | rfl | rfl | rfl | rfl | rfl | rfl | rfl | rfl | rfl | rfl | rfl | rfl | rfl | rfl | rfl | rfl | rfl | rfl | rfl | rfl | rfl | rfl | rfl | rfl | rfl | rfl | rfl | rfl | rfl | rfl | rfl | rfl | rfl | rfl | rfl | rfl | rfl | rfl <;> rfl
    · simp only [zq_us, zq_ev, zq_fin_X2_init, zq_fin_X5_init, zq_fin_X7_init, zq_fin_X3_init, zq_fin_X6_init, zq_fin_X9_init, zq_fin_X1_init, zq_fin_X8_init, zq_fin_X4_init, zq_fin_X0_init]
      repeat rw [if_neg (by omega)]
      unfold zq_shX
      rw [if_neg (by omega)]
      split
      · rfl
      · rw [if_neg (by omega)]
  · exact zr_vreturn (pc := 218) (zq_d eX10_init 104 rfl) rfl rfl (Nat.le_of_ble_eq_true rfl) (Nat.le_of_ble_eq_true rfl)
