def zq_lM : List zq_S := [.inl (11, [0, 0, 0, 0, 74, 75, 76, 77, 78, 0, 0, 0, 0, 0, 0, 79, 80, 81, 82, 83, 84, 85, 86, 0, 0, 0, 87, 88, 89, 90, 91, 92, 93, 94, 95, 96, 0, 97, 98, 99, 1, 1, 0, 100, 101, 0, 0, 0, 0, 0, 0, 0, 0, 102, 103, 104, 105, 106, 107, 108, 109, 0, 110, 111, 112, 113, 114]), .inr (0, 5), .inr (0, 5), .inr (0, 5), .inr (0, 3), .inr (0, 3), .inr (0, 100), .inr (0, 6), .inr (0, 60), .inr (0, 60), .inr (0, 60), .inr (0, 60), .inr (0, 600), .inr (0, 101), .inr (0, 17), .inr (1, 100), .inr (0, 120), .inr (1, 120), .inr (1, 1024), .inr (1, 1024), .inr (0, 1024), .inr (0, 1024), .inr (1, 32768), .inr (1, 32768), .inr (0, 12), .inr (0, 12), .inr (0, 5), .inr (0, 12), .inr (0, 5), .inr (0, 5), .inr (0, 5), .inr (0, 5), .inr (0, 3), .inr (0, 3), .inr (0, 12), .inr (0, 12), .inr (0, 12), .inr (0, 20), .inr (0, 6), .inr (0, 6), .inr (2, 360), .inr (2, 60)]
def zq_lX : List zq_S := [.inl (10, [5, 15, 0, 25, 0, 26, 0, 27, 32, 39, 45, 49, 55, 56, 58, 60]), .inl (5, [0, 6, 7, 8, 9, 10, 11, 0, 0, 12, 13, 0, 14, 0, 0]), .inr (0, 5), .inr (0, 5), .inr (0, 5), .inr (0, 5), .inr (0, 3), .inr (0, 3), .inr (0, 12), .inr (0, 12), .inr (0, 12), .inl (5, [0, 16, 17, 18, 19, 20, 21, 0, 0, 22, 23, 0, 24, 0, 0]), .inr (0, 5), .inr (0, 5), .inr (0, 5), .inr (0, 5), .inr (0, 3), .inr (0, 3), .inr (0, 12), .inr (0, 12), .inr (0, 12), .inr (0, 100), .inr (3, 6), .inl (2, [0, 28, 29, 30, 31, 0, 0]), .inr (0, 10), .inr (0, 10), .inr (0, 10), .inr (0, 100), .inl (3, [2, 0, 0, 2]), .inr (0, 0), .inl (2, [0, 35, 36, 37, 38, 0, 0]), .inr (0, 10), .inr (0, 10), .inr (0, 10), .inr (0, 100), .inl (6, [5, 2, 40, 41, 42, 43, 44]), .inr (0, 6), .inr (0, 5), .inr (0, 5), .inr (0, 100), .inr (1, 100), .inl (9, [39, 46, 47, 48, 0, 0, 0, 0]), .inr (0, 1024), .inr (0, 1024), .inr (0, 32), .inl (1, [39, 50, 51, 52, 53, 54, 0]), .inr (0, 1024), .inr (0, 1024), .inr (0, 96), .inr (0, 3), .inr (0, 3), .inl (8, [39]), .inl (4, [5, 57]), .inr (0, 5), .inl (0, [59, 0, 0, 0, 0]), .inr (0, 20), .inr (4, 6), .inl (7, [0, 0, 62]), .inr (2, 60), .inl (7, [0, 0, 64]), .inr (2, 60), .inl (7, [0, 0, 66]), .inr (2, 60), .inl (7, [0, 0, 68]), .inr (2, 60), .inl (7, [0, 0, 70]), .inr (2, 60), .inl (7, [0, 0, 72]), .inr (2, 60)]
def zq_shM : zq_H := fun c => if c < 69 then none else zq_lM[c - 69]?
def zq_hsh (h d : Nat) : zq_S := match d with
  | 0 => .inl (2, [0, h + 5, h + 6, h + 7, h + 8, 0, 0])
  | 1 => .inr (0, 10)
  | 2 => .inr (0, 10)
  | 3 => .inr (0, 10)
  | _ => .inr (0, 100)
def zq_shX (j : Nat) : zq_H := fun c => if c < 69 then zq_lX[c]? else if c < 111 then none else if (c - 111) / 5 < j then some (zq_hsh (c - (c - 111) % 5) ((c - 111) % 5)) else none
theorem om_69 : zq_shM 69 = some (.inl (11, [0, 0, 0, 0, 74, 75, 76, 77, 78, 0, 0, 0, 0, 0, 0, 79, 80, 81, 82, 83, 84, 85, 86, 0, 0, 0, 87, 88, 89, 90, 91, 92, 93, 94, 95, 96, 0, 97, 98, 99, 1, 1, 0, 100, 101, 0, 0, 0, 0, 0, 0, 0, 0, 102, 103, 104, 105, 106, 107, 108, 109, 0, 110, 111, 112, 113, 114])) := rfl
theorem am_70 : zq_shM 70 = some (.inr (0, 5)) := rfl
theorem am_71 : zq_shM 71 = some (.inr (0, 5)) := rfl
theorem am_72 : zq_shM 72 = some (.inr (0, 5)) := rfl
theorem am_73 : zq_shM 73 = some (.inr (0, 3)) := rfl
theorem am_74 : zq_shM 74 = some (.inr (0, 3)) := rfl
theorem am_75 : zq_shM 75 = some (.inr (0, 100)) := rfl
theorem am_76 : zq_shM 76 = some (.inr (0, 6)) := rfl
theorem am_77 : zq_shM 77 = some (.inr (0, 60)) := rfl
theorem am_78 : zq_shM 78 = some (.inr (0, 60)) := rfl
theorem am_79 : zq_shM 79 = some (.inr (0, 60)) := rfl
theorem am_80 : zq_shM 80 = some (.inr (0, 60)) := rfl
theorem am_81 : zq_shM 81 = some (.inr (0, 600)) := rfl
theorem am_82 : zq_shM 82 = some (.inr (0, 101)) := rfl
theorem am_83 : zq_shM 83 = some (.inr (0, 17)) := rfl
theorem am_84 : zq_shM 84 = some (.inr (1, 100)) := rfl
theorem am_85 : zq_shM 85 = some (.inr (0, 120)) := rfl
theorem am_86 : zq_shM 86 = some (.inr (1, 120)) := rfl
theorem am_87 : zq_shM 87 = some (.inr (1, 1024)) := rfl
theorem am_88 : zq_shM 88 = some (.inr (1, 1024)) := rfl
theorem am_89 : zq_shM 89 = some (.inr (0, 1024)) := rfl
theorem am_90 : zq_shM 90 = some (.inr (0, 1024)) := rfl
theorem am_91 : zq_shM 91 = some (.inr (1, 32768)) := rfl
theorem am_92 : zq_shM 92 = some (.inr (1, 32768)) := rfl
theorem am_93 : zq_shM 93 = some (.inr (0, 12)) := rfl
theorem am_94 : zq_shM 94 = some (.inr (0, 12)) := rfl
theorem am_95 : zq_shM 95 = some (.inr (0, 5)) := rfl
theorem am_96 : zq_shM 96 = some (.inr (0, 12)) := rfl
theorem am_97 : zq_shM 97 = some (.inr (0, 5)) := rfl
theorem am_98 : zq_shM 98 = some (.inr (0, 5)) := rfl
theorem am_99 : zq_shM 99 = some (.inr (0, 5)) := rfl
theorem am_100 : zq_shM 100 = some (.inr (0, 5)) := rfl
theorem am_101 : zq_shM 101 = some (.inr (0, 3)) := rfl
theorem am_102 : zq_shM 102 = some (.inr (0, 3)) := rfl
theorem am_103 : zq_shM 103 = some (.inr (0, 12)) := rfl
theorem am_104 : zq_shM 104 = some (.inr (0, 12)) := rfl
theorem am_105 : zq_shM 105 = some (.inr (0, 12)) := rfl
theorem am_106 : zq_shM 106 = some (.inr (0, 20)) := rfl
theorem am_107 : zq_shM 107 = some (.inr (0, 6)) := rfl
theorem am_108 : zq_shM 108 = some (.inr (0, 6)) := rfl
theorem am_109 : zq_shM 109 = some (.inr (2, 360)) := rfl
theorem am_110 : zq_shM 110 = some (.inr (2, 60)) := rfl
theorem km_69_0 : zq_kd zq_shM 69 0 = some (11, 0) := rfl
theorem km_69_1 : zq_kd zq_shM 69 1 = some (11, 0) := rfl
theorem km_69_2 : zq_kd zq_shM 69 2 = some (11, 0) := rfl
theorem km_69_3 : zq_kd zq_shM 69 3 = some (11, 0) := rfl
theorem km_69_4 : zq_kd zq_shM 69 4 = some (11, 74) := rfl
theorem km_69_5 : zq_kd zq_shM 69 5 = some (11, 75) := rfl
theorem km_69_6 : zq_kd zq_shM 69 6 = some (11, 76) := rfl
theorem km_69_7 : zq_kd zq_shM 69 7 = some (11, 77) := rfl
theorem km_69_8 : zq_kd zq_shM 69 8 = some (11, 78) := rfl
theorem km_69_9 : zq_kd zq_shM 69 9 = some (11, 0) := rfl
theorem km_69_10 : zq_kd zq_shM 69 10 = some (11, 0) := rfl
theorem km_69_11 : zq_kd zq_shM 69 11 = some (11, 0) := rfl
theorem km_69_12 : zq_kd zq_shM 69 12 = some (11, 0) := rfl
theorem km_69_13 : zq_kd zq_shM 69 13 = some (11, 0) := rfl
theorem km_69_14 : zq_kd zq_shM 69 14 = some (11, 0) := rfl
theorem km_69_15 : zq_kd zq_shM 69 15 = some (11, 79) := rfl
theorem km_69_16 : zq_kd zq_shM 69 16 = some (11, 80) := rfl
theorem km_69_17 : zq_kd zq_shM 69 17 = some (11, 81) := rfl
theorem km_69_18 : zq_kd zq_shM 69 18 = some (11, 82) := rfl
theorem km_69_19 : zq_kd zq_shM 69 19 = some (11, 83) := rfl
theorem km_69_20 : zq_kd zq_shM 69 20 = some (11, 84) := rfl
theorem km_69_21 : zq_kd zq_shM 69 21 = some (11, 85) := rfl
theorem km_69_22 : zq_kd zq_shM 69 22 = some (11, 86) := rfl
theorem km_69_23 : zq_kd zq_shM 69 23 = some (11, 0) := rfl
theorem km_69_24 : zq_kd zq_shM 69 24 = some (11, 0) := rfl
theorem km_69_25 : zq_kd zq_shM 69 25 = some (11, 0) := rfl
theorem km_69_26 : zq_kd zq_shM 69 26 = some (11, 87) := rfl
theorem km_69_27 : zq_kd zq_shM 69 27 = some (11, 88) := rfl
theorem km_69_28 : zq_kd zq_shM 69 28 = some (11, 89) := rfl
theorem km_69_29 : zq_kd zq_shM 69 29 = some (11, 90) := rfl
theorem km_69_30 : zq_kd zq_shM 69 30 = some (11, 91) := rfl
theorem km_69_31 : zq_kd zq_shM 69 31 = some (11, 92) := rfl
theorem km_69_32 : zq_kd zq_shM 69 32 = some (11, 93) := rfl
theorem km_69_33 : zq_kd zq_shM 69 33 = some (11, 94) := rfl
theorem km_69_34 : zq_kd zq_shM 69 34 = some (11, 95) := rfl
theorem km_69_35 : zq_kd zq_shM 69 35 = some (11, 96) := rfl
theorem km_69_36 : zq_kd zq_shM 69 36 = some (11, 0) := rfl
theorem km_69_37 : zq_kd zq_shM 69 37 = some (11, 97) := rfl
theorem km_69_38 : zq_kd zq_shM 69 38 = some (11, 98) := rfl
theorem km_69_39 : zq_kd zq_shM 69 39 = some (11, 99) := rfl
theorem km_69_40 : zq_kd zq_shM 69 40 = some (11, 1) := rfl
theorem km_69_41 : zq_kd zq_shM 69 41 = some (11, 1) := rfl
theorem km_69_42 : zq_kd zq_shM 69 42 = some (11, 0) := rfl
theorem km_69_43 : zq_kd zq_shM 69 43 = some (11, 100) := rfl
theorem km_69_44 : zq_kd zq_shM 69 44 = some (11, 101) := rfl
theorem km_69_45 : zq_kd zq_shM 69 45 = some (11, 0) := rfl
theorem km_69_46 : zq_kd zq_shM 69 46 = some (11, 0) := rfl
theorem km_69_47 : zq_kd zq_shM 69 47 = some (11, 0) := rfl
theorem km_69_48 : zq_kd zq_shM 69 48 = some (11, 0) := rfl
theorem km_69_49 : zq_kd zq_shM 69 49 = some (11, 0) := rfl
theorem km_69_50 : zq_kd zq_shM 69 50 = some (11, 0) := rfl
theorem km_69_51 : zq_kd zq_shM 69 51 = some (11, 0) := rfl
theorem km_69_52 : zq_kd zq_shM 69 52 = some (11, 0) := rfl
theorem km_69_53 : zq_kd zq_shM 69 53 = some (11, 102) := rfl
theorem km_69_54 : zq_kd zq_shM 69 54 = some (11, 103) := rfl
theorem km_69_55 : zq_kd zq_shM 69 55 = some (11, 104) := rfl
theorem km_69_56 : zq_kd zq_shM 69 56 = some (11, 105) := rfl
theorem km_69_57 : zq_kd zq_shM 69 57 = some (11, 106) := rfl
theorem km_69_58 : zq_kd zq_shM 69 58 = some (11, 107) := rfl
theorem km_69_59 : zq_kd zq_shM 69 59 = some (11, 108) := rfl
theorem km_69_60 : zq_kd zq_shM 69 60 = some (11, 109) := rfl
theorem km_69_61 : zq_kd zq_shM 69 61 = some (11, 0) := rfl
theorem km_69_62 : zq_kd zq_shM 69 62 = some (11, 110) := rfl
theorem km_69_63 : zq_kd zq_shM 69 63 = some (11, 111) := rfl
theorem km_69_64 : zq_kd zq_shM 69 64 = some (11, 112) := rfl
theorem km_69_65 : zq_kd zq_shM 69 65 = some (11, 113) := rfl
theorem km_69_66 : zq_kd zq_shM 69 66 = some (11, 114) := rfl
theorem ox_0 (j : Nat) : zq_shX j 0 = some (.inl (10, [5, 15, 0, 25, 0, 26, 0, 27, 32, 39, 45, 49, 55, 56, 58, 60])) := rfl
theorem kx_0_0 (j : Nat) : zq_kd (zq_shX j) 0 0 = some (10, 5) := rfl
theorem kx_0_1 (j : Nat) : zq_kd (zq_shX j) 0 1 = some (10, 15) := rfl
theorem kx_0_2 (j : Nat) : zq_kd (zq_shX j) 0 2 = some (10, 0) := rfl
theorem kx_0_3 (j : Nat) : zq_kd (zq_shX j) 0 3 = some (10, 25) := rfl
theorem kx_0_4 (j : Nat) : zq_kd (zq_shX j) 0 4 = some (10, 0) := rfl
theorem kx_0_5 (j : Nat) : zq_kd (zq_shX j) 0 5 = some (10, 26) := rfl
theorem kx_0_6 (j : Nat) : zq_kd (zq_shX j) 0 6 = some (10, 0) := rfl
theorem kx_0_7 (j : Nat) : zq_kd (zq_shX j) 0 7 = some (10, 27) := rfl
theorem kx_0_8 (j : Nat) : zq_kd (zq_shX j) 0 8 = some (10, 32) := rfl
theorem kx_0_9 (j : Nat) : zq_kd (zq_shX j) 0 9 = some (10, 39) := rfl
theorem kx_0_10 (j : Nat) : zq_kd (zq_shX j) 0 10 = some (10, 45) := rfl
theorem kx_0_11 (j : Nat) : zq_kd (zq_shX j) 0 11 = some (10, 49) := rfl
theorem kx_0_12 (j : Nat) : zq_kd (zq_shX j) 0 12 = some (10, 55) := rfl
theorem kx_0_13 (j : Nat) : zq_kd (zq_shX j) 0 13 = some (10, 56) := rfl
theorem kx_0_14 (j : Nat) : zq_kd (zq_shX j) 0 14 = some (10, 58) := rfl
theorem kx_0_15 (j : Nat) : zq_kd (zq_shX j) 0 15 = some (10, 60) := rfl
theorem ox_1 (j : Nat) : zq_shX j 1 = some (.inl (5, [0, 6, 7, 8, 9, 10, 11, 0, 0, 12, 13, 0, 14, 0, 0])) := rfl
theorem kx_1_0 (j : Nat) : zq_kd (zq_shX j) 1 0 = some (5, 0) := rfl
theorem kx_1_1 (j : Nat) : zq_kd (zq_shX j) 1 1 = some (5, 6) := rfl
theorem kx_1_2 (j : Nat) : zq_kd (zq_shX j) 1 2 = some (5, 7) := rfl
theorem kx_1_3 (j : Nat) : zq_kd (zq_shX j) 1 3 = some (5, 8) := rfl
theorem kx_1_4 (j : Nat) : zq_kd (zq_shX j) 1 4 = some (5, 9) := rfl
theorem kx_1_5 (j : Nat) : zq_kd (zq_shX j) 1 5 = some (5, 10) := rfl
theorem kx_1_6 (j : Nat) : zq_kd (zq_shX j) 1 6 = some (5, 11) := rfl
theorem kx_1_7 (j : Nat) : zq_kd (zq_shX j) 1 7 = some (5, 0) := rfl
theorem kx_1_8 (j : Nat) : zq_kd (zq_shX j) 1 8 = some (5, 0) := rfl
theorem kx_1_9 (j : Nat) : zq_kd (zq_shX j) 1 9 = some (5, 12) := rfl
theorem kx_1_10 (j : Nat) : zq_kd (zq_shX j) 1 10 = some (5, 13) := rfl
theorem kx_1_11 (j : Nat) : zq_kd (zq_shX j) 1 11 = some (5, 0) := rfl
theorem kx_1_12 (j : Nat) : zq_kd (zq_shX j) 1 12 = some (5, 14) := rfl
theorem kx_1_13 (j : Nat) : zq_kd (zq_shX j) 1 13 = some (5, 0) := rfl
theorem kx_1_14 (j : Nat) : zq_kd (zq_shX j) 1 14 = some (5, 0) := rfl
theorem ax_2 (j : Nat) : zq_shX j 2 = some (.inr (0, 5)) := rfl
theorem ax_3 (j : Nat) : zq_shX j 3 = some (.inr (0, 5)) := rfl
theorem ax_4 (j : Nat) : zq_shX j 4 = some (.inr (0, 5)) := rfl
theorem ax_5 (j : Nat) : zq_shX j 5 = some (.inr (0, 5)) := rfl
theorem ax_6 (j : Nat) : zq_shX j 6 = some (.inr (0, 3)) := rfl
theorem ax_7 (j : Nat) : zq_shX j 7 = some (.inr (0, 3)) := rfl
theorem ax_8 (j : Nat) : zq_shX j 8 = some (.inr (0, 12)) := rfl
theorem ax_9 (j : Nat) : zq_shX j 9 = some (.inr (0, 12)) := rfl
theorem ax_10 (j : Nat) : zq_shX j 10 = some (.inr (0, 12)) := rfl
theorem ox_11 (j : Nat) : zq_shX j 11 = some (.inl (5, [0, 16, 17, 18, 19, 20, 21, 0, 0, 22, 23, 0, 24, 0, 0])) := rfl
theorem kx_11_0 (j : Nat) : zq_kd (zq_shX j) 11 0 = some (5, 0) := rfl
theorem kx_11_1 (j : Nat) : zq_kd (zq_shX j) 11 1 = some (5, 16) := rfl
theorem kx_11_2 (j : Nat) : zq_kd (zq_shX j) 11 2 = some (5, 17) := rfl
theorem kx_11_3 (j : Nat) : zq_kd (zq_shX j) 11 3 = some (5, 18) := rfl
theorem kx_11_4 (j : Nat) : zq_kd (zq_shX j) 11 4 = some (5, 19) := rfl
theorem kx_11_5 (j : Nat) : zq_kd (zq_shX j) 11 5 = some (5, 20) := rfl
theorem kx_11_6 (j : Nat) : zq_kd (zq_shX j) 11 6 = some (5, 21) := rfl
theorem kx_11_7 (j : Nat) : zq_kd (zq_shX j) 11 7 = some (5, 0) := rfl
theorem kx_11_8 (j : Nat) : zq_kd (zq_shX j) 11 8 = some (5, 0) := rfl
theorem kx_11_9 (j : Nat) : zq_kd (zq_shX j) 11 9 = some (5, 22) := rfl
theorem kx_11_10 (j : Nat) : zq_kd (zq_shX j) 11 10 = some (5, 23) := rfl
theorem kx_11_11 (j : Nat) : zq_kd (zq_shX j) 11 11 = some (5, 0) := rfl
theorem kx_11_12 (j : Nat) : zq_kd (zq_shX j) 11 12 = some (5, 24) := rfl
theorem kx_11_13 (j : Nat) : zq_kd (zq_shX j) 11 13 = some (5, 0) := rfl
theorem kx_11_14 (j : Nat) : zq_kd (zq_shX j) 11 14 = some (5, 0) := rfl
theorem ax_12 (j : Nat) : zq_shX j 12 = some (.inr (0, 5)) := rfl
theorem ax_13 (j : Nat) : zq_shX j 13 = some (.inr (0, 5)) := rfl
theorem ax_14 (j : Nat) : zq_shX j 14 = some (.inr (0, 5)) := rfl
theorem ax_15 (j : Nat) : zq_shX j 15 = some (.inr (0, 5)) := rfl
theorem ax_16 (j : Nat) : zq_shX j 16 = some (.inr (0, 3)) := rfl
theorem ax_17 (j : Nat) : zq_shX j 17 = some (.inr (0, 3)) := rfl
theorem ax_18 (j : Nat) : zq_shX j 18 = some (.inr (0, 12)) := rfl
theorem ax_19 (j : Nat) : zq_shX j 19 = some (.inr (0, 12)) := rfl
theorem ax_20 (j : Nat) : zq_shX j 20 = some (.inr (0, 12)) := rfl
theorem ax_21 (j : Nat) : zq_shX j 21 = some (.inr (0, 100)) := rfl
theorem ax_22 (j : Nat) : zq_shX j 22 = some (.inr (3, 6)) := rfl
theorem ox_23 (j : Nat) : zq_shX j 23 = some (.inl (2, [0, 28, 29, 30, 31, 0, 0])) := rfl
theorem kx_23_0 (j : Nat) : zq_kd (zq_shX j) 23 0 = some (2, 0) := rfl
theorem kx_23_1 (j : Nat) : zq_kd (zq_shX j) 23 1 = some (2, 28) := rfl
theorem kx_23_2 (j : Nat) : zq_kd (zq_shX j) 23 2 = some (2, 29) := rfl
theorem kx_23_3 (j : Nat) : zq_kd (zq_shX j) 23 3 = some (2, 30) := rfl
theorem kx_23_4 (j : Nat) : zq_kd (zq_shX j) 23 4 = some (2, 31) := rfl
theorem kx_23_5 (j : Nat) : zq_kd (zq_shX j) 23 5 = some (2, 0) := rfl
theorem kx_23_6 (j : Nat) : zq_kd (zq_shX j) 23 6 = some (2, 0) := rfl
theorem ax_24 (j : Nat) : zq_shX j 24 = some (.inr (0, 10)) := rfl
theorem ax_25 (j : Nat) : zq_shX j 25 = some (.inr (0, 10)) := rfl
theorem ax_26 (j : Nat) : zq_shX j 26 = some (.inr (0, 10)) := rfl
theorem ax_27 (j : Nat) : zq_shX j 27 = some (.inr (0, 100)) := rfl
theorem ox_28 (j : Nat) : zq_shX j 28 = some (.inl (3, [2, 0, 0, 2])) := rfl
theorem kx_28_0 (j : Nat) : zq_kd (zq_shX j) 28 0 = some (3, 2) := rfl
theorem kx_28_1 (j : Nat) : zq_kd (zq_shX j) 28 1 = some (3, 0) := rfl
theorem kx_28_2 (j : Nat) : zq_kd (zq_shX j) 28 2 = some (3, 0) := rfl
theorem kx_28_3 (j : Nat) : zq_kd (zq_shX j) 28 3 = some (3, 2) := rfl
theorem ax_29 (j : Nat) : zq_shX j 29 = some (.inr (0, 0)) := rfl
theorem ox_30 (j : Nat) : zq_shX j 30 = some (.inl (2, [0, 35, 36, 37, 38, 0, 0])) := rfl
theorem kx_30_0 (j : Nat) : zq_kd (zq_shX j) 30 0 = some (2, 0) := rfl
theorem kx_30_1 (j : Nat) : zq_kd (zq_shX j) 30 1 = some (2, 35) := rfl
theorem kx_30_2 (j : Nat) : zq_kd (zq_shX j) 30 2 = some (2, 36) := rfl
theorem kx_30_3 (j : Nat) : zq_kd (zq_shX j) 30 3 = some (2, 37) := rfl
theorem kx_30_4 (j : Nat) : zq_kd (zq_shX j) 30 4 = some (2, 38) := rfl
theorem kx_30_5 (j : Nat) : zq_kd (zq_shX j) 30 5 = some (2, 0) := rfl
theorem kx_30_6 (j : Nat) : zq_kd (zq_shX j) 30 6 = some (2, 0) := rfl
theorem ax_31 (j : Nat) : zq_shX j 31 = some (.inr (0, 10)) := rfl
theorem ax_32 (j : Nat) : zq_shX j 32 = some (.inr (0, 10)) := rfl
theorem ax_33 (j : Nat) : zq_shX j 33 = some (.inr (0, 10)) := rfl
theorem ax_34 (j : Nat) : zq_shX j 34 = some (.inr (0, 100)) := rfl
theorem ox_35 (j : Nat) : zq_shX j 35 = some (.inl (6, [5, 2, 40, 41, 42, 43, 44])) := rfl
theorem kx_35_0 (j : Nat) : zq_kd (zq_shX j) 35 0 = some (6, 5) := rfl
theorem kx_35_1 (j : Nat) : zq_kd (zq_shX j) 35 1 = some (6, 2) := rfl
theorem kx_35_2 (j : Nat) : zq_kd (zq_shX j) 35 2 = some (6, 40) := rfl
theorem kx_35_3 (j : Nat) : zq_kd (zq_shX j) 35 3 = some (6, 41) := rfl
theorem kx_35_4 (j : Nat) : zq_kd (zq_shX j) 35 4 = some (6, 42) := rfl
theorem kx_35_5 (j : Nat) : zq_kd (zq_shX j) 35 5 = some (6, 43) := rfl
theorem kx_35_6 (j : Nat) : zq_kd (zq_shX j) 35 6 = some (6, 44) := rfl
theorem ax_36 (j : Nat) : zq_shX j 36 = some (.inr (0, 6)) := rfl
theorem ax_37 (j : Nat) : zq_shX j 37 = some (.inr (0, 5)) := rfl
theorem ax_38 (j : Nat) : zq_shX j 38 = some (.inr (0, 5)) := rfl
theorem ax_39 (j : Nat) : zq_shX j 39 = some (.inr (0, 100)) := rfl
theorem ax_40 (j : Nat) : zq_shX j 40 = some (.inr (1, 100)) := rfl
theorem ox_41 (j : Nat) : zq_shX j 41 = some (.inl (9, [39, 46, 47, 48, 0, 0, 0, 0])) := rfl
theorem kx_41_0 (j : Nat) : zq_kd (zq_shX j) 41 0 = some (9, 39) := rfl
theorem kx_41_1 (j : Nat) : zq_kd (zq_shX j) 41 1 = some (9, 46) := rfl
theorem kx_41_2 (j : Nat) : zq_kd (zq_shX j) 41 2 = some (9, 47) := rfl
theorem kx_41_3 (j : Nat) : zq_kd (zq_shX j) 41 3 = some (9, 48) := rfl
theorem kx_41_4 (j : Nat) : zq_kd (zq_shX j) 41 4 = some (9, 0) := rfl
theorem kx_41_5 (j : Nat) : zq_kd (zq_shX j) 41 5 = some (9, 0) := rfl
theorem kx_41_6 (j : Nat) : zq_kd (zq_shX j) 41 6 = some (9, 0) := rfl
theorem kx_41_7 (j : Nat) : zq_kd (zq_shX j) 41 7 = some (9, 0) := rfl
theorem ax_42 (j : Nat) : zq_shX j 42 = some (.inr (0, 1024)) := rfl
theorem ax_43 (j : Nat) : zq_shX j 43 = some (.inr (0, 1024)) := rfl
theorem ax_44 (j : Nat) : zq_shX j 44 = some (.inr (0, 32)) := rfl
theorem ox_45 (j : Nat) : zq_shX j 45 = some (.inl (1, [39, 50, 51, 52, 53, 54, 0])) := rfl
theorem kx_45_0 (j : Nat) : zq_kd (zq_shX j) 45 0 = some (1, 39) := rfl
theorem kx_45_1 (j : Nat) : zq_kd (zq_shX j) 45 1 = some (1, 50) := rfl
theorem kx_45_2 (j : Nat) : zq_kd (zq_shX j) 45 2 = some (1, 51) := rfl
theorem kx_45_3 (j : Nat) : zq_kd (zq_shX j) 45 3 = some (1, 52) := rfl
theorem kx_45_4 (j : Nat) : zq_kd (zq_shX j) 45 4 = some (1, 53) := rfl
theorem kx_45_5 (j : Nat) : zq_kd (zq_shX j) 45 5 = some (1, 54) := rfl
theorem kx_45_6 (j : Nat) : zq_kd (zq_shX j) 45 6 = some (1, 0) := rfl
theorem ax_46 (j : Nat) : zq_shX j 46 = some (.inr (0, 1024)) := rfl
theorem ax_47 (j : Nat) : zq_shX j 47 = some (.inr (0, 1024)) := rfl
theorem ax_48 (j : Nat) : zq_shX j 48 = some (.inr (0, 96)) := rfl
theorem ax_49 (j : Nat) : zq_shX j 49 = some (.inr (0, 3)) := rfl
theorem ax_50 (j : Nat) : zq_shX j 50 = some (.inr (0, 3)) := rfl
theorem ox_51 (j : Nat) : zq_shX j 51 = some (.inl (8, [39])) := rfl
theorem kx_51_0 (j : Nat) : zq_kd (zq_shX j) 51 0 = some (8, 39) := rfl
theorem ox_52 (j : Nat) : zq_shX j 52 = some (.inl (4, [5, 57])) := rfl
theorem kx_52_0 (j : Nat) : zq_kd (zq_shX j) 52 0 = some (4, 5) := rfl
theorem kx_52_1 (j : Nat) : zq_kd (zq_shX j) 52 1 = some (4, 57) := rfl
theorem ax_53 (j : Nat) : zq_shX j 53 = some (.inr (0, 5)) := rfl
theorem ox_54 (j : Nat) : zq_shX j 54 = some (.inl (0, [59, 0, 0, 0, 0])) := rfl
theorem kx_54_0 (j : Nat) : zq_kd (zq_shX j) 54 0 = some (0, 59) := rfl
theorem kx_54_1 (j : Nat) : zq_kd (zq_shX j) 54 1 = some (0, 0) := rfl
theorem kx_54_2 (j : Nat) : zq_kd (zq_shX j) 54 2 = some (0, 0) := rfl
theorem kx_54_3 (j : Nat) : zq_kd (zq_shX j) 54 3 = some (0, 0) := rfl
theorem kx_54_4 (j : Nat) : zq_kd (zq_shX j) 54 4 = some (0, 0) := rfl
theorem ax_55 (j : Nat) : zq_shX j 55 = some (.inr (0, 20)) := rfl
theorem ax_56 (j : Nat) : zq_shX j 56 = some (.inr (4, 6)) := rfl
theorem ox_57 (j : Nat) : zq_shX j 57 = some (.inl (7, [0, 0, 62])) := rfl
theorem kx_57_0 (j : Nat) : zq_kd (zq_shX j) 57 0 = some (7, 0) := rfl
theorem kx_57_1 (j : Nat) : zq_kd (zq_shX j) 57 1 = some (7, 0) := rfl
theorem kx_57_2 (j : Nat) : zq_kd (zq_shX j) 57 2 = some (7, 62) := rfl
theorem ax_58 (j : Nat) : zq_shX j 58 = some (.inr (2, 60)) := rfl
theorem ox_59 (j : Nat) : zq_shX j 59 = some (.inl (7, [0, 0, 64])) := rfl
theorem kx_59_0 (j : Nat) : zq_kd (zq_shX j) 59 0 = some (7, 0) := rfl
theorem kx_59_1 (j : Nat) : zq_kd (zq_shX j) 59 1 = some (7, 0) := rfl
theorem kx_59_2 (j : Nat) : zq_kd (zq_shX j) 59 2 = some (7, 64) := rfl
theorem ax_60 (j : Nat) : zq_shX j 60 = some (.inr (2, 60)) := rfl
theorem ox_61 (j : Nat) : zq_shX j 61 = some (.inl (7, [0, 0, 66])) := rfl
theorem kx_61_0 (j : Nat) : zq_kd (zq_shX j) 61 0 = some (7, 0) := rfl
theorem kx_61_1 (j : Nat) : zq_kd (zq_shX j) 61 1 = some (7, 0) := rfl
theorem kx_61_2 (j : Nat) : zq_kd (zq_shX j) 61 2 = some (7, 66) := rfl
theorem ax_62 (j : Nat) : zq_shX j 62 = some (.inr (2, 60)) := rfl
theorem ox_63 (j : Nat) : zq_shX j 63 = some (.inl (7, [0, 0, 68])) := rfl
theorem kx_63_0 (j : Nat) : zq_kd (zq_shX j) 63 0 = some (7, 0) := rfl
theorem kx_63_1 (j : Nat) : zq_kd (zq_shX j) 63 1 = some (7, 0) := rfl
theorem kx_63_2 (j : Nat) : zq_kd (zq_shX j) 63 2 = some (7, 68) := rfl
theorem ax_64 (j : Nat) : zq_shX j 64 = some (.inr (2, 60)) := rfl
theorem ox_65 (j : Nat) : zq_shX j 65 = some (.inl (7, [0, 0, 70])) := rfl
theorem kx_65_0 (j : Nat) : zq_kd (zq_shX j) 65 0 = some (7, 0) := rfl
theorem kx_65_1 (j : Nat) : zq_kd (zq_shX j) 65 1 = some (7, 0) := rfl
theorem kx_65_2 (j : Nat) : zq_kd (zq_shX j) 65 2 = some (7, 70) := rfl
theorem ax_66 (j : Nat) : zq_shX j 66 = some (.inr (2, 60)) := rfl
theorem ox_67 (j : Nat) : zq_shX j 67 = some (.inl (7, [0, 0, 72])) := rfl
theorem kx_67_0 (j : Nat) : zq_kd (zq_shX j) 67 0 = some (7, 0) := rfl
theorem kx_67_1 (j : Nat) : zq_kd (zq_shX j) 67 1 = some (7, 0) := rfl
theorem kx_67_2 (j : Nat) : zq_kd (zq_shX j) 67 2 = some (7, 72) := rfl
theorem ax_68 (j : Nat) : zq_shX j 68 = some (.inr (2, 60)) := rfl
def zq_ho (sh : zq_H) (h : Nat) : Bool := decide (sh (h) = some (.inl (2, [0, h + 5, h + 6, h + 7, h + 8, 0, 0]))) && decide (sh (h + 1) = some (.inr (0, 10))) && decide (sh (h + 2) = some (.inr (0, 10))) && decide (sh (h + 3) = some (.inr (0, 10))) && decide (sh (h + 4) = some (.inr (0, 100)))
theorem zq_ho_all {sh : zq_H} {h : Nat} (g : zq_ho sh h = true) : sh (h) = some (.inl (2, [0, h + 5, h + 6, h + 7, h + 8, 0, 0])) ∧ sh (h + 1) = some (.inr (0, 10)) ∧ sh (h + 2) = some (.inr (0, 10)) ∧ sh (h + 3) = some (.inr (0, 10)) ∧ sh (h + 4) = some (.inr (0, 100)) := by
  unfold zq_ho at g
  simp only [Bool.and_eq_true, decide_eq_true_eq] at g
  obtain ⟨⟨⟨⟨g0, g1⟩, g2⟩, g3⟩, g4⟩ := g
  exact ⟨g0, g1, g2, g3, g4⟩
theorem zq_ho_s {sh : zq_H} {h : Nat} (g : zq_ho sh h = true) : sh h = some (.inl (2, [0, h + 5, h + 6, h + 7, h + 8, 0, 0])) := (zq_ho_all g).1
theorem zq_ho_a1 {sh : zq_H} {h : Nat} (g : zq_ho sh h = true) : sh (h + 1) = some (.inr (0, 10)) := (zq_ho_all g).2.1
theorem zq_ho_a2 {sh : zq_H} {h : Nat} (g : zq_ho sh h = true) : sh (h + 2) = some (.inr (0, 10)) := (zq_ho_all g).2.2.1
theorem zq_ho_a3 {sh : zq_H} {h : Nat} (g : zq_ho sh h = true) : sh (h + 3) = some (.inr (0, 10)) := (zq_ho_all g).2.2.2.1
theorem zq_ho_a4 {sh : zq_H} {h : Nat} (g : zq_ho sh h = true) : sh (h + 4) = some (.inr (0, 100)) := (zq_ho_all g).2.2.2.2
theorem zq_ho_k0 {sh : zq_H} {h : Nat} (g : zq_ho sh h = true) : zq_kd sh h 0 = some (2, 0) := by
  unfold zq_kd
  rw [zq_ho_s g]
  rfl
theorem zq_ho_k1 {sh : zq_H} {h : Nat} (g : zq_ho sh h = true) : zq_kd sh h 1 = some (2, h + 5) := by
  unfold zq_kd
  rw [zq_ho_s g]
  rfl
theorem zq_ho_k2 {sh : zq_H} {h : Nat} (g : zq_ho sh h = true) : zq_kd sh h 2 = some (2, h + 6) := by
  unfold zq_kd
  rw [zq_ho_s g]
  rfl
theorem zq_ho_k3 {sh : zq_H} {h : Nat} (g : zq_ho sh h = true) : zq_kd sh h 3 = some (2, h + 7) := by
  unfold zq_kd
  rw [zq_ho_s g]
  rfl
theorem zq_ho_k4 {sh : zq_H} {h : Nat} (g : zq_ho sh h = true) : zq_kd sh h 4 = some (2, h + 8) := by
  unfold zq_kd
  rw [zq_ho_s g]
  rfl
theorem zq_ho_k5 {sh : zq_H} {h : Nat} (g : zq_ho sh h = true) : zq_kd sh h 5 = some (2, 0) := by
  unfold zq_kd
  rw [zq_ho_s g]
  rfl
theorem zq_ho_k6 {sh : zq_H} {h : Nat} (g : zq_ho sh h = true) : zq_kd sh h 6 = some (2, 0) := by
  unfold zq_kd
  rw [zq_ho_s g]
  rfl
def zq_sc (sh : zq_H) (h : Nat) : Bool := decide (sh (h) = some (.inl (5, [0, h + 5, h + 6, h + 7, h + 8, h + 9, h + 10, 0, 0, h + 11, h + 12, 0, h + 13, 0, 0]))) && decide (sh (h + 1) = some (.inr (0, 5))) && decide (sh (h + 2) = some (.inr (0, 5))) && decide (sh (h + 3) = some (.inr (0, 5))) && decide (sh (h + 4) = some (.inr (0, 5))) && decide (sh (h + 5) = some (.inr (0, 3))) && decide (sh (h + 6) = some (.inr (0, 3))) && decide (sh (h + 7) = some (.inr (0, 12))) && decide (sh (h + 8) = some (.inr (0, 12))) && decide (sh (h + 9) = some (.inr (0, 12)))
theorem zq_sc_all {sh : zq_H} {h : Nat} (g : zq_sc sh h = true) : sh (h) = some (.inl (5, [0, h + 5, h + 6, h + 7, h + 8, h + 9, h + 10, 0, 0, h + 11, h + 12, 0, h + 13, 0, 0])) ∧ sh (h + 1) = some (.inr (0, 5)) ∧ sh (h + 2) = some (.inr (0, 5)) ∧ sh (h + 3) = some (.inr (0, 5)) ∧ sh (h + 4) = some (.inr (0, 5)) ∧ sh (h + 5) = some (.inr (0, 3)) ∧ sh (h + 6) = some (.inr (0, 3)) ∧ sh (h + 7) = some (.inr (0, 12)) ∧ sh (h + 8) = some (.inr (0, 12)) ∧ sh (h + 9) = some (.inr (0, 12)) := by
  unfold zq_sc at g
  simp only [Bool.and_eq_true, decide_eq_true_eq] at g
  obtain ⟨⟨⟨⟨⟨⟨⟨⟨⟨g0, g1⟩, g2⟩, g3⟩, g4⟩, g5⟩, g6⟩, g7⟩, g8⟩, g9⟩ := g
  exact ⟨g0, g1, g2, g3, g4, g5, g6, g7, g8, g9⟩
theorem zq_sc_s {sh : zq_H} {h : Nat} (g : zq_sc sh h = true) : sh h = some (.inl (5, [0, h + 5, h + 6, h + 7, h + 8, h + 9, h + 10, 0, 0, h + 11, h + 12, 0, h + 13, 0, 0])) := (zq_sc_all g).1
theorem zq_sc_a1 {sh : zq_H} {h : Nat} (g : zq_sc sh h = true) : sh (h + 1) = some (.inr (0, 5)) := (zq_sc_all g).2.1
theorem zq_sc_a2 {sh : zq_H} {h : Nat} (g : zq_sc sh h = true) : sh (h + 2) = some (.inr (0, 5)) := (zq_sc_all g).2.2.1
theorem zq_sc_a3 {sh : zq_H} {h : Nat} (g : zq_sc sh h = true) : sh (h + 3) = some (.inr (0, 5)) := (zq_sc_all g).2.2.2.1
theorem zq_sc_a4 {sh : zq_H} {h : Nat} (g : zq_sc sh h = true) : sh (h + 4) = some (.inr (0, 5)) := (zq_sc_all g).2.2.2.2.1
theorem zq_sc_a5 {sh : zq_H} {h : Nat} (g : zq_sc sh h = true) : sh (h + 5) = some (.inr (0, 3)) := (zq_sc_all g).2.2.2.2.2.1
theorem zq_sc_a6 {sh : zq_H} {h : Nat} (g : zq_sc sh h = true) : sh (h + 6) = some (.inr (0, 3)) := (zq_sc_all g).2.2.2.2.2.2.1
theorem zq_sc_a7 {sh : zq_H} {h : Nat} (g : zq_sc sh h = true) : sh (h + 7) = some (.inr (0, 12)) := (zq_sc_all g).2.2.2.2.2.2.2.1
theorem zq_sc_a8 {sh : zq_H} {h : Nat} (g : zq_sc sh h = true) : sh (h + 8) = some (.inr (0, 12)) := (zq_sc_all g).2.2.2.2.2.2.2.2.1
theorem zq_sc_a9 {sh : zq_H} {h : Nat} (g : zq_sc sh h = true) : sh (h + 9) = some (.inr (0, 12)) := (zq_sc_all g).2.2.2.2.2.2.2.2.2
theorem zq_sc_k0 {sh : zq_H} {h : Nat} (g : zq_sc sh h = true) : zq_kd sh h 0 = some (5, 0) := by
  unfold zq_kd
  rw [zq_sc_s g]
  rfl
theorem zq_sc_k1 {sh : zq_H} {h : Nat} (g : zq_sc sh h = true) : zq_kd sh h 1 = some (5, h + 5) := by
  unfold zq_kd
  rw [zq_sc_s g]
  rfl
theorem zq_sc_k2 {sh : zq_H} {h : Nat} (g : zq_sc sh h = true) : zq_kd sh h 2 = some (5, h + 6) := by
  unfold zq_kd
  rw [zq_sc_s g]
  rfl
theorem zq_sc_k3 {sh : zq_H} {h : Nat} (g : zq_sc sh h = true) : zq_kd sh h 3 = some (5, h + 7) := by
  unfold zq_kd
  rw [zq_sc_s g]
  rfl
theorem zq_sc_k4 {sh : zq_H} {h : Nat} (g : zq_sc sh h = true) : zq_kd sh h 4 = some (5, h + 8) := by
  unfold zq_kd
  rw [zq_sc_s g]
  rfl
theorem zq_sc_k5 {sh : zq_H} {h : Nat} (g : zq_sc sh h = true) : zq_kd sh h 5 = some (5, h + 9) := by
  unfold zq_kd
  rw [zq_sc_s g]
  rfl
theorem zq_sc_k6 {sh : zq_H} {h : Nat} (g : zq_sc sh h = true) : zq_kd sh h 6 = some (5, h + 10) := by
  unfold zq_kd
  rw [zq_sc_s g]
  rfl
theorem zq_sc_k7 {sh : zq_H} {h : Nat} (g : zq_sc sh h = true) : zq_kd sh h 7 = some (5, 0) := by
  unfold zq_kd
  rw [zq_sc_s g]
  rfl
theorem zq_sc_k8 {sh : zq_H} {h : Nat} (g : zq_sc sh h = true) : zq_kd sh h 8 = some (5, 0) := by
  unfold zq_kd
  rw [zq_sc_s g]
  rfl
theorem zq_sc_k9 {sh : zq_H} {h : Nat} (g : zq_sc sh h = true) : zq_kd sh h 9 = some (5, h + 11) := by
  unfold zq_kd
  rw [zq_sc_s g]
  rfl
theorem zq_sc_k10 {sh : zq_H} {h : Nat} (g : zq_sc sh h = true) : zq_kd sh h 10 = some (5, h + 12) := by
  unfold zq_kd
  rw [zq_sc_s g]
  rfl
theorem zq_sc_k11 {sh : zq_H} {h : Nat} (g : zq_sc sh h = true) : zq_kd sh h 11 = some (5, 0) := by
  unfold zq_kd
  rw [zq_sc_s g]
  rfl
theorem zq_sc_k12 {sh : zq_H} {h : Nat} (g : zq_sc sh h = true) : zq_kd sh h 12 = some (5, h + 13) := by
  unfold zq_kd
  rw [zq_sc_s g]
  rfl
theorem zq_sc_k13 {sh : zq_H} {h : Nat} (g : zq_sc sh h = true) : zq_kd sh h 13 = some (5, 0) := by
  unfold zq_kd
  rw [zq_sc_s g]
  rfl
theorem zq_sc_k14 {sh : zq_H} {h : Nat} (g : zq_sc sh h = true) : zq_kd sh h 14 = some (5, 0) := by
  unfold zq_kd
  rw [zq_sc_s g]
  rfl
def zq_ta (sh : zq_H) (h : Nat) : Bool := decide (sh (h) = some (.inl (7, [0, 0, h + 5]))) && decide (sh (h + 1) = some (.inr (2, 60)))
theorem zq_ta_all {sh : zq_H} {h : Nat} (g : zq_ta sh h = true) : sh (h) = some (.inl (7, [0, 0, h + 5])) ∧ sh (h + 1) = some (.inr (2, 60)) := by
  unfold zq_ta at g
  simp only [Bool.and_eq_true, decide_eq_true_eq] at g
  obtain ⟨g0, g1⟩ := g
  exact ⟨g0, g1⟩
theorem zq_ta_s {sh : zq_H} {h : Nat} (g : zq_ta sh h = true) : sh h = some (.inl (7, [0, 0, h + 5])) := (zq_ta_all g).1
theorem zq_ta_a1 {sh : zq_H} {h : Nat} (g : zq_ta sh h = true) : sh (h + 1) = some (.inr (2, 60)) := (zq_ta_all g).2
theorem zq_ta_k0 {sh : zq_H} {h : Nat} (g : zq_ta sh h = true) : zq_kd sh h 0 = some (7, 0) := by
  unfold zq_kd
  rw [zq_ta_s g]
  rfl
theorem zq_ta_k1 {sh : zq_H} {h : Nat} (g : zq_ta sh h = true) : zq_kd sh h 1 = some (7, 0) := by
  unfold zq_kd
  rw [zq_ta_s g]
  rfl
theorem zq_ta_k2 {sh : zq_H} {h : Nat} (g : zq_ta sh h = true) : zq_kd sh h 2 = some (7, h + 5) := by
  unfold zq_kd
  rw [zq_ta_s g]
  rfl
def zq_i5 (sh : zq_H) (h : Nat) : Bool := decide (sh h = some (.inr (0, 5)))
theorem zq_i5_s {sh : zq_H} {h : Nat} (g : zq_i5 sh h = true) : sh h = some (.inr (0, 5)) := of_decide_eq_true g
def zq_i100 (sh : zq_H) (h : Nat) : Bool := decide (sh h = some (.inr (0, 100)))
theorem zq_i100_s {sh : zq_H} {h : Nat} (g : zq_i100 sh h = true) : sh h = some (.inr (0, 100)) := of_decide_eq_true g
theorem zi5_of {sh : zq_H} {h : Nat} (g : sh h = some (.inr (0, 5))) : zq_i5 sh h = true := decide_eq_true g
theorem zi5_2 (j : Nat) : zq_i5 (zq_shX j) 2 = true := decide_eq_true rfl
theorem zi5_3 (j : Nat) : zq_i5 (zq_shX j) 3 = true := decide_eq_true rfl
theorem zi5_12 (j : Nat) : zq_i5 (zq_shX j) 12 = true := decide_eq_true rfl
theorem zi5_13 (j : Nat) : zq_i5 (zq_shX j) 13 = true := decide_eq_true rfl
theorem zi100_21 (j : Nat) : zq_i100 (zq_shX j) 21 = true := decide_eq_true rfl
theorem zsc_1 (j : Nat) : zq_sc (zq_shX j) 1 = true := by
  unfold zq_sc
  simp only [Bool.and_eq_true, decide_eq_true_eq]
  exact ⟨⟨⟨⟨⟨⟨⟨⟨⟨rfl, rfl⟩, rfl⟩, rfl⟩, rfl⟩, rfl⟩, rfl⟩, rfl⟩, rfl⟩, rfl⟩
theorem zsc_11 (j : Nat) : zq_sc (zq_shX j) 11 = true := by
  unfold zq_sc
  simp only [Bool.and_eq_true, decide_eq_true_eq]
  exact ⟨⟨⟨⟨⟨⟨⟨⟨⟨rfl, rfl⟩, rfl⟩, rfl⟩, rfl⟩, rfl⟩, rfl⟩, rfl⟩, rfl⟩, rfl⟩
theorem zho_23 (j : Nat) : zq_ho (zq_shX j) 23 = true := by
  unfold zq_ho
  simp only [Bool.and_eq_true, decide_eq_true_eq]
  exact ⟨⟨⟨⟨rfl, rfl⟩, rfl⟩, rfl⟩, rfl⟩
theorem zho_30 (j : Nat) : zq_ho (zq_shX j) 30 = true := by
  unfold zq_ho
  simp only [Bool.and_eq_true, decide_eq_true_eq]
  exact ⟨⟨⟨⟨rfl, rfl⟩, rfl⟩, rfl⟩, rfl⟩
theorem zta_57 (j : Nat) : zq_ta (zq_shX j) 57 = true := by
  unfold zq_ta
  simp only [Bool.and_eq_true, decide_eq_true_eq]
  exact ⟨rfl, rfl⟩
theorem zta_59 (j : Nat) : zq_ta (zq_shX j) 59 = true := by
  unfold zq_ta
  simp only [Bool.and_eq_true, decide_eq_true_eq]
  exact ⟨rfl, rfl⟩
theorem zta_61 (j : Nat) : zq_ta (zq_shX j) 61 = true := by
  unfold zq_ta
  simp only [Bool.and_eq_true, decide_eq_true_eq]
  exact ⟨rfl, rfl⟩
theorem zta_63 (j : Nat) : zq_ta (zq_shX j) 63 = true := by
  unfold zq_ta
  simp only [Bool.and_eq_true, decide_eq_true_eq]
  exact ⟨rfl, rfl⟩
theorem zta_65 (j : Nat) : zq_ta (zq_shX j) 65 = true := by
  unfold zq_ta
  simp only [Bool.and_eq_true, decide_eq_true_eq]
  exact ⟨rfl, rfl⟩
theorem zta_67 (j : Nat) : zq_ta (zq_shX j) 67 = true := by
  unfold zq_ta
  simp only [Bool.and_eq_true, decide_eq_true_eq]
  exact ⟨rfl, rfl⟩
theorem zn_0_0 : zq_nf 0 0 true (.array .int) := ⟨rfl, fun q h => by cases h; rfl⟩
theorem zn_0_1 : zq_nf 0 1 false .int := ⟨rfl, fun q h => by cases h; rfl⟩
theorem zn_0_2 : zq_nf 0 2 false .int := ⟨rfl, fun q h => by cases h; rfl⟩
theorem zn_0_3 : zq_nf 0 3 false .int := ⟨rfl, fun q h => by cases h; rfl⟩
theorem zn_0_4 : zq_nf 0 4 false .int := ⟨rfl, fun q h => by cases h; rfl⟩
theorem zn_1_0 : zq_nf 1 0 true (.object "MiddleSpeaks$Standing") := ⟨rfl, fun q h => by cases h; rfl⟩
theorem zn_1_1 : zq_nf 1 1 true (.array .int) := ⟨rfl, fun q h => by cases h; rfl⟩
theorem zn_1_2 : zq_nf 1 2 true (.array .int) := ⟨rfl, fun q h => by cases h; rfl⟩
theorem zn_1_3 : zq_nf 1 3 true (.array .int) := ⟨rfl, fun q h => by cases h; rfl⟩
theorem zn_1_4 : zq_nf 1 4 true (.array .int) := ⟨rfl, fun q h => by cases h; rfl⟩
theorem zn_1_5 : zq_nf 1 5 true (.array .int) := ⟨rfl, fun q h => by cases h; rfl⟩
theorem zn_1_6 : zq_nf 1 6 false .int := ⟨rfl, fun q h => by cases h; rfl⟩
theorem zn_2_0 : zq_nf 2 0 false .int := ⟨rfl, fun q h => by cases h; rfl⟩
theorem zn_2_1 : zq_nf 2 1 true (.array .int) := ⟨rfl, fun q h => by cases h; rfl⟩
theorem zn_2_2 : zq_nf 2 2 true (.array .int) := ⟨rfl, fun q h => by cases h; rfl⟩
theorem zn_2_3 : zq_nf 2 3 true (.array .int) := ⟨rfl, fun q h => by cases h; rfl⟩
theorem zn_2_4 : zq_nf 2 4 true (.array .int) := ⟨rfl, fun q h => by cases h; rfl⟩
theorem zn_2_5 : zq_nf 2 5 false .int := ⟨rfl, fun q h => by cases h; rfl⟩
theorem zn_2_6 : zq_nf 2 6 false .int := ⟨rfl, fun q h => by cases h; rfl⟩
theorem zn_3_0 : zq_nf 3 0 false (.array .int) := ⟨rfl, fun q h => by cases h; rfl⟩
theorem zn_3_1 : zq_nf 3 1 false .int := ⟨rfl, fun q h => by cases h; rfl⟩
theorem zn_3_2 : zq_nf 3 2 false .int := ⟨rfl, fun q h => by cases h; rfl⟩
theorem zn_3_3 : zq_nf 3 3 false (.object "MiddleSpeaks$House") := ⟨rfl, fun q h => by cases h; rfl⟩
theorem zn_4_0 : zq_nf 4 0 true (.object "MiddleSpeaks$Scene") := ⟨rfl, fun q h => by cases h; rfl⟩
theorem zn_4_1 : zq_nf 4 1 true (.array .int) := ⟨rfl, fun q h => by cases h; rfl⟩
theorem zn_5_0 : zq_nf 5 0 false .int := ⟨rfl, fun q h => by cases h; rfl⟩
theorem zn_5_1 : zq_nf 5 1 true (.array .int) := ⟨rfl, fun q h => by cases h; rfl⟩
theorem zn_5_2 : zq_nf 5 2 true (.array .int) := ⟨rfl, fun q h => by cases h; rfl⟩
theorem zn_5_3 : zq_nf 5 3 true (.array .int) := ⟨rfl, fun q h => by cases h; rfl⟩
theorem zn_5_4 : zq_nf 5 4 true (.array .int) := ⟨rfl, fun q h => by cases h; rfl⟩
theorem zn_5_5 : zq_nf 5 5 true (.array .int) := ⟨rfl, fun q h => by cases h; rfl⟩
theorem zn_5_6 : zq_nf 5 6 true (.array .int) := ⟨rfl, fun q h => by cases h; rfl⟩
theorem zn_5_7 : zq_nf 5 7 false .int := ⟨rfl, fun q h => by cases h; rfl⟩
theorem zn_5_8 : zq_nf 5 8 false .int := ⟨rfl, fun q h => by cases h; rfl⟩
theorem zn_5_9 : zq_nf 5 9 true (.array .int) := ⟨rfl, fun q h => by cases h; rfl⟩
theorem zn_5_10 : zq_nf 5 10 true (.array .int) := ⟨rfl, fun q h => by cases h; rfl⟩
theorem zn_5_11 : zq_nf 5 11 false .int := ⟨rfl, fun q h => by cases h; rfl⟩
theorem zn_5_12 : zq_nf 5 12 true (.array .int) := ⟨rfl, fun q h => by cases h; rfl⟩
theorem zn_5_13 : zq_nf 5 13 false .int := ⟨rfl, fun q h => by cases h; rfl⟩
theorem zn_5_14 : zq_nf 5 14 false .int := ⟨rfl, fun q h => by cases h; rfl⟩
theorem zn_6_0 : zq_nf 6 0 true (.object "MiddleSpeaks$Scene") := ⟨rfl, fun q h => by cases h; rfl⟩
theorem zn_6_1 : zq_nf 6 1 false (.object "MiddleSpeaks$House") := ⟨rfl, fun q h => by cases h; rfl⟩
theorem zn_6_2 : zq_nf 6 2 true (.array .int) := ⟨rfl, fun q h => by cases h; rfl⟩
theorem zn_6_3 : zq_nf 6 3 true (.array .int) := ⟨rfl, fun q h => by cases h; rfl⟩
theorem zn_6_4 : zq_nf 6 4 true (.array .int) := ⟨rfl, fun q h => by cases h; rfl⟩
theorem zn_6_5 : zq_nf 6 5 true (.array .int) := ⟨rfl, fun q h => by cases h; rfl⟩
theorem zn_6_6 : zq_nf 6 6 true (.array .boolean) := ⟨rfl, fun q h => by cases h; rfl⟩
theorem zn_7_0 : zq_nf 7 0 false .int := ⟨rfl, fun q h => by cases h; rfl⟩
theorem zn_7_1 : zq_nf 7 1 false .int := ⟨rfl, fun q h => by cases h; rfl⟩
theorem zn_7_2 : zq_nf 7 2 true (.array .long) := ⟨rfl, fun q h => by cases h; rfl⟩
theorem zn_8_0 : zq_nf 8 0 true (.object "MiddleSpeaks$Standing") := ⟨rfl, fun q h => by cases h; rfl⟩
theorem zn_9_0 : zq_nf 9 0 true (.object "MiddleSpeaks$Standing") := ⟨rfl, fun q h => by cases h; rfl⟩
theorem zn_9_1 : zq_nf 9 1 true (.array .int) := ⟨rfl, fun q h => by cases h; rfl⟩
theorem zn_9_2 : zq_nf 9 2 true (.array .int) := ⟨rfl, fun q h => by cases h; rfl⟩
theorem zn_9_3 : zq_nf 9 3 true (.array .int) := ⟨rfl, fun q h => by cases h; rfl⟩
theorem zn_9_4 : zq_nf 9 4 false .int := ⟨rfl, fun q h => by cases h; rfl⟩
theorem zn_9_5 : zq_nf 9 5 false .int := ⟨rfl, fun q h => by cases h; rfl⟩
theorem zn_9_6 : zq_nf 9 6 false .boolean := ⟨rfl, fun q h => by cases h; rfl⟩
theorem zn_9_7 : zq_nf 9 7 false .boolean := ⟨rfl, fun q h => by cases h; rfl⟩
theorem zn_10_0 : zq_nf 10 0 true (.object "MiddleSpeaks$Scene") := ⟨rfl, fun q h => by cases h; rfl⟩
theorem zn_10_1 : zq_nf 10 1 true (.object "MiddleSpeaks$Scene") := ⟨rfl, fun q h => by cases h; rfl⟩
theorem zn_10_2 : zq_nf 10 2 false .boolean := ⟨rfl, fun q h => by cases h; rfl⟩
theorem zn_10_3 : zq_nf 10 3 true (.array .int) := ⟨rfl, fun q h => by cases h; rfl⟩
theorem zn_10_4 : zq_nf 10 4 false .int := ⟨rfl, fun q h => by cases h; rfl⟩
theorem zn_10_5 : zq_nf 10 5 true (.array (.object "MiddleSpeaks$House")) := ⟨rfl, fun q h => by cases h; rfl⟩
theorem zn_10_6 : zq_nf 10 6 false .int := ⟨rfl, fun q h => by cases h; rfl⟩
theorem zn_10_7 : zq_nf 10 7 true (.object "MiddleSpeaks$House") := ⟨rfl, fun q h => by cases h; rfl⟩
theorem zn_10_8 : zq_nf 10 8 true (.object "MiddleSpeaks$HouseReader") := ⟨rfl, fun q h => by cases h; rfl⟩
theorem zn_10_9 : zq_nf 10 9 true (.object "MiddleSpeaks$Standing") := ⟨rfl, fun q h => by cases h; rfl⟩
theorem zn_10_10 : zq_nf 10 10 true (.object "MiddleSpeaks$Walk") := ⟨rfl, fun q h => by cases h; rfl⟩
theorem zn_10_11 : zq_nf 10 11 true (.object "MiddleSpeaks$Hearing") := ⟨rfl, fun q h => by cases h; rfl⟩
theorem zn_10_12 : zq_nf 10 12 true (.object "MiddleSpeaks$Turns") := ⟨rfl, fun q h => by cases h; rfl⟩
theorem zn_10_13 : zq_nf 10 13 true (.object "MiddleSpeaks$Orders") := ⟨rfl, fun q h => by cases h; rfl⟩
theorem zn_10_14 : zq_nf 10 14 true (.object "MiddleSpeaks$Acts") := ⟨rfl, fun q h => by cases h; rfl⟩
theorem zn_10_15 : zq_nf 10 15 true (.array (.object "MiddleSpeaks$Tape")) := ⟨rfl, fun q h => by cases h; rfl⟩
theorem zn_11_0 : zq_nf 11 0 false .int := ⟨rfl, fun q h => by cases h; rfl⟩
theorem zn_11_1 : zq_nf 11 1 false .int := ⟨rfl, fun q h => by cases h; rfl⟩
theorem zn_11_2 : zq_nf 11 2 false .int := ⟨rfl, fun q h => by cases h; rfl⟩
theorem zn_11_3 : zq_nf 11 3 false .int := ⟨rfl, fun q h => by cases h; rfl⟩
theorem zn_11_4 : zq_nf 11 4 true (.array .int) := ⟨rfl, fun q h => by cases h; rfl⟩
theorem zn_11_5 : zq_nf 11 5 true (.array .int) := ⟨rfl, fun q h => by cases h; rfl⟩
theorem zn_11_6 : zq_nf 11 6 true (.array .int) := ⟨rfl, fun q h => by cases h; rfl⟩
theorem zn_11_7 : zq_nf 11 7 true (.array .int) := ⟨rfl, fun q h => by cases h; rfl⟩
theorem zn_11_8 : zq_nf 11 8 true (.array .int) := ⟨rfl, fun q h => by cases h; rfl⟩
theorem zn_11_9 : zq_nf 11 9 false .int := ⟨rfl, fun q h => by cases h; rfl⟩
theorem zn_11_10 : zq_nf 11 10 false .int := ⟨rfl, fun q h => by cases h; rfl⟩
theorem zn_11_11 : zq_nf 11 11 false .int := ⟨rfl, fun q h => by cases h; rfl⟩
theorem zn_11_12 : zq_nf 11 12 false .int := ⟨rfl, fun q h => by cases h; rfl⟩
theorem zn_11_13 : zq_nf 11 13 false .int := ⟨rfl, fun q h => by cases h; rfl⟩
theorem zn_11_14 : zq_nf 11 14 false .int := ⟨rfl, fun q h => by cases h; rfl⟩
theorem zn_11_15 : zq_nf 11 15 true (.array .int) := ⟨rfl, fun q h => by cases h; rfl⟩
theorem zn_11_16 : zq_nf 11 16 true (.array .int) := ⟨rfl, fun q h => by cases h; rfl⟩
theorem zn_11_17 : zq_nf 11 17 true (.array .int) := ⟨rfl, fun q h => by cases h; rfl⟩
theorem zn_11_18 : zq_nf 11 18 true (.array .int) := ⟨rfl, fun q h => by cases h; rfl⟩
theorem zn_11_19 : zq_nf 11 19 true (.array .int) := ⟨rfl, fun q h => by cases h; rfl⟩
theorem zn_11_20 : zq_nf 11 20 true (.array .int) := ⟨rfl, fun q h => by cases h; rfl⟩
theorem zn_11_21 : zq_nf 11 21 true (.array .int) := ⟨rfl, fun q h => by cases h; rfl⟩
theorem zn_11_22 : zq_nf 11 22 true (.array .int) := ⟨rfl, fun q h => by cases h; rfl⟩
theorem zn_11_23 : zq_nf 11 23 false .int := ⟨rfl, fun q h => by cases h; rfl⟩
theorem zn_11_24 : zq_nf 11 24 false .int := ⟨rfl, fun q h => by cases h; rfl⟩
theorem zn_11_25 : zq_nf 11 25 false .int := ⟨rfl, fun q h => by cases h; rfl⟩
theorem zn_11_26 : zq_nf 11 26 true (.array .int) := ⟨rfl, fun q h => by cases h; rfl⟩
theorem zn_11_27 : zq_nf 11 27 true (.array .boolean) := ⟨rfl, fun q h => by cases h; rfl⟩
theorem zn_11_28 : zq_nf 11 28 true (.array .int) := ⟨rfl, fun q h => by cases h; rfl⟩
theorem zn_11_29 : zq_nf 11 29 true (.array .boolean) := ⟨rfl, fun q h => by cases h; rfl⟩
theorem zn_11_30 : zq_nf 11 30 true (.array .boolean) := ⟨rfl, fun q h => by cases h; rfl⟩
theorem zn_11_31 : zq_nf 11 31 true (.array .boolean) := ⟨rfl, fun q h => by cases h; rfl⟩
theorem zn_11_32 : zq_nf 11 32 true (.array .int) := ⟨rfl, fun q h => by cases h; rfl⟩
theorem zn_11_33 : zq_nf 11 33 true (.array .int) := ⟨rfl, fun q h => by cases h; rfl⟩
theorem zn_11_34 : zq_nf 11 34 true (.array .boolean) := ⟨rfl, fun q h => by cases h; rfl⟩
theorem zn_11_35 : zq_nf 11 35 true (.array .boolean) := ⟨rfl, fun q h => by cases h; rfl⟩
theorem zn_11_36 : zq_nf 11 36 false .int := ⟨rfl, fun q h => by cases h; rfl⟩
theorem zn_11_37 : zq_nf 11 37 true (.array .int) := ⟨rfl, fun q h => by cases h; rfl⟩
theorem zn_11_38 : zq_nf 11 38 true (.array .int) := ⟨rfl, fun q h => by cases h; rfl⟩
theorem zn_11_39 : zq_nf 11 39 true (.array .int) := ⟨rfl, fun q h => by cases h; rfl⟩
theorem zn_11_40 : zq_nf 11 40 false .long := ⟨rfl, fun q h => by cases h; rfl⟩
theorem zn_11_41 : zq_nf 11 41 false .long := ⟨rfl, fun q h => by cases h; rfl⟩
theorem zn_11_42 : zq_nf 11 42 false .int := ⟨rfl, fun q h => by cases h; rfl⟩
theorem zn_11_43 : zq_nf 11 43 true (.array .int) := ⟨rfl, fun q h => by cases h; rfl⟩
theorem zn_11_44 : zq_nf 11 44 true (.array .int) := ⟨rfl, fun q h => by cases h; rfl⟩
theorem zn_11_45 : zq_nf 11 45 false .boolean := ⟨rfl, fun q h => by cases h; rfl⟩
theorem zn_11_46 : zq_nf 11 46 false .int := ⟨rfl, fun q h => by cases h; rfl⟩
theorem zn_11_47 : zq_nf 11 47 false .int := ⟨rfl, fun q h => by cases h; rfl⟩
theorem zn_11_48 : zq_nf 11 48 false .int := ⟨rfl, fun q h => by cases h; rfl⟩
theorem zn_11_49 : zq_nf 11 49 false .int := ⟨rfl, fun q h => by cases h; rfl⟩
theorem zn_11_50 : zq_nf 11 50 false .int := ⟨rfl, fun q h => by cases h; rfl⟩
theorem zn_11_51 : zq_nf 11 51 false .int := ⟨rfl, fun q h => by cases h; rfl⟩
theorem zn_11_52 : zq_nf 11 52 false .int := ⟨rfl, fun q h => by cases h; rfl⟩
theorem zn_11_53 : zq_nf 11 53 true (.array .int) := ⟨rfl, fun q h => by cases h; rfl⟩
theorem zn_11_54 : zq_nf 11 54 true (.array .int) := ⟨rfl, fun q h => by cases h; rfl⟩
theorem zn_11_55 : zq_nf 11 55 true (.array .int) := ⟨rfl, fun q h => by cases h; rfl⟩
theorem zn_11_56 : zq_nf 11 56 true (.array .int) := ⟨rfl, fun q h => by cases h; rfl⟩
theorem zn_11_57 : zq_nf 11 57 true (.array .int) := ⟨rfl, fun q h => by cases h; rfl⟩
theorem zn_11_58 : zq_nf 11 58 true (.array .int) := ⟨rfl, fun q h => by cases h; rfl⟩
theorem zn_11_59 : zq_nf 11 59 true (.array .int) := ⟨rfl, fun q h => by cases h; rfl⟩
theorem zn_11_60 : zq_nf 11 60 true (.array .int) := ⟨rfl, fun q h => by cases h; rfl⟩
theorem zn_11_61 : zq_nf 11 61 false .int := ⟨rfl, fun q h => by cases h; rfl⟩
theorem zn_11_62 : zq_nf 11 62 true (.array .int) := ⟨rfl, fun q h => by cases h; rfl⟩
theorem zn_11_63 : zq_nf 11 63 true (.array .int) := ⟨rfl, fun q h => by cases h; rfl⟩
theorem zn_11_64 : zq_nf 11 64 true (.array .int) := ⟨rfl, fun q h => by cases h; rfl⟩
theorem zn_11_65 : zq_nf 11 65 true (.array .long) := ⟨rfl, fun q h => by cases h; rfl⟩
theorem zn_11_66 : zq_nf 11 66 true (.array .long) := ⟨rfl, fun q h => by cases h; rfl⟩
