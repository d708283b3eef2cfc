theorem zd_X0_init : zq_cd YX0_init 0 ∧ Cond.instanceMethod yX0_init ∈ zq_T := ⟨⟨zq_mem 411 (by decide +kernel) rfl, zq_mem 133 (by decide +kernel) rfl, ⟨by decide +kernel, by decide +kernel, by decide +kernel⟩, by decide +kernel, Nat.le_of_ble_eq_true rfl⟩, zq_mem 410 (by decide +kernel) rfl⟩
theorem zd_X0_forget : zq_cd YX0_forget 0 ∧ Cond.instanceMethod yX0_forget ∈ zq_T ∧ Cond.selects yX0_forget.cls yX0_forget yX0_forget ∈ zq_T := ⟨⟨zq_mem 1114 (by decide +kernel) rfl, zq_mem 133 (by decide +kernel) rfl, ⟨by decide +kernel, by decide +kernel, by decide +kernel⟩, by decide +kernel, Nat.le_of_ble_eq_true rfl⟩, zq_mem 1112 (by decide +kernel) rfl, zq_mem 1113 (by decide +kernel) rfl⟩
theorem zd_X0_bodyAt : zq_cd YX0_bodyAt 1 ∧ Cond.instanceMethod yX0_bodyAt ∈ zq_T ∧ Cond.selects yX0_bodyAt.cls yX0_bodyAt yX0_bodyAt ∈ zq_T := ⟨⟨zq_mem 1141 (by decide +kernel) rfl, zq_mem 133 (by decide +kernel) rfl, ⟨by decide +kernel, by decide +kernel, by decide +kernel⟩, by decide +kernel, Nat.le_of_ble_eq_true rfl⟩, zq_mem 1139 (by decide +kernel) rfl, zq_mem 1140 (by decide +kernel) rfl⟩
theorem zd_X0_start : zq_cd YX0_start 5 ∧ Cond.instanceMethod yX0_start ∈ zq_T ∧ Cond.selects yX0_start.cls yX0_start yX0_start ∈ zq_T := ⟨⟨zq_mem 1118 (by decide +kernel) rfl, zq_mem 133 (by decide +kernel) rfl, ⟨by decide +kernel, by decide +kernel, by decide +kernel⟩, by decide +kernel, Nat.le_of_ble_eq_true rfl⟩, zq_mem 1116 (by decide +kernel) rfl, zq_mem 1117 (by decide +kernel) rfl⟩
theorem zd_X0_bodyFrom : zq_cd YX0_bodyFrom 2 ∧ Cond.static yX0_bodyFrom ∈ zq_T := ⟨⟨zq_mem 1125 (by decide +kernel) rfl, zq_mem 133 (by decide +kernel) rfl, ⟨by decide +kernel, by decide +kernel, by decide +kernel⟩, by decide +kernel, Nat.le_of_ble_eq_true rfl⟩, zq_mem 1124 (by decide +kernel) rfl⟩
theorem zd_X0_doFrom : zq_cd YX0_doFrom 4 ∧ Cond.instanceMethod yX0_doFrom ∈ zq_T ∧ Cond.selects yX0_doFrom.cls yX0_doFrom yX0_doFrom ∈ zq_T := ⟨⟨zq_mem 1122 (by decide +kernel) rfl, zq_mem 133 (by decide +kernel) rfl, ⟨by decide +kernel, by decide +kernel, by decide +kernel⟩, by decide +kernel, Nat.le_of_ble_eq_true rfl⟩, zq_mem 1121 (by decide +kernel) rfl, zq_mem 46 (by decide +kernel) rfl⟩
theorem zd_X0_note : zq_cd YX0_note 1 ∧ Cond.instanceMethod yX0_note ∈ zq_T ∧ Cond.selects yX0_note.cls yX0_note yX0_note ∈ zq_T := ⟨⟨zq_mem 1133 (by decide +kernel) rfl, zq_mem 133 (by decide +kernel) rfl, ⟨by decide +kernel, by decide +kernel, by decide +kernel⟩, by decide +kernel, Nat.le_of_ble_eq_true rfl⟩, zq_mem 1132 (by decide +kernel) rfl, zq_mem 47 (by decide +kernel) rfl⟩
theorem zd_X1_init : zq_cd YX1_init 1 ∧ Cond.instanceMethod yX1_init ∈ zq_T := ⟨⟨zq_mem 360 (by decide +kernel) rfl, zq_mem 130 (by decide +kernel) rfl, ⟨by decide +kernel, by decide +kernel, by decide +kernel⟩, by decide +kernel, Nat.le_of_ble_eq_true rfl⟩, zq_mem 359 (by decide +kernel) rfl⟩
theorem zd_X1_setsOfOneWithout : zq_cd YX1_setsOfOneWithout 2 ∧ Cond.static yX1_setsOfOneWithout ∈ zq_T := ⟨⟨zq_mem 988 (by decide +kernel) rfl, zq_mem 130 (by decide +kernel) rfl, ⟨by decide +kernel, by decide +kernel, by decide +kernel⟩, by decide +kernel, Nat.le_of_ble_eq_true rfl⟩, zq_mem 987 (by decide +kernel) rfl⟩
theorem zd_X1_fewestTill : zq_cd YX1_fewestTill 2 ∧ Cond.instanceMethod yX1_fewestTill ∈ zq_T ∧ Cond.selects yX1_fewestTill.cls yX1_fewestTill yX1_fewestTill ∈ zq_T := ⟨⟨zq_mem 947 (by decide +kernel) rfl, zq_mem 130 (by decide +kernel) rfl, ⟨by decide +kernel, by decide +kernel, by decide +kernel⟩, by decide +kernel, Nat.le_of_ble_eq_true rfl⟩, zq_mem 945 (by decide +kernel) rfl, zq_mem 946 (by decide +kernel) rfl⟩
theorem zd_X1_goOn : zq_cd YX1_goOn 0 ∧ Cond.instanceMethod yX1_goOn ∈ zq_T ∧ Cond.selects yX1_goOn.cls yX1_goOn yX1_goOn ∈ zq_T := ⟨⟨zq_mem 953 (by decide +kernel) rfl, zq_mem 130 (by decide +kernel) rfl, ⟨by decide +kernel, by decide +kernel, by decide +kernel⟩, by decide +kernel, Nat.le_of_ble_eq_true rfl⟩, zq_mem 952 (by decide +kernel) rfl, zq_mem 32 (by decide +kernel) rfl⟩
theorem zd_X1_leave : zq_cd YX1_leave 1 ∧ Cond.instanceMethod yX1_leave ∈ zq_T ∧ Cond.selects yX1_leave.cls yX1_leave yX1_leave ∈ zq_T := ⟨⟨zq_mem 957 (by decide +kernel) rfl, zq_mem 130 (by decide +kernel) rfl, ⟨by decide +kernel, by decide +kernel, by decide +kernel⟩, by decide +kernel, Nat.le_of_ble_eq_true rfl⟩, zq_mem 956 (by decide +kernel) rfl, zq_mem 33 (by decide +kernel) rfl⟩
theorem zd_X1_sayAll : zq_cd YX1_sayAll 1 ∧ Cond.instanceMethod yX1_sayAll ∈ zq_T ∧ Cond.selects yX1_sayAll.cls yX1_sayAll yX1_sayAll ∈ zq_T := ⟨⟨zq_mem 972 (by decide +kernel) rfl, zq_mem 130 (by decide +kernel) rfl, ⟨by decide +kernel, by decide +kernel, by decide +kernel⟩, by decide +kernel, Nat.le_of_ble_eq_true rfl⟩, zq_mem 971 (by decide +kernel) rfl, zq_mem 35 (by decide +kernel) rfl⟩
theorem zd_X1_tellSpeakers : zq_cd YX1_tellSpeakers 1 ∧ Cond.instanceMethod yX1_tellSpeakers ∈ zq_T ∧ Cond.selects yX1_tellSpeakers.cls yX1_tellSpeakers yX1_tellSpeakers ∈ zq_T := ⟨⟨zq_mem 966 (by decide +kernel) rfl, zq_mem 130 (by decide +kernel) rfl, ⟨by decide +kernel, by decide +kernel, by decide +kernel⟩, by decide +kernel, Nat.le_of_ble_eq_true rfl⟩, zq_mem 965 (by decide +kernel) rfl, zq_mem 34 (by decide +kernel) rfl⟩
theorem zd_X1_saidIn : zq_cd YX1_saidIn 1 ∧ Cond.instanceMethod yX1_saidIn ∈ zq_T ∧ Cond.selects yX1_saidIn.cls yX1_saidIn yX1_saidIn ∈ zq_T := ⟨⟨zq_mem 976 (by decide +kernel) rfl, zq_mem 130 (by decide +kernel) rfl, ⟨by decide +kernel, by decide +kernel, by decide +kernel⟩, by decide +kernel, Nat.le_of_ble_eq_true rfl⟩, zq_mem 975 (by decide +kernel) rfl, zq_mem 36 (by decide +kernel) rfl⟩
theorem zd_X1_knowingThen : zq_cd YX1_knowingThen 1 ∧ Cond.instanceMethod yX1_knowingThen ∈ zq_T ∧ Cond.selects yX1_knowingThen.cls yX1_knowingThen yX1_knowingThen ∈ zq_T := ⟨⟨zq_mem 981 (by decide +kernel) rfl, zq_mem 130 (by decide +kernel) rfl, ⟨by decide +kernel, by decide +kernel, by decide +kernel⟩, by decide +kernel, Nat.le_of_ble_eq_true rfl⟩, zq_mem 980 (by decide +kernel) rfl, zq_mem 37 (by decide +kernel) rfl⟩
theorem zd_X2_init : zq_cd YX2_init 0 ∧ Cond.instanceMethod yX2_init ∈ zq_T := ⟨⟨zq_mem 246 (by decide +kernel) rfl, zq_mem 126 (by decide +kernel) rfl, ⟨by decide +kernel, by decide +kernel, by decide +kernel⟩, by decide +kernel, Nat.le_of_ble_eq_true rfl⟩, zq_mem 245 (by decide +kernel) rfl⟩
theorem zd_X2_addStep : zq_cd YX2_addStep 1 ∧ Cond.instanceMethod yX2_addStep ∈ zq_T ∧ Cond.selects yX2_addStep.cls yX2_addStep yX2_addStep ∈ zq_T := ⟨⟨zq_mem 750 (by decide +kernel) rfl, zq_mem 126 (by decide +kernel) rfl, ⟨by decide +kernel, by decide +kernel, by decide +kernel⟩, by decide +kernel, Nat.le_of_ble_eq_true rfl⟩, zq_mem 748 (by decide +kernel) rfl, zq_mem 749 (by decide +kernel) rfl⟩
theorem zd_X2_addTest : zq_cd YX2_addTest 3 ∧ Cond.instanceMethod yX2_addTest ∈ zq_T ∧ Cond.selects yX2_addTest.cls yX2_addTest yX2_addTest ∈ zq_T := ⟨⟨zq_mem 746 (by decide +kernel) rfl, zq_mem 126 (by decide +kernel) rfl, ⟨by decide +kernel, by decide +kernel, by decide +kernel⟩, by decide +kernel, Nat.le_of_ble_eq_true rfl⟩, zq_mem 744 (by decide +kernel) rfl, zq_mem 745 (by decide +kernel) rfl⟩
theorem zd_X2_addClause : zq_cd YX2_addClause 2 ∧ Cond.instanceMethod yX2_addClause ∈ zq_T ∧ Cond.selects yX2_addClause.cls yX2_addClause yX2_addClause ∈ zq_T := ⟨⟨zq_mem 755 (by decide +kernel) rfl, zq_mem 126 (by decide +kernel) rfl, ⟨by decide +kernel, by decide +kernel, by decide +kernel⟩, by decide +kernel, Nat.le_of_ble_eq_true rfl⟩, zq_mem 753 (by decide +kernel) rfl, zq_mem 754 (by decide +kernel) rfl⟩
theorem zd_X2_together : zq_cd YX2_together 2 ∧ Cond.instanceMethod yX2_together ∈ zq_T ∧ Cond.selects yX2_together.cls yX2_together yX2_together ∈ zq_T := ⟨⟨zq_mem 790 (by decide +kernel) rfl, zq_mem 126 (by decide +kernel) rfl, ⟨by decide +kernel, by decide +kernel, by decide +kernel⟩, by decide +kernel, Nat.le_of_ble_eq_true rfl⟩, zq_mem 788 (by decide +kernel) rfl, zq_mem 789 (by decide +kernel) rfl⟩
theorem zd_X2_hasBar : zq_cd YX2_hasBar 1 ∧ Cond.instanceMethod yX2_hasBar ∈ zq_T ∧ Cond.selects yX2_hasBar.cls yX2_hasBar yX2_hasBar ∈ zq_T := ⟨⟨zq_mem 809 (by decide +kernel) rfl, zq_mem 126 (by decide +kernel) rfl, ⟨by decide +kernel, by decide +kernel, by decide +kernel⟩, by decide +kernel, Nat.le_of_ble_eq_true rfl⟩, zq_mem 807 (by decide +kernel) rfl, zq_mem 808 (by decide +kernel) rfl⟩
theorem zd_X2_holdsIn : zq_cd YX2_holdsIn 2 ∧ Cond.instanceMethod yX2_holdsIn ∈ zq_T ∧ Cond.selects yX2_holdsIn.cls yX2_holdsIn yX2_holdsIn ∈ zq_T := ⟨⟨zq_mem 794 (by decide +kernel) rfl, zq_mem 126 (by decide +kernel) rfl, ⟨by decide +kernel, by decide +kernel, by decide +kernel⟩, by decide +kernel, Nat.le_of_ble_eq_true rfl⟩, zq_mem 793 (by decide +kernel) rfl, zq_mem 20 (by decide +kernel) rfl⟩
theorem zd_X2_testHolds : zq_cd YX2_testHolds 2 ∧ Cond.static yX2_testHolds ∈ zq_T := ⟨⟨zq_mem 797 (by decide +kernel) rfl, zq_mem 126 (by decide +kernel) rfl, ⟨by decide +kernel, by decide +kernel, by decide +kernel⟩, by decide +kernel, Nat.le_of_ble_eq_true rfl⟩, zq_mem 796 (by decide +kernel) rfl⟩
theorem zd_X3_init : zq_cd YX3_init 0 ∧ Cond.instanceMethod yX3_init ∈ zq_T := ⟨⟨zq_mem 276 (by decide +kernel) rfl, zq_mem 127 (by decide +kernel) rfl, ⟨by decide +kernel, by decide +kernel, by decide +kernel⟩, by decide +kernel, Nat.le_of_ble_eq_true rfl⟩, zq_mem 275 (by decide +kernel) rfl⟩
theorem zd_X3_readInto : zq_cd YX3_readInto 3 ∧ Cond.instanceMethod yX3_readInto ∈ zq_T ∧ Cond.selects yX3_readInto.cls yX3_readInto yX3_readInto ∈ zq_T := ⟨⟨zq_mem 587 (by decide +kernel) rfl, zq_mem 127 (by decide +kernel) rfl, ⟨by decide +kernel, by decide +kernel, by decide +kernel⟩, by decide +kernel, Nat.le_of_ble_eq_true rfl⟩, zq_mem 585 (by decide +kernel) rfl, zq_mem 586 (by decide +kernel) rfl⟩
theorem zd_X3_readClause : zq_cd YX3_readClause 0 ∧ Cond.instanceMethod yX3_readClause ∈ zq_T ∧ Cond.selects yX3_readClause.cls yX3_readClause yX3_readClause ∈ zq_T := ⟨⟨zq_mem 594 (by decide +kernel) rfl, zq_mem 127 (by decide +kernel) rfl, ⟨by decide +kernel, by decide +kernel, by decide +kernel⟩, by decide +kernel, Nat.le_of_ble_eq_true rfl⟩, zq_mem 593 (by decide +kernel) rfl, zq_mem 7 (by decide +kernel) rfl⟩
theorem zd_X3_readWord : zq_cd YX3_readWord 0 ∧ Cond.instanceMethod yX3_readWord ∈ zq_T ∧ Cond.selects yX3_readWord.cls yX3_readWord yX3_readWord ∈ zq_T := ⟨⟨zq_mem 598 (by decide +kernel) rfl, zq_mem 127 (by decide +kernel) rfl, ⟨by decide +kernel, by decide +kernel, by decide +kernel⟩, by decide +kernel, Nat.le_of_ble_eq_true rfl⟩, zq_mem 597 (by decide +kernel) rfl, zq_mem 8 (by decide +kernel) rfl⟩
theorem zd_X3_readAny : zq_cd YX3_readAny 1 ∧ Cond.instanceMethod yX3_readAny ∈ zq_T ∧ Cond.selects yX3_readAny.cls yX3_readAny yX3_readAny ∈ zq_T := ⟨⟨zq_mem 728 (by decide +kernel) rfl, zq_mem 127 (by decide +kernel) rfl, ⟨by decide +kernel, by decide +kernel, by decide +kernel⟩, by decide +kernel, Nat.le_of_ble_eq_true rfl⟩, zq_mem 727 (by decide +kernel) rfl, zq_mem 13 (by decide +kernel) rfl⟩
theorem zd_X3_readAll : zq_cd YX3_readAll 1 ∧ Cond.instanceMethod yX3_readAll ∈ zq_T ∧ Cond.selects yX3_readAll.cls yX3_readAll yX3_readAll ∈ zq_T := ⟨⟨zq_mem 732 (by decide +kernel) rfl, zq_mem 127 (by decide +kernel) rfl, ⟨by decide +kernel, by decide +kernel, by decide +kernel⟩, by decide +kernel, Nat.le_of_ble_eq_true rfl⟩, zq_mem 731 (by decide +kernel) rfl, zq_mem 14 (by decide +kernel) rfl⟩
theorem zd_X3_readOne : zq_cd YX3_readOne 1 ∧ Cond.instanceMethod yX3_readOne ∈ zq_T ∧ Cond.selects yX3_readOne.cls yX3_readOne yX3_readOne ∈ zq_T := ⟨⟨zq_mem 736 (by decide +kernel) rfl, zq_mem 127 (by decide +kernel) rfl, ⟨by decide +kernel, by decide +kernel, by decide +kernel⟩, by decide +kernel, Nat.le_of_ble_eq_true rfl⟩, zq_mem 735 (by decide +kernel) rfl, zq_mem 15 (by decide +kernel) rfl⟩
theorem zd_X3_readTest : zq_cd YX3_readTest 0 ∧ Cond.instanceMethod yX3_readTest ∈ zq_T ∧ Cond.selects yX3_readTest.cls yX3_readTest yX3_readTest ∈ zq_T := ⟨⟨zq_mem 740 (by decide +kernel) rfl, zq_mem 127 (by decide +kernel) rfl, ⟨by decide +kernel, by decide +kernel, by decide +kernel⟩, by decide +kernel, Nat.le_of_ble_eq_true rfl⟩, zq_mem 739 (by decide +kernel) rfl, zq_mem 16 (by decide +kernel) rfl⟩
theorem zd_X3_readNumber : zq_cd YX3_readNumber 0 ∧ Cond.instanceMethod yX3_readNumber ∈ zq_T ∧ Cond.selects yX3_readNumber.cls yX3_readNumber yX3_readNumber ∈ zq_T := ⟨⟨zq_mem 662 (by decide +kernel) rfl, zq_mem 127 (by decide +kernel) rfl, ⟨by decide +kernel, by decide +kernel, by decide +kernel⟩, by decide +kernel, Nat.le_of_ble_eq_true rfl⟩, zq_mem 661 (by decide +kernel) rfl, zq_mem 11 (by decide +kernel) rfl⟩
theorem zd_X3_eat : zq_cd YX3_eat 1 ∧ Cond.instanceMethod yX3_eat ∈ zq_T ∧ Cond.selects yX3_eat.cls yX3_eat yX3_eat ∈ zq_T := ⟨⟨zq_mem 655 (by decide +kernel) rfl, zq_mem 127 (by decide +kernel) rfl, ⟨by decide +kernel, by decide +kernel, by decide +kernel⟩, by decide +kernel, Nat.le_of_ble_eq_true rfl⟩, zq_mem 654 (by decide +kernel) rfl, zq_mem 10 (by decide +kernel) rfl⟩
theorem zd_X3_eatAll : zq_cd YX3_eatAll 1 ∧ Cond.instanceMethod yX3_eatAll ∈ zq_T ∧ Cond.selects yX3_eatAll.cls yX3_eatAll yX3_eatAll ∈ zq_T := ⟨⟨zq_mem 603 (by decide +kernel) rfl, zq_mem 127 (by decide +kernel) rfl, ⟨by decide +kernel, by decide +kernel, by decide +kernel⟩, by decide +kernel, Nat.le_of_ble_eq_true rfl⟩, zq_mem 602 (by decide +kernel) rfl, zq_mem 9 (by decide +kernel) rfl⟩
theorem zd_X3_eatOneOf : zq_cd YX3_eatOneOf 1 ∧ Cond.instanceMethod yX3_eatOneOf ∈ zq_T ∧ Cond.selects yX3_eatOneOf.cls yX3_eatOneOf yX3_eatOneOf ∈ zq_T := ⟨⟨zq_mem 667 (by decide +kernel) rfl, zq_mem 127 (by decide +kernel) rfl, ⟨by decide +kernel, by decide +kernel, by decide +kernel⟩, by decide +kernel, Nat.le_of_ble_eq_true rfl⟩, zq_mem 666 (by decide +kernel) rfl, zq_mem 12 (by decide +kernel) rfl⟩
theorem zd_X4_init : zq_cd YX4_init 1 ∧ Cond.instanceMethod yX4_init ∈ zq_T := ⟨⟨zq_mem 398 (by decide +kernel) rfl, zq_mem 132 (by decide +kernel) rfl, ⟨by decide +kernel, by decide +kernel, by decide +kernel⟩, by decide +kernel, Nat.le_of_ble_eq_true rfl⟩, zq_mem 397 (by decide +kernel) rfl⟩
theorem zd_X4_fitting : zq_cd YX4_fitting 0 ∧ Cond.instanceMethod yX4_fitting ∈ zq_T ∧ Cond.selects yX4_fitting.cls yX4_fitting yX4_fitting ∈ zq_T := ⟨⟨zq_mem 1021 (by decide +kernel) rfl, zq_mem 132 (by decide +kernel) rfl, ⟨by decide +kernel, by decide +kernel, by decide +kernel⟩, by decide +kernel, Nat.le_of_ble_eq_true rfl⟩, zq_mem 1019 (by decide +kernel) rfl, zq_mem 1020 (by decide +kernel) rfl⟩
theorem zd_X4_fittingFrom : zq_cd YX4_fittingFrom 2 ∧ Cond.instanceMethod yX4_fittingFrom ∈ zq_T ∧ Cond.selects yX4_fittingFrom.cls yX4_fittingFrom yX4_fittingFrom ∈ zq_T := ⟨⟨zq_mem 1025 (by decide +kernel) rfl, zq_mem 132 (by decide +kernel) rfl, ⟨by decide +kernel, by decide +kernel, by decide +kernel⟩, by decide +kernel, Nat.le_of_ble_eq_true rfl⟩, zq_mem 1024 (by decide +kernel) rfl, zq_mem 39 (by decide +kernel) rfl⟩
theorem zd_X4_goesWithAll : zq_cd YX4_goesWithAll 0 ∧ Cond.instanceMethod yX4_goesWithAll ∈ zq_T ∧ Cond.selects yX4_goesWithAll.cls yX4_goesWithAll yX4_goesWithAll ∈ zq_T := ⟨⟨zq_mem 1029 (by decide +kernel) rfl, zq_mem 132 (by decide +kernel) rfl, ⟨by decide +kernel, by decide +kernel, by decide +kernel⟩, by decide +kernel, Nat.le_of_ble_eq_true rfl⟩, zq_mem 1028 (by decide +kernel) rfl, zq_mem 40 (by decide +kernel) rfl⟩
theorem zd_X4_isMiddle : zq_cd YX4_isMiddle 2 ∧ Cond.instanceMethod yX4_isMiddle ∈ zq_T ∧ Cond.selects yX4_isMiddle.cls yX4_isMiddle yX4_isMiddle ∈ zq_T := ⟨⟨zq_mem 1033 (by decide +kernel) rfl, zq_mem 132 (by decide +kernel) rfl, ⟨by decide +kernel, by decide +kernel, by decide +kernel⟩, by decide +kernel, Nat.le_of_ble_eq_true rfl⟩, zq_mem 1032 (by decide +kernel) rfl, zq_mem 41 (by decide +kernel) rfl⟩
theorem zd_X5_init : zq_cd YX5_init 0 ∧ Cond.instanceMethod yX5_init ∈ zq_T := ⟨⟨zq_mem 157 (by decide +kernel) rfl, zq_mem 125 (by decide +kernel) rfl, ⟨by decide +kernel, by decide +kernel, by decide +kernel⟩, by decide +kernel, Nat.le_of_ble_eq_true rfl⟩, zq_mem 156 (by decide +kernel) rfl⟩
theorem zd_X5_addPerson : zq_cd YX5_addPerson 3 ∧ Cond.instanceMethod yX5_addPerson ∈ zq_T ∧ Cond.selects yX5_addPerson.cls yX5_addPerson yX5_addPerson ∈ zq_T := ⟨⟨zq_mem 512 (by decide +kernel) rfl, zq_mem 125 (by decide +kernel) rfl, ⟨by decide +kernel, by decide +kernel, by decide +kernel⟩, by decide +kernel, Nat.le_of_ble_eq_true rfl⟩, zq_mem 510 (by decide +kernel) rfl, zq_mem 511 (by decide +kernel) rfl⟩
theorem zd_X5_everybody : zq_cd YX5_everybody 0 ∧ Cond.instanceMethod yX5_everybody ∈ zq_T ∧ Cond.selects yX5_everybody.cls yX5_everybody yX5_everybody ∈ zq_T := ⟨⟨zq_mem 876 (by decide +kernel) rfl, zq_mem 125 (by decide +kernel) rfl, ⟨by decide +kernel, by decide +kernel, by decide +kernel⟩, by decide +kernel, Nat.le_of_ble_eq_true rfl⟩, zq_mem 874 (by decide +kernel) rfl, zq_mem 875 (by decide +kernel) rfl⟩
theorem zd_X5_whoIsAt : zq_cd YX5_whoIsAt 1 ∧ Cond.instanceMethod yX5_whoIsAt ∈ zq_T ∧ Cond.selects yX5_whoIsAt.cls yX5_whoIsAt yX5_whoIsAt ∈ zq_T := ⟨⟨zq_mem 540 (by decide +kernel) rfl, zq_mem 125 (by decide +kernel) rfl, ⟨by decide +kernel, by decide +kernel, by decide +kernel⟩, by decide +kernel, Nat.le_of_ble_eq_true rfl⟩, zq_mem 538 (by decide +kernel) rfl, zq_mem 539 (by decide +kernel) rfl⟩
theorem zd_X5_isKnown : zq_cd YX5_isKnown 2 ∧ Cond.instanceMethod yX5_isKnown ∈ zq_T ∧ Cond.selects yX5_isKnown.cls yX5_isKnown yX5_isKnown ∈ zq_T := ⟨⟨zq_mem 825 (by decide +kernel) rfl, zq_mem 125 (by decide +kernel) rfl, ⟨by decide +kernel, by decide +kernel, by decide +kernel⟩, by decide +kernel, Nat.le_of_ble_eq_true rfl⟩, zq_mem 823 (by decide +kernel) rfl, zq_mem 824 (by decide +kernel) rfl⟩
theorem zd_X5_whoKnows : zq_cd YX5_whoKnows 1 ∧ Cond.instanceMethod yX5_whoKnows ∈ zq_T ∧ Cond.selects yX5_whoKnows.cls yX5_whoKnows yX5_whoKnows ∈ zq_T := ⟨⟨zq_mem 941 (by decide +kernel) rfl, zq_mem 125 (by decide +kernel) rfl, ⟨by decide +kernel, by decide +kernel, by decide +kernel⟩, by decide +kernel, Nat.le_of_ble_eq_true rfl⟩, zq_mem 939 (by decide +kernel) rfl, zq_mem 940 (by decide +kernel) rfl⟩
theorem zd_X5_copyFrom : zq_cd YX5_copyFrom 1 ∧ Cond.instanceMethod yX5_copyFrom ∈ zq_T ∧ Cond.selects yX5_copyFrom.cls yX5_copyFrom yX5_copyFrom ∈ zq_T := ⟨⟨zq_mem 1101 (by decide +kernel) rfl, zq_mem 125 (by decide +kernel) rfl, ⟨by decide +kernel, by decide +kernel, by decide +kernel⟩, by decide +kernel, Nat.le_of_ble_eq_true rfl⟩, zq_mem 1099 (by decide +kernel) rfl, zq_mem 1100 (by decide +kernel) rfl⟩
theorem zd_X6_init : zq_cd YX6_init 2 ∧ Cond.instanceMethod yX6_init ∈ zq_T := ⟨⟨zq_mem 297 (by decide +kernel) rfl, zq_mem 128 (by decide +kernel) rfl, ⟨by decide +kernel, by decide +kernel, by decide +kernel⟩, by decide +kernel, Nat.le_of_ble_eq_true rfl⟩, zq_mem 296 (by decide +kernel) rfl⟩
theorem zd_X6_look : zq_cd YX6_look 1 ∧ Cond.instanceMethod yX6_look ∈ zq_T ∧ Cond.selects yX6_look.cls yX6_look yX6_look ∈ zq_T := ⟨⟨zq_mem 536 (by decide +kernel) rfl, zq_mem 128 (by decide +kernel) rfl, ⟨by decide +kernel, by decide +kernel, by decide +kernel⟩, by decide +kernel, Nat.le_of_ble_eq_true rfl⟩, zq_mem 534 (by decide +kernel) rfl, zq_mem 535 (by decide +kernel) rfl⟩
theorem zd_X6_priceOf : zq_cd YX6_priceOf 3 ∧ Cond.instanceMethod yX6_priceOf ∈ zq_T ∧ Cond.selects yX6_priceOf.cls yX6_priceOf yX6_priceOf ∈ zq_T := ⟨⟨zq_mem 782 (by decide +kernel) rfl, zq_mem 128 (by decide +kernel) rfl, ⟨by decide +kernel, by decide +kernel, by decide +kernel⟩, by decide +kernel, Nat.le_of_ble_eq_true rfl⟩, zq_mem 780 (by decide +kernel) rfl, zq_mem 781 (by decide +kernel) rfl⟩
theorem zd_X6_isBarred : zq_cd YX6_isBarred 3 ∧ Cond.instanceMethod yX6_isBarred ∈ zq_T ∧ Cond.selects yX6_isBarred.cls yX6_isBarred yX6_isBarred ∈ zq_T := ⟨⟨zq_mem 805 (by decide +kernel) rfl, zq_mem 128 (by decide +kernel) rfl, ⟨by decide +kernel, by decide +kernel, by decide +kernel⟩, by decide +kernel, Nat.le_of_ble_eq_true rfl⟩, zq_mem 803 (by decide +kernel) rfl, zq_mem 804 (by decide +kernel) rfl⟩
theorem zd_X6_worthTo : zq_cd YX6_worthTo 3 ∧ Cond.instanceMethod yX6_worthTo ∈ zq_T ∧ Cond.selects yX6_worthTo.cls yX6_worthTo yX6_worthTo ∈ zq_T := ⟨⟨zq_mem 829 (by decide +kernel) rfl, zq_mem 128 (by decide +kernel) rfl, ⟨by decide +kernel, by decide +kernel, by decide +kernel⟩, by decide +kernel, Nat.le_of_ble_eq_true rfl⟩, zq_mem 827 (by decide +kernel) rfl, zq_mem 828 (by decide +kernel) rfl⟩
theorem zd_X6_setFacts : zq_cd YX6_setFacts 4 ∧ Cond.instanceMethod yX6_setFacts ∈ zq_T ∧ Cond.selects yX6_setFacts.cls yX6_setFacts yX6_setFacts ∈ zq_T := ⟨⟨zq_mem 786 (by decide +kernel) rfl, zq_mem 128 (by decide +kernel) rfl, ⟨by decide +kernel, by decide +kernel, by decide +kernel⟩, by decide +kernel, Nat.le_of_ble_eq_true rfl⟩, zq_mem 785 (by decide +kernel) rfl, zq_mem 19 (by decide +kernel) rfl⟩
theorem zd_X6_tellComings : zq_cd YX6_tellComings 0 ∧ Cond.instanceMethod yX6_tellComings ∈ zq_T ∧ Cond.selects yX6_tellComings.cls yX6_tellComings yX6_tellComings ∈ zq_T := ⟨⟨zq_mem 843 (by decide +kernel) rfl, zq_mem 128 (by decide +kernel) rfl, ⟨by decide +kernel, by decide +kernel, by decide +kernel⟩, by decide +kernel, Nat.le_of_ble_eq_true rfl⟩, zq_mem 841 (by decide +kernel) rfl, zq_mem 842 (by decide +kernel) rfl⟩
theorem zd_X6_slotOf : zq_cd YX6_slotOf 3 ∧ Cond.static yX6_slotOf ∈ zq_T := ⟨⟨zq_mem 846 (by decide +kernel) rfl, zq_mem 128 (by decide +kernel) rfl, ⟨by decide +kernel, by decide +kernel, by decide +kernel⟩, by decide +kernel, Nat.le_of_ble_eq_true rfl⟩, zq_mem 845 (by decide +kernel) rfl⟩
theorem zd_X6_packedNow : zq_cd YX6_packedNow 0 ∧ Cond.instanceMethod yX6_packedNow ∈ zq_T ∧ Cond.selects yX6_packedNow.cls yX6_packedNow yX6_packedNow ∈ zq_T := ⟨⟨zq_mem 864 (by decide +kernel) rfl, zq_mem 128 (by decide +kernel) rfl, ⟨by decide +kernel, by decide +kernel, by decide +kernel⟩, by decide +kernel, Nat.le_of_ble_eq_true rfl⟩, zq_mem 862 (by decide +kernel) rfl, zq_mem 863 (by decide +kernel) rfl⟩
theorem zd_X6_moved : zq_cd YX6_moved 3 ∧ Cond.static yX6_moved ∈ zq_T := ⟨⟨zq_mem 900 (by decide +kernel) rfl, zq_mem 128 (by decide +kernel) rfl, ⟨by decide +kernel, by decide +kernel, by decide +kernel⟩, by decide +kernel, Nat.le_of_ble_eq_true rfl⟩, zq_mem 899 (by decide +kernel) rfl⟩
theorem zd_X6_whoIsAt : zq_cd YX6_whoIsAt 2 ∧ Cond.instanceMethod yX6_whoIsAt ∈ zq_T ∧ Cond.selects yX6_whoIsAt.cls yX6_whoIsAt yX6_whoIsAt ∈ zq_T := ⟨⟨zq_mem 881 (by decide +kernel) rfl, zq_mem 128 (by decide +kernel) rfl, ⟨by decide +kernel, by decide +kernel, by decide +kernel⟩, by decide +kernel, Nat.le_of_ble_eq_true rfl⟩, zq_mem 879 (by decide +kernel) rfl, zq_mem 880 (by decide +kernel) rfl⟩
theorem zd_X6_numberAt : zq_cd YX6_numberAt 2 ∧ Cond.instanceMethod yX6_numberAt ∈ zq_T ∧ Cond.selects yX6_numberAt.cls yX6_numberAt yX6_numberAt ∈ zq_T := ⟨⟨zq_mem 897 (by decide +kernel) rfl, zq_mem 128 (by decide +kernel) rfl, ⟨by decide +kernel, by decide +kernel, by decide +kernel⟩, by decide +kernel, Nat.le_of_ble_eq_true rfl⟩, zq_mem 896 (by decide +kernel) rfl, zq_mem 28 (by decide +kernel) rfl⟩
theorem zd_X6_mayCome : zq_cd YX6_mayCome 3 ∧ Cond.instanceMethod yX6_mayCome ∈ zq_T ∧ Cond.selects yX6_mayCome.cls yX6_mayCome yX6_mayCome ∈ zq_T := ⟨⟨zq_mem 893 (by decide +kernel) rfl, zq_mem 128 (by decide +kernel) rfl, ⟨by decide +kernel, by decide +kernel, by decide +kernel⟩, by decide +kernel, Nat.le_of_ble_eq_true rfl⟩, zq_mem 891 (by decide +kernel) rfl, zq_mem 892 (by decide +kernel) rfl⟩
theorem zd_X6_priceFrom : zq_cd YX6_priceFrom 3 ∧ Cond.instanceMethod yX6_priceFrom ∈ zq_T ∧ Cond.selects yX6_priceFrom.cls yX6_priceFrom yX6_priceFrom ∈ zq_T := ⟨⟨zq_mem 908 (by decide +kernel) rfl, zq_mem 128 (by decide +kernel) rfl, ⟨by decide +kernel, by decide +kernel, by decide +kernel⟩, by decide +kernel, Nat.le_of_ble_eq_true rfl⟩, zq_mem 906 (by decide +kernel) rfl, zq_mem 907 (by decide +kernel) rfl⟩
theorem zd_X6_speakers : zq_cd YX6_speakers 3 ∧ Cond.instanceMethod yX6_speakers ∈ zq_T ∧ Cond.selects yX6_speakers.cls yX6_speakers yX6_speakers ∈ zq_T := ⟨⟨zq_mem 544 (by decide +kernel) rfl, zq_mem 128 (by decide +kernel) rfl, ⟨by decide +kernel, by decide +kernel, by decide +kernel⟩, by decide +kernel, Nat.le_of_ble_eq_true rfl⟩, zq_mem 542 (by decide +kernel) rfl, zq_mem 543 (by decide +kernel) rfl⟩
theorem zd_X6_lineUp : zq_cd YX6_lineUp 2 ∧ Cond.instanceMethod yX6_lineUp ∈ zq_T ∧ Cond.selects yX6_lineUp.cls yX6_lineUp yX6_lineUp ∈ zq_T := ⟨⟨zq_mem 551 (by decide +kernel) rfl, zq_mem 128 (by decide +kernel) rfl, ⟨by decide +kernel, by decide +kernel, by decide +kernel⟩, by decide +kernel, Nat.le_of_ble_eq_true rfl⟩, zq_mem 550 (by decide +kernel) rfl, zq_mem 4 (by decide +kernel) rfl⟩
theorem zd_X6_placeInLine : zq_cd YX6_placeInLine 4 ∧ Cond.static yX6_placeInLine ∈ zq_T := ⟨⟨zq_mem 554 (by decide +kernel) rfl, zq_mem 128 (by decide +kernel) rfl, ⟨by decide +kernel, by decide +kernel, by decide +kernel⟩, by decide +kernel, Nat.le_of_ble_eq_true rfl⟩, zq_mem 553 (by decide +kernel) rfl⟩
theorem zd_X6_withoutNear : zq_cd YX6_withoutNear 3 ∧ Cond.instanceMethod yX6_withoutNear ∈ zq_T ∧ Cond.selects yX6_withoutNear.cls yX6_withoutNear yX6_withoutNear ∈ zq_T := ⟨⟨zq_mem 558 (by decide +kernel) rfl, zq_mem 128 (by decide +kernel) rfl, ⟨by decide +kernel, by decide +kernel, by decide +kernel⟩, by decide +kernel, Nat.le_of_ble_eq_true rfl⟩, zq_mem 557 (by decide +kernel) rfl, zq_mem 5 (by decide +kernel) rfl⟩
theorem zd_X6_isNearAnother : zq_cd YX6_isNearAnother 3 ∧ Cond.instanceMethod yX6_isNearAnother ∈ zq_T ∧ Cond.selects yX6_isNearAnother.cls yX6_isNearAnother yX6_isNearAnother ∈ zq_T := ⟨⟨zq_mem 562 (by decide +kernel) rfl, zq_mem 128 (by decide +kernel) rfl, ⟨by decide +kernel, by decide +kernel, by decide +kernel⟩, by decide +kernel, Nat.le_of_ble_eq_true rfl⟩, zq_mem 561 (by decide +kernel) rfl, zq_mem 6 (by decide +kernel) rfl⟩
theorem zd_X6_sayable : zq_cd YX6_sayable 0 ∧ Cond.instanceMethod yX6_sayable ∈ zq_T ∧ Cond.selects yX6_sayable.cls yX6_sayable yX6_sayable ∈ zq_T := ⟨⟨zq_mem 1067 (by decide +kernel) rfl, zq_mem 128 (by decide +kernel) rfl, ⟨by decide +kernel, by decide +kernel, by decide +kernel⟩, by decide +kernel, Nat.le_of_ble_eq_true rfl⟩, zq_mem 1065 (by decide +kernel) rfl, zq_mem 1066 (by decide +kernel) rfl⟩
theorem zd_X6_isSaid : zq_cd YX6_isSaid 2 ∧ Cond.instanceMethod yX6_isSaid ∈ zq_T ∧ Cond.selects yX6_isSaid.cls yX6_isSaid yX6_isSaid ∈ zq_T := ⟨⟨zq_mem 1072 (by decide +kernel) rfl, zq_mem 128 (by decide +kernel) rfl, ⟨by decide +kernel, by decide +kernel, by decide +kernel⟩, by decide +kernel, Nat.le_of_ble_eq_true rfl⟩, zq_mem 1071 (by decide +kernel) rfl, zq_mem 44 (by decide +kernel) rfl⟩
theorem zd_X7_init : zq_cd YX7_init 0 ∧ Cond.instanceMethod yX7_init ∈ zq_T := ⟨⟨zq_mem 435 (by decide +kernel) rfl, zq_mem 134 (by decide +kernel) rfl, ⟨by decide +kernel, by decide +kernel, by decide +kernel⟩, by decide +kernel, Nat.le_of_ble_eq_true rfl⟩, zq_mem 434 (by decide +kernel) rfl⟩
theorem zd_X7_holdsRow : zq_cd YX7_holdsRow 0 ∧ Cond.instanceMethod yX7_holdsRow ∈ zq_T ∧ Cond.selects yX7_holdsRow.cls yX7_holdsRow yX7_holdsRow ∈ zq_T := ⟨⟨zq_mem 1085 (by decide +kernel) rfl, zq_mem 134 (by decide +kernel) rfl, ⟨by decide +kernel, by decide +kernel, by decide +kernel⟩, by decide +kernel, Nat.le_of_ble_eq_true rfl⟩, zq_mem 1083 (by decide +kernel) rfl, zq_mem 1084 (by decide +kernel) rfl⟩
theorem zd_X7_holdNothing : zq_cd YX7_holdNothing 0 ∧ Cond.instanceMethod yX7_holdNothing ∈ zq_T ∧ Cond.selects yX7_holdNothing.cls yX7_holdNothing yX7_holdNothing ∈ zq_T := ⟨⟨zq_mem 1163 (by decide +kernel) rfl, zq_mem 134 (by decide +kernel) rfl, ⟨by decide +kernel, by decide +kernel, by decide +kernel⟩, by decide +kernel, Nat.le_of_ble_eq_true rfl⟩, zq_mem 1161 (by decide +kernel) rfl, zq_mem 1162 (by decide +kernel) rfl⟩
theorem zd_X7_holdZeros : zq_cd YX7_holdZeros 2 ∧ Cond.instanceMethod yX7_holdZeros ∈ zq_T ∧ Cond.selects yX7_holdZeros.cls yX7_holdZeros yX7_holdZeros ∈ zq_T := ⟨⟨zq_mem 1167 (by decide +kernel) rfl, zq_mem 134 (by decide +kernel) rfl, ⟨by decide +kernel, by decide +kernel, by decide +kernel⟩, by decide +kernel, Nat.le_of_ble_eq_true rfl⟩, zq_mem 1165 (by decide +kernel) rfl, zq_mem 1166 (by decide +kernel) rfl⟩
theorem zd_X7_hasPlace : zq_cd YX7_hasPlace 1 ∧ Cond.instanceMethod yX7_hasPlace ∈ zq_T ∧ Cond.selects yX7_hasPlace.cls yX7_hasPlace yX7_hasPlace ∈ zq_T := ⟨⟨zq_mem 1093 (by decide +kernel) rfl, zq_mem 134 (by decide +kernel) rfl, ⟨by decide +kernel, by decide +kernel, by decide +kernel⟩, by decide +kernel, Nat.le_of_ble_eq_true rfl⟩, zq_mem 1091 (by decide +kernel) rfl, zq_mem 1092 (by decide +kernel) rfl⟩
theorem zd_X7_hasPart : zq_cd YX7_hasPart 2 ∧ Cond.instanceMethod yX7_hasPart ∈ zq_T ∧ Cond.selects yX7_hasPart.cls yX7_hasPart yX7_hasPart ∈ zq_T := ⟨⟨zq_mem 1194 (by decide +kernel) rfl, zq_mem 134 (by decide +kernel) rfl, ⟨by decide +kernel, by decide +kernel, by decide +kernel⟩, by decide +kernel, Nat.le_of_ble_eq_true rfl⟩, zq_mem 1192 (by decide +kernel) rfl, zq_mem 1193 (by decide +kernel) rfl⟩
theorem zd_X7_put : zq_cd YX7_put 2 ∧ Cond.instanceMethod yX7_put ∈ zq_T ∧ Cond.selects yX7_put.cls yX7_put yX7_put ∈ zq_T := ⟨⟨zq_mem 1178 (by decide +kernel) rfl, zq_mem 134 (by decide +kernel) rfl, ⟨by decide +kernel, by decide +kernel, by decide +kernel⟩, by decide +kernel, Nat.le_of_ble_eq_true rfl⟩, zq_mem 1176 (by decide +kernel) rfl, zq_mem 1177 (by decide +kernel) rfl⟩
theorem zd_X7_narrowed : zq_cd YX7_narrowed 1 ∧ Cond.instanceMethod yX7_narrowed ∈ zq_T ∧ Cond.selects yX7_narrowed.cls yX7_narrowed yX7_narrowed ∈ zq_T := ⟨⟨zq_mem 1182 (by decide +kernel) rfl, zq_mem 134 (by decide +kernel) rfl, ⟨by decide +kernel, by decide +kernel, by decide +kernel⟩, by decide +kernel, Nat.le_of_ble_eq_true rfl⟩, zq_mem 1181 (by decide +kernel) rfl, zq_mem 48 (by decide +kernel) rfl⟩
theorem zd_X8_init : zq_cd YX8_init 1 ∧ Cond.instanceMethod yX8_init ∈ zq_T := ⟨⟨zq_mem 388 (by decide +kernel) rfl, zq_mem 131 (by decide +kernel) rfl, ⟨by decide +kernel, by decide +kernel, by decide +kernel⟩, by decide +kernel, Nat.le_of_ble_eq_true rfl⟩, zq_mem 387 (by decide +kernel) rfl⟩
theorem zd_X8_canWin : zq_cd YX8_canWin 3 ∧ Cond.instanceMethod yX8_canWin ∈ zq_T ∧ Cond.selects yX8_canWin.cls yX8_canWin yX8_canWin ∈ zq_T := ⟨⟨zq_mem 996 (by decide +kernel) rfl, zq_mem 131 (by decide +kernel) rfl, ⟨by decide +kernel, by decide +kernel, by decide +kernel⟩, by decide +kernel, Nat.le_of_ble_eq_true rfl⟩, zq_mem 994 (by decide +kernel) rfl, zq_mem 995 (by decide +kernel) rfl⟩
theorem zd_X8_wins : zq_cd YX8_wins 6 ∧ Cond.instanceMethod yX8_wins ∈ zq_T ∧ Cond.selects yX8_wins.cls yX8_wins yX8_wins ∈ zq_T := ⟨⟨zq_mem 1001 (by decide +kernel) rfl, zq_mem 131 (by decide +kernel) rfl, ⟨by decide +kernel, by decide +kernel, by decide +kernel⟩, by decide +kernel, Nat.le_of_ble_eq_true rfl⟩, zq_mem 1000 (by decide +kernel) rfl, zq_mem 38 (by decide +kernel) rfl⟩
theorem zd_X8_oddsOfSpeaking : zq_cd YX8_oddsOfSpeaking 3 ∧ Cond.instanceMethod yX8_oddsOfSpeaking ∈ zq_T ∧ Cond.selects yX8_oddsOfSpeaking.cls yX8_oddsOfSpeaking yX8_oddsOfSpeaking ∈ zq_T := ⟨⟨zq_mem 1043 (by decide +kernel) rfl, zq_mem 131 (by decide +kernel) rfl, ⟨by decide +kernel, by decide +kernel, by decide +kernel⟩, by decide +kernel, Nat.le_of_ble_eq_true rfl⟩, zq_mem 1041 (by decide +kernel) rfl, zq_mem 1042 (by decide +kernel) rfl⟩
theorem zd_X8_sharesSpeaking : zq_cd YX8_sharesSpeaking 5 ∧ Cond.instanceMethod yX8_sharesSpeaking ∈ zq_T ∧ Cond.selects yX8_sharesSpeaking.cls yX8_sharesSpeaking yX8_sharesSpeaking ∈ zq_T := ⟨⟨zq_mem 1048 (by decide +kernel) rfl, zq_mem 131 (by decide +kernel) rfl, ⟨by decide +kernel, by decide +kernel, by decide +kernel⟩, by decide +kernel, Nat.le_of_ble_eq_true rfl⟩, zq_mem 1047 (by decide +kernel) rfl, zq_mem 42 (by decide +kernel) rfl⟩
theorem zd_X8_waysOn : zq_cd YX8_waysOn 1 ∧ Cond.instanceMethod yX8_waysOn ∈ zq_T ∧ Cond.selects yX8_waysOn.cls yX8_waysOn yX8_waysOn ∈ zq_T := ⟨⟨zq_mem 1052 (by decide +kernel) rfl, zq_mem 131 (by decide +kernel) rfl, ⟨by decide +kernel, by decide +kernel, by decide +kernel⟩, by decide +kernel, Nat.le_of_ble_eq_true rfl⟩, zq_mem 1051 (by decide +kernel) rfl, zq_mem 43 (by decide +kernel) rfl⟩
theorem zd_X8_greatestDivisor : zq_cd YX8_greatestDivisor 2 ∧ Cond.static yX8_greatestDivisor ∈ zq_T := ⟨⟨zq_mem 1055 (by decide +kernel) rfl, zq_mem 131 (by decide +kernel) rfl, ⟨by decide +kernel, by decide +kernel, by decide +kernel⟩, by decide +kernel, Nat.le_of_ble_eq_true rfl⟩, zq_mem 1054 (by decide +kernel) rfl⟩
theorem zd_X9_init : zq_cd YX9_init 1 ∧ Cond.instanceMethod yX9_init ∈ zq_T := ⟨⟨zq_mem 329 (by decide +kernel) rfl, zq_mem 129 (by decide +kernel) rfl, ⟨by decide +kernel, by decide +kernel, by decide +kernel⟩, by decide +kernel, Nat.le_of_ble_eq_true rfl⟩, zq_mem 328 (by decide +kernel) rfl⟩
theorem zd_X9_fewestComings : zq_cd YX9_fewestComings 3 ∧ Cond.instanceMethod yX9_fewestComings ∈ zq_T ∧ Cond.selects yX9_fewestComings.cls yX9_fewestComings yX9_fewestComings ∈ zq_T := ⟨⟨zq_mem 852 (by decide +kernel) rfl, zq_mem 129 (by decide +kernel) rfl, ⟨by decide +kernel, by decide +kernel, by decide +kernel⟩, by decide +kernel, Nat.le_of_ble_eq_true rfl⟩, zq_mem 850 (by decide +kernel) rfl, zq_mem 851 (by decide +kernel) rfl⟩
theorem zd_X9_leastCost : zq_cd YX9_leastCost 3 ∧ Cond.instanceMethod yX9_leastCost ∈ zq_T ∧ Cond.selects yX9_leastCost.cls yX9_leastCost yX9_leastCost ∈ zq_T := ⟨⟨zq_mem 921 (by decide +kernel) rfl, zq_mem 129 (by decide +kernel) rfl, ⟨by decide +kernel, by decide +kernel, by decide +kernel⟩, by decide +kernel, Nat.le_of_ble_eq_true rfl⟩, zq_mem 919 (by decide +kernel) rfl, zq_mem 920 (by decide +kernel) rfl⟩
theorem zd_X9_whoNeverCan : zq_cd YX9_whoNeverCan 1 ∧ Cond.instanceMethod yX9_whoNeverCan ∈ zq_T ∧ Cond.selects yX9_whoNeverCan.cls yX9_whoNeverCan yX9_whoNeverCan ∈ zq_T := ⟨⟨zq_mem 929 (by decide +kernel) rfl, zq_mem 129 (by decide +kernel) rfl, ⟨by decide +kernel, by decide +kernel, by decide +kernel⟩, by decide +kernel, Nat.le_of_ble_eq_true rfl⟩, zq_mem 927 (by decide +kernel) rfl, zq_mem 928 (by decide +kernel) rfl⟩
theorem zd_X9_begin : zq_cd YX9_begin 1 ∧ Cond.instanceMethod yX9_begin ∈ zq_T ∧ Cond.selects yX9_begin.cls yX9_begin yX9_begin ∈ zq_T := ⟨⟨zq_mem 856 (by decide +kernel) rfl, zq_mem 129 (by decide +kernel) rfl, ⟨by decide +kernel, by decide +kernel, by decide +kernel⟩, by decide +kernel, Nat.le_of_ble_eq_true rfl⟩, zq_mem 855 (by decide +kernel) rfl, zq_mem 23 (by decide +kernel) rfl⟩
theorem zd_X9_goOn : zq_cd YX9_goOn 0 ∧ Cond.instanceMethod yX9_goOn ∈ zq_T ∧ Cond.selects yX9_goOn.cls yX9_goOn yX9_goOn ∈ zq_T := ⟨⟨zq_mem 885 (by decide +kernel) rfl, zq_mem 129 (by decide +kernel) rfl, ⟨by decide +kernel, by decide +kernel, by decide +kernel⟩, by decide +kernel, Nat.le_of_ble_eq_true rfl⟩, zq_mem 884 (by decide +kernel) rfl, zq_mem 26 (by decide +kernel) rfl⟩
theorem zd_X9_leave : zq_cd YX9_leave 1 ∧ Cond.instanceMethod yX9_leave ∈ zq_T ∧ Cond.selects yX9_leave.cls yX9_leave yX9_leave ∈ zq_T := ⟨⟨zq_mem 889 (by decide +kernel) rfl, zq_mem 129 (by decide +kernel) rfl, ⟨by decide +kernel, by decide +kernel, by decide +kernel⟩, by decide +kernel, Nat.le_of_ble_eq_true rfl⟩, zq_mem 888 (by decide +kernel) rfl, zq_mem 27 (by decide +kernel) rfl⟩
theorem zd_X9_carried : zq_cd YX9_carried 3 ∧ Cond.instanceMethod yX9_carried ∈ zq_T ∧ Cond.selects yX9_carried.cls yX9_carried yX9_carried ∈ zq_T := ⟨⟨zq_mem 904 (by decide +kernel) rfl, zq_mem 129 (by decide +kernel) rfl, ⟨by decide +kernel, by decide +kernel, by decide +kernel⟩, by decide +kernel, Nat.le_of_ble_eq_true rfl⟩, zq_mem 903 (by decide +kernel) rfl, zq_mem 29 (by decide +kernel) rfl⟩
theorem zd_X9_takeNext : zq_cd YX9_takeNext 0 ∧ Cond.instanceMethod yX9_takeNext ∈ zq_T ∧ Cond.selects yX9_takeNext.cls yX9_takeNext yX9_takeNext ∈ zq_T := ⟨⟨zq_mem 913 (by decide +kernel) rfl, zq_mem 129 (by decide +kernel) rfl, ⟨by decide +kernel, by decide +kernel, by decide +kernel⟩, by decide +kernel, Nat.le_of_ble_eq_true rfl⟩, zq_mem 912 (by decide +kernel) rfl, zq_mem 30 (by decide +kernel) rfl⟩
theorem zd_X9_tellSpeakers : zq_cd YX9_tellSpeakers 1 ∧ Cond.instanceMethod yX9_tellSpeakers ∈ zq_T ∧ Cond.selects yX9_tellSpeakers.cls yX9_tellSpeakers yX9_tellSpeakers ∈ zq_T := ⟨⟨zq_mem 872 (by decide +kernel) rfl, zq_mem 129 (by decide +kernel) rfl, ⟨by decide +kernel, by decide +kernel, by decide +kernel⟩, by decide +kernel, Nat.le_of_ble_eq_true rfl⟩, zq_mem 871 (by decide +kernel) rfl, zq_mem 25 (by decide +kernel) rfl⟩
theorem zd_X9_leastWith : zq_cd YX9_leastWith 2 ∧ Cond.instanceMethod yX9_leastWith ∈ zq_T ∧ Cond.selects yX9_leastWith.cls yX9_leastWith yX9_leastWith ∈ zq_T := ⟨⟨zq_mem 868 (by decide +kernel) rfl, zq_mem 129 (by decide +kernel) rfl, ⟨by decide +kernel, by decide +kernel, by decide +kernel⟩, by decide +kernel, Nat.le_of_ble_eq_true rfl⟩, zq_mem 867 (by decide +kernel) rfl, zq_mem 24 (by decide +kernel) rfl⟩
theorem zd_X9_whoCanSpeak : zq_cd YX9_whoCanSpeak 1 ∧ Cond.instanceMethod yX9_whoCanSpeak ∈ zq_T ∧ Cond.selects yX9_whoCanSpeak.cls yX9_whoCanSpeak yX9_whoCanSpeak ∈ zq_T := ⟨⟨zq_mem 933 (by decide +kernel) rfl, zq_mem 129 (by decide +kernel) rfl, ⟨by decide +kernel, by decide +kernel, by decide +kernel⟩, by decide +kernel, Nat.le_of_ble_eq_true rfl⟩, zq_mem 932 (by decide +kernel) rfl, zq_mem 31 (by decide +kernel) rfl⟩
theorem zd_X10_init : zq_cd YX10_init 0 ∧ Cond.instanceMethod yX10_init ∈ zq_T := ⟨⟨zq_mem 149 (by decide +kernel) rfl, zq_mem 124 (by decide +kernel) rfl, ⟨by decide +kernel, by decide +kernel, by decide +kernel⟩, by decide +kernel, Nat.le_of_ble_eq_true rfl⟩, zq_mem 148 (by decide +kernel) rfl⟩
theorem zd_X10_person : zq_cd YX10_person 3 ∧ Cond.instanceMethod yX10_person ∈ zq_T ∧ Cond.selects yX10_person.cls yX10_person yX10_person ∈ zq_T := ⟨⟨zq_mem 502 (by decide +kernel) rfl, zq_mem 124 (by decide +kernel) rfl, ⟨by decide +kernel, by decide +kernel, by decide +kernel⟩, by decide +kernel, Nat.le_of_ble_eq_true rfl⟩, zq_mem 500 (by decide +kernel) rfl, zq_mem 501 (by decide +kernel) rfl⟩
theorem zd_X10_of : zq_cd YX10_of 2 ∧ Cond.instanceMethod yX10_of ∈ zq_T ∧ Cond.selects yX10_of.cls yX10_of yX10_of ∈ zq_T := ⟨⟨zq_mem 516 (by decide +kernel) rfl, zq_mem 124 (by decide +kernel) rfl, ⟨by decide +kernel, by decide +kernel, by decide +kernel⟩, by decide +kernel, Nat.le_of_ble_eq_true rfl⟩, zq_mem 514 (by decide +kernel) rfl, zq_mem 515 (by decide +kernel) rfl⟩
theorem zd_X10_learn : zq_cd YX10_learn 2 ∧ Cond.instanceMethod yX10_learn ∈ zq_T ∧ Cond.selects yX10_learn.cls yX10_learn yX10_learn ∈ zq_T := ⟨⟨zq_mem 566 (by decide +kernel) rfl, zq_mem 124 (by decide +kernel) rfl, ⟨by decide +kernel, by decide +kernel, by decide +kernel⟩, by decide +kernel, Nat.le_of_ble_eq_true rfl⟩, zq_mem 564 (by decide +kernel) rfl, zq_mem 565 (by decide +kernel) rfl⟩
theorem zd_X10_room : zq_cd YX10_room 3 ∧ Cond.instanceMethod yX10_room ∈ zq_T ∧ Cond.selects yX10_room.cls yX10_room yX10_room ∈ zq_T := ⟨⟨zq_mem 570 (by decide +kernel) rfl, zq_mem 124 (by decide +kernel) rfl, ⟨by decide +kernel, by decide +kernel, by decide +kernel⟩, by decide +kernel, Nat.le_of_ble_eq_true rfl⟩, zq_mem 568 (by decide +kernel) rfl, zq_mem 569 (by decide +kernel) rfl⟩
theorem zd_X10_inside : zq_cd YX10_inside 2 ∧ Cond.instanceMethod yX10_inside ∈ zq_T ∧ Cond.selects yX10_inside.cls yX10_inside yX10_inside ∈ zq_T := ⟨⟨zq_mem 575 (by decide +kernel) rfl, zq_mem 124 (by decide +kernel) rfl, ⟨by decide +kernel, by decide +kernel, by decide +kernel⟩, by decide +kernel, Nat.le_of_ble_eq_true rfl⟩, zq_mem 573 (by decide +kernel) rfl, zq_mem 574 (by decide +kernel) rfl⟩
theorem zd_X10_feed : zq_cd YX10_feed 1 ∧ Cond.instanceMethod yX10_feed ∈ zq_T ∧ Cond.selects yX10_feed.cls yX10_feed yX10_feed ∈ zq_T := ⟨⟨zq_mem 579 (by decide +kernel) rfl, zq_mem 124 (by decide +kernel) rfl, ⟨by decide +kernel, by decide +kernel, by decide +kernel⟩, by decide +kernel, Nat.le_of_ble_eq_true rfl⟩, zq_mem 577 (by decide +kernel) rfl, zq_mem 578 (by decide +kernel) rfl⟩
theorem zd_X10_house : zq_cd YX10_house 0 ∧ Cond.instanceMethod yX10_house ∈ zq_T ∧ Cond.selects yX10_house.cls yX10_house yX10_house ∈ zq_T := ⟨⟨zq_mem 583 (by decide +kernel) rfl, zq_mem 124 (by decide +kernel) rfl, ⟨by decide +kernel, by decide +kernel, by decide +kernel⟩, by decide +kernel, Nat.le_of_ble_eq_true rfl⟩, zq_mem 581 (by decide +kernel) rfl, zq_mem 582 (by decide +kernel) rfl⟩
theorem zd_X10_told : zq_cd YX10_told 1 ∧ Cond.instanceMethod yX10_told ∈ zq_T ∧ Cond.selects yX10_told.cls yX10_told yX10_told ∈ zq_T := ⟨⟨zq_mem 760 (by decide +kernel) rfl, zq_mem 124 (by decide +kernel) rfl, ⟨by decide +kernel, by decide +kernel, by decide +kernel⟩, by decide +kernel, Nat.le_of_ble_eq_true rfl⟩, zq_mem 758 (by decide +kernel) rfl, zq_mem 759 (by decide +kernel) rfl⟩
theorem zd_X10_coming : zq_cd YX10_coming 3 ∧ Cond.instanceMethod yX10_coming ∈ zq_T ∧ Cond.selects yX10_coming.cls yX10_coming yX10_coming ∈ zq_T := ⟨⟨zq_mem 764 (by decide +kernel) rfl, zq_mem 124 (by decide +kernel) rfl, ⟨by decide +kernel, by decide +kernel, by decide +kernel⟩, by decide +kernel, Nat.le_of_ble_eq_true rfl⟩, zq_mem 762 (by decide +kernel) rfl, zq_mem 763 (by decide +kernel) rfl⟩
theorem zd_X10_come : zq_cd YX10_come 2 ∧ Cond.instanceMethod yX10_come ∈ zq_T ∧ Cond.selects yX10_come.cls yX10_come yX10_come ∈ zq_T := ⟨⟨zq_mem 813 (by decide +kernel) rfl, zq_mem 124 (by decide +kernel) rfl, ⟨by decide +kernel, by decide +kernel, by decide +kernel⟩, by decide +kernel, Nat.le_of_ble_eq_true rfl⟩, zq_mem 811 (by decide +kernel) rfl, zq_mem 812 (by decide +kernel) rfl⟩
theorem zd_X10_say : zq_cd YX10_say 2 ∧ Cond.instanceMethod yX10_say ∈ zq_T ∧ Cond.selects yX10_say.cls yX10_say yX10_say ∈ zq_T := ⟨⟨zq_mem 818 (by decide +kernel) rfl, zq_mem 124 (by decide +kernel) rfl, ⟨by decide +kernel, by decide +kernel, by decide +kernel⟩, by decide +kernel, Nat.le_of_ble_eq_true rfl⟩, zq_mem 816 (by decide +kernel) rfl, zq_mem 817 (by decide +kernel) rfl⟩
theorem zd_X10_soonest : zq_cd YX10_soonest 3 ∧ Cond.instanceMethod yX10_soonest ∈ zq_T ∧ Cond.selects yX10_soonest.cls yX10_soonest yX10_soonest ∈ zq_T := ⟨⟨zq_mem 835 (by decide +kernel) rfl, zq_mem 124 (by decide +kernel) rfl, ⟨by decide +kernel, by decide +kernel, by decide +kernel⟩, by decide +kernel, Nat.le_of_ble_eq_true rfl⟩, zq_mem 833 (by decide +kernel) rfl, zq_mem 834 (by decide +kernel) rfl⟩
theorem zd_X10_cheapest : zq_cd YX10_cheapest 3 ∧ Cond.instanceMethod yX10_cheapest ∈ zq_T ∧ Cond.selects yX10_cheapest.cls yX10_cheapest yX10_cheapest ∈ zq_T := ⟨⟨zq_mem 917 (by decide +kernel) rfl, zq_mem 124 (by decide +kernel) rfl, ⟨by decide +kernel, by decide +kernel, by decide +kernel⟩, by decide +kernel, Nat.le_of_ble_eq_true rfl⟩, zq_mem 915 (by decide +kernel) rfl, zq_mem 916 (by decide +kernel) rfl⟩
theorem zd_X10_never : zq_cd YX10_never 1 ∧ Cond.instanceMethod yX10_never ∈ zq_T ∧ Cond.selects yX10_never.cls yX10_never yX10_never ∈ zq_T := ⟨⟨zq_mem 925 (by decide +kernel) rfl, zq_mem 124 (by decide +kernel) rfl, ⟨by decide +kernel, by decide +kernel, by decide +kernel⟩, by decide +kernel, Nat.le_of_ble_eq_true rfl⟩, zq_mem 923 (by decide +kernel) rfl, zq_mem 924 (by decide +kernel) rfl⟩
theorem zd_X10_heard : zq_cd YX10_heard 1 ∧ Cond.instanceMethod yX10_heard ∈ zq_T ∧ Cond.selects yX10_heard.cls yX10_heard yX10_heard ∈ zq_T := ⟨⟨zq_mem 937 (by decide +kernel) rfl, zq_mem 124 (by decide +kernel) rfl, ⟨by decide +kernel, by decide +kernel, by decide +kernel⟩, by decide +kernel, Nat.le_of_ble_eq_true rfl⟩, zq_mem 935 (by decide +kernel) rfl, zq_mem 936 (by decide +kernel) rfl⟩
theorem zd_X10_secret : zq_cd YX10_secret 3 ∧ Cond.instanceMethod yX10_secret ∈ zq_T ∧ Cond.selects yX10_secret.cls yX10_secret yX10_secret ∈ zq_T := ⟨⟨zq_mem 985 (by decide +kernel) rfl, zq_mem 124 (by decide +kernel) rfl, ⟨by decide +kernel, by decide +kernel, by decide +kernel⟩, by decide +kernel, Nat.le_of_ble_eq_true rfl⟩, zq_mem 983 (by decide +kernel) rfl, zq_mem 984 (by decide +kernel) rfl⟩
theorem zd_X10_game : zq_cd YX10_game 3 ∧ Cond.instanceMethod yX10_game ∈ zq_T ∧ Cond.selects yX10_game.cls yX10_game yX10_game ∈ zq_T := ⟨⟨zq_mem 992 (by decide +kernel) rfl, zq_mem 124 (by decide +kernel) rfl, ⟨by decide +kernel, by decide +kernel, by decide +kernel⟩, by decide +kernel, Nat.le_of_ble_eq_true rfl⟩, zq_mem 990 (by decide +kernel) rfl, zq_mem 991 (by decide +kernel) rfl⟩
theorem zd_X10_votes : zq_cd YX10_votes 2 ∧ Cond.instanceMethod yX10_votes ∈ zq_T ∧ Cond.selects yX10_votes.cls yX10_votes yX10_votes ∈ zq_T := ⟨⟨zq_mem 1009 (by decide +kernel) rfl, zq_mem 124 (by decide +kernel) rfl, ⟨by decide +kernel, by decide +kernel, by decide +kernel⟩, by decide +kernel, Nat.le_of_ble_eq_true rfl⟩, zq_mem 1007 (by decide +kernel) rfl, zq_mem 1008 (by decide +kernel) rfl⟩
theorem zd_X10_spoken : zq_cd YX10_spoken 2 ∧ Cond.instanceMethod yX10_spoken ∈ zq_T ∧ Cond.selects yX10_spoken.cls yX10_spoken yX10_spoken ∈ zq_T := ⟨⟨zq_mem 1013 (by decide +kernel) rfl, zq_mem 124 (by decide +kernel) rfl, ⟨by decide +kernel, by decide +kernel, by decide +kernel⟩, by decide +kernel, Nat.le_of_ble_eq_true rfl⟩, zq_mem 1011 (by decide +kernel) rfl, zq_mem 1012 (by decide +kernel) rfl⟩
theorem zd_X10_fits : zq_cd YX10_fits 0 ∧ Cond.instanceMethod yX10_fits ∈ zq_T ∧ Cond.selects yX10_fits.cls yX10_fits yX10_fits ∈ zq_T := ⟨⟨zq_mem 1017 (by decide +kernel) rfl, zq_mem 124 (by decide +kernel) rfl, ⟨by decide +kernel, by decide +kernel, by decide +kernel⟩, by decide +kernel, Nat.le_of_ble_eq_true rfl⟩, zq_mem 1015 (by decide +kernel) rfl, zq_mem 1016 (by decide +kernel) rfl⟩
theorem zd_X10_lot : zq_cd YX10_lot 3 ∧ Cond.instanceMethod yX10_lot ∈ zq_T ∧ Cond.selects yX10_lot.cls yX10_lot yX10_lot ∈ zq_T := ⟨⟨zq_mem 1038 (by decide +kernel) rfl, zq_mem 124 (by decide +kernel) rfl, ⟨by decide +kernel, by decide +kernel, by decide +kernel⟩, by decide +kernel, Nat.le_of_ble_eq_true rfl⟩, zq_mem 1036 (by decide +kernel) rfl, zq_mem 1037 (by decide +kernel) rfl⟩
theorem zd_X10_book : zq_cd YX10_book 1 ∧ Cond.instanceMethod yX10_book ∈ zq_T ∧ Cond.selects yX10_book.cls yX10_book yX10_book ∈ zq_T := ⟨⟨zq_mem 1059 (by decide +kernel) rfl, zq_mem 124 (by decide +kernel) rfl, ⟨by decide +kernel, by decide +kernel, by decide +kernel⟩, by decide +kernel, Nat.le_of_ble_eq_true rfl⟩, zq_mem 1057 (by decide +kernel) rfl, zq_mem 1058 (by decide +kernel) rfl⟩
theorem zd_X10_readBook : zq_cd YX10_readBook 0 ∧ Cond.instanceMethod yX10_readBook ∈ zq_T ∧ Cond.selects yX10_readBook.cls yX10_readBook yX10_readBook ∈ zq_T := ⟨⟨zq_mem 1063 (by decide +kernel) rfl, zq_mem 124 (by decide +kernel) rfl, ⟨by decide +kernel, by decide +kernel, by decide +kernel⟩, by decide +kernel, Nat.le_of_ble_eq_true rfl⟩, zq_mem 1061 (by decide +kernel) rfl, zq_mem 1062 (by decide +kernel) rfl⟩
theorem zd_X10_judge : zq_cd YX10_judge 2 ∧ Cond.instanceMethod yX10_judge ∈ zq_T ∧ Cond.selects yX10_judge.cls yX10_judge yX10_judge ∈ zq_T := ⟨⟨zq_mem 1078 (by decide +kernel) rfl, zq_mem 124 (by decide +kernel) rfl, ⟨by decide +kernel, by decide +kernel, by decide +kernel⟩, by decide +kernel, Nat.le_of_ble_eq_true rfl⟩, zq_mem 1076 (by decide +kernel) rfl, zq_mem 1077 (by decide +kernel) rfl⟩
theorem zd_X10_image : zq_cd YX10_image 0 ∧ Cond.instanceMethod yX10_image ∈ zq_T ∧ Cond.selects yX10_image.cls yX10_image yX10_image ∈ zq_T := ⟨⟨zq_mem 1097 (by decide +kernel) rfl, zq_mem 124 (by decide +kernel) rfl, ⟨by decide +kernel, by decide +kernel, by decide +kernel⟩, by decide +kernel, Nat.le_of_ble_eq_true rfl⟩, zq_mem 1095 (by decide +kernel) rfl, zq_mem 1096 (by decide +kernel) rfl⟩
theorem zd_X10_undo : zq_cd YX10_undo 0 ∧ Cond.instanceMethod yX10_undo ∈ zq_T ∧ Cond.selects yX10_undo.cls yX10_undo yX10_undo ∈ zq_T := ⟨⟨zq_mem 1106 (by decide +kernel) rfl, zq_mem 124 (by decide +kernel) rfl, ⟨by decide +kernel, by decide +kernel, by decide +kernel⟩, by decide +kernel, Nat.le_of_ble_eq_true rfl⟩, zq_mem 1104 (by decide +kernel) rfl, zq_mem 1105 (by decide +kernel) rfl⟩
theorem zd_X10_act : zq_cd YX10_act 3 ∧ Cond.instanceMethod yX10_act ∈ zq_T ∧ Cond.selects yX10_act.cls yX10_act yX10_act ∈ zq_T := ⟨⟨zq_mem 1110 (by decide +kernel) rfl, zq_mem 124 (by decide +kernel) rfl, ⟨by decide +kernel, by decide +kernel, by decide +kernel⟩, by decide +kernel, Nat.le_of_ble_eq_true rfl⟩, zq_mem 1108 (by decide +kernel) rfl, zq_mem 1109 (by decide +kernel) rfl⟩
theorem zd_X10_trace : zq_cd YX10_trace 1 ∧ Cond.instanceMethod yX10_trace ∈ zq_T ∧ Cond.selects yX10_trace.cls yX10_trace yX10_trace ∈ zq_T := ⟨⟨zq_mem 1137 (by decide +kernel) rfl, zq_mem 124 (by decide +kernel) rfl, ⟨by decide +kernel, by decide +kernel, by decide +kernel⟩, by decide +kernel, Nat.le_of_ble_eq_true rfl⟩, zq_mem 1135 (by decide +kernel) rfl, zq_mem 1136 (by decide +kernel) rfl⟩
theorem zd_X10_taken : zq_cd YX10_taken 2 ∧ Cond.instanceMethod yX10_taken ∈ zq_T ∧ Cond.selects yX10_taken.cls yX10_taken yX10_taken ∈ zq_T := ⟨⟨zq_mem 1147 (by decide +kernel) rfl, zq_mem 124 (by decide +kernel) rfl, ⟨by decide +kernel, by decide +kernel, by decide +kernel⟩, by decide +kernel, Nat.le_of_ble_eq_true rfl⟩, zq_mem 1145 (by decide +kernel) rfl, zq_mem 1146 (by decide +kernel) rfl⟩
theorem zd_X10_count : zq_cd YX10_count 1 ∧ Cond.instanceMethod yX10_count ∈ zq_T ∧ Cond.selects yX10_count.cls yX10_count yX10_count ∈ zq_T := ⟨⟨zq_mem 1155 (by decide +kernel) rfl, zq_mem 124 (by decide +kernel) rfl, ⟨by decide +kernel, by decide +kernel, by decide +kernel⟩, by decide +kernel, Nat.le_of_ble_eq_true rfl⟩, zq_mem 1153 (by decide +kernel) rfl, zq_mem 1154 (by decide +kernel) rfl⟩
theorem zd_X10_tape : zq_cd YX10_tape 3 ∧ Cond.instanceMethod yX10_tape ∈ zq_T ∧ Cond.selects yX10_tape.cls yX10_tape yX10_tape ∈ zq_T := ⟨⟨zq_mem 1159 (by decide +kernel) rfl, zq_mem 124 (by decide +kernel) rfl, ⟨by decide +kernel, by decide +kernel, by decide +kernel⟩, by decide +kernel, Nat.le_of_ble_eq_true rfl⟩, zq_mem 1157 (by decide +kernel) rfl, zq_mem 1158 (by decide +kernel) rfl⟩
theorem zd_X10_item : zq_cd YX10_item 3 ∧ Cond.instanceMethod yX10_item ∈ zq_T ∧ Cond.selects yX10_item.cls yX10_item yX10_item ∈ zq_T := ⟨⟨zq_mem 1174 (by decide +kernel) rfl, zq_mem 124 (by decide +kernel) rfl, ⟨by decide +kernel, by decide +kernel, by decide +kernel⟩, by decide +kernel, Nat.le_of_ble_eq_true rfl⟩, zq_mem 1172 (by decide +kernel) rfl, zq_mem 1173 (by decide +kernel) rfl⟩
theorem zd_X10_read : zq_cd YX10_read 2 ∧ Cond.instanceMethod yX10_read ∈ zq_T ∧ Cond.selects yX10_read.cls yX10_read yX10_read ∈ zq_T := ⟨⟨zq_mem 1186 (by decide +kernel) rfl, zq_mem 124 (by decide +kernel) rfl, ⟨by decide +kernel, by decide +kernel, by decide +kernel⟩, by decide +kernel, Nat.le_of_ble_eq_true rfl⟩, zq_mem 1184 (by decide +kernel) rfl, zq_mem 1185 (by decide +kernel) rfl⟩
theorem zd_X10_shift : zq_cd YX10_shift 5 ∧ Cond.instanceMethod yX10_shift ∈ zq_T ∧ Cond.selects yX10_shift.cls yX10_shift yX10_shift ∈ zq_T := ⟨⟨zq_mem 1190 (by decide +kernel) rfl, zq_mem 124 (by decide +kernel) rfl, ⟨by decide +kernel, by decide +kernel, by decide +kernel⟩, by decide +kernel, Nat.le_of_ble_eq_true rfl⟩, zq_mem 1188 (by decide +kernel) rfl, zq_mem 1189 (by decide +kernel) rfl⟩
theorem zd_X10_isFromTo : zq_cd YX10_isFromTo 3 ∧ Cond.static yX10_isFromTo ∈ zq_T := ⟨⟨zq_mem 505 (by decide +kernel) rfl, zq_mem 124 (by decide +kernel) rfl, ⟨by decide +kernel, by decide +kernel, by decide +kernel⟩, by decide +kernel, Nat.le_of_ble_eq_true rfl⟩, zq_mem 504 (by decide +kernel) rfl⟩
theorem zd_X10_isRoom : zq_cd YX10_isRoom 1 ∧ Cond.static yX10_isRoom ∈ zq_T := ⟨⟨zq_mem 547 (by decide +kernel) rfl, zq_mem 124 (by decide +kernel) rfl, ⟨by decide +kernel, by decide +kernel, by decide +kernel⟩, by decide +kernel, Nat.le_of_ble_eq_true rfl⟩, zq_mem 546 (by decide +kernel) rfl⟩
theorem zd_X10_isPlace : zq_cd YX10_isPlace 1 ∧ Cond.static yX10_isPlace ∈ zq_T := ⟨⟨zq_mem 508 (by decide +kernel) rfl, zq_mem 124 (by decide +kernel) rfl, ⟨by decide +kernel, by decide +kernel, by decide +kernel⟩, by decide +kernel, Nat.le_of_ble_eq_true rfl⟩, zq_mem 507 (by decide +kernel) rfl⟩
theorem zd_X10_isThing : zq_cd YX10_isThing 1 ∧ Cond.static yX10_isThing ∈ zq_T := ⟨⟨zq_mem 821 (by decide +kernel) rfl, zq_mem 124 (by decide +kernel) rfl, ⟨by decide +kernel, by decide +kernel, by decide +kernel⟩, by decide +kernel, Nat.le_of_ble_eq_true rfl⟩, zq_mem 820 (by decide +kernel) rfl⟩
theorem zd_X10_isTape : zq_cd YX10_isTape 1 ∧ Cond.static yX10_isTape ∈ zq_T := ⟨⟨zq_mem 1081 (by decide +kernel) rfl, zq_mem 124 (by decide +kernel) rfl, ⟨by decide +kernel, by decide +kernel, by decide +kernel⟩, by decide +kernel, Nat.le_of_ble_eq_true rfl⟩, zq_mem 1080 (by decide +kernel) rfl⟩
theorem zd_X10_isPerson : zq_cd YX10_isPerson 1 ∧ Cond.instanceMethod yX10_isPerson ∈ zq_T ∧ Cond.selects yX10_isPerson.cls yX10_isPerson yX10_isPerson ∈ zq_T := ⟨⟨zq_mem 520 (by decide +kernel) rfl, zq_mem 124 (by decide +kernel) rfl, ⟨by decide +kernel, by decide +kernel, by decide +kernel⟩, by decide +kernel, Nat.le_of_ble_eq_true rfl⟩, zq_mem 519 (by decide +kernel) rfl, zq_mem 0 (by decide +kernel) rfl⟩
theorem zd_X10_isKindOrUnder : zq_cd YX10_isKindOrUnder 2 ∧ Cond.static yX10_isKindOrUnder ∈ zq_T := ⟨⟨zq_mem 1150 (by decide +kernel) rfl, zq_mem 124 (by decide +kernel) rfl, ⟨by decide +kernel, by decide +kernel, by decide +kernel⟩, by decide +kernel, Nat.le_of_ble_eq_true rfl⟩, zq_mem 1149 (by decide +kernel) rfl⟩
theorem zd_X10_holding : zq_cd YX10_holding 0 ∧ Cond.instanceMethod yX10_holding ∈ zq_T ∧ Cond.selects yX10_holding.cls yX10_holding yX10_holding ∈ zq_T := ⟨⟨zq_mem 532 (by decide +kernel) rfl, zq_mem 124 (by decide +kernel) rfl, ⟨by decide +kernel, by decide +kernel, by decide +kernel⟩, by decide +kernel, Nat.le_of_ble_eq_true rfl⟩, zq_mem 531 (by decide +kernel) rfl, zq_mem 3 (by decide +kernel) rfl⟩
theorem zd_X10_lookAhead : zq_cd YX10_lookAhead 0 ∧ Cond.instanceMethod yX10_lookAhead ∈ zq_T ∧ Cond.selects yX10_lookAhead.cls yX10_lookAhead yX10_lookAhead ∈ zq_T := ⟨⟨zq_mem 839 (by decide +kernel) rfl, zq_mem 124 (by decide +kernel) rfl, ⟨by decide +kernel, by decide +kernel, by decide +kernel⟩, by decide +kernel, Nat.le_of_ble_eq_true rfl⟩, zq_mem 838 (by decide +kernel) rfl, zq_mem 22 (by decide +kernel) rfl⟩
theorem zd_X10_speakersNow : zq_cd YX10_speakersNow 1 ∧ Cond.instanceMethod yX10_speakersNow ∈ zq_T ∧ Cond.selects yX10_speakersNow.cls yX10_speakersNow yX10_speakersNow ∈ zq_T := ⟨⟨zq_mem 528 (by decide +kernel) rfl, zq_mem 124 (by decide +kernel) rfl, ⟨by decide +kernel, by decide +kernel, by decide +kernel⟩, by decide +kernel, Nat.le_of_ble_eq_true rfl⟩, zq_mem 527 (by decide +kernel) rfl, zq_mem 2 (by decide +kernel) rfl⟩
theorem zd_X10_maySpeakNow : zq_cd YX10_maySpeakNow 1 ∧ Cond.instanceMethod yX10_maySpeakNow ∈ zq_T ∧ Cond.selects yX10_maySpeakNow.cls yX10_maySpeakNow yX10_maySpeakNow ∈ zq_T := ⟨⟨zq_mem 524 (by decide +kernel) rfl, zq_mem 124 (by decide +kernel) rfl, ⟨by decide +kernel, by decide +kernel, by decide +kernel⟩, by decide +kernel, Nat.le_of_ble_eq_true rfl⟩, zq_mem 523 (by decide +kernel) rfl, zq_mem 1 (by decide +kernel) rfl⟩
theorem zd_X10_priceNow : zq_cd YX10_priceNow 2 ∧ Cond.instanceMethod yX10_priceNow ∈ zq_T ∧ Cond.selects yX10_priceNow.cls yX10_priceNow yX10_priceNow ∈ zq_T := ⟨⟨zq_mem 768 (by decide +kernel) rfl, zq_mem 124 (by decide +kernel) rfl, ⟨by decide +kernel, by decide +kernel, by decide +kernel⟩, by decide +kernel, Nat.le_of_ble_eq_true rfl⟩, zq_mem 767 (by decide +kernel) rfl, zq_mem 17 (by decide +kernel) rfl⟩
theorem zd_X10_isBarredNow : zq_cd YX10_isBarredNow 2 ∧ Cond.instanceMethod yX10_isBarredNow ∈ zq_T ∧ Cond.selects yX10_isBarredNow.cls yX10_isBarredNow yX10_isBarredNow ∈ zq_T := ⟨⟨zq_mem 801 (by decide +kernel) rfl, zq_mem 124 (by decide +kernel) rfl, ⟨by decide +kernel, by decide +kernel, by decide +kernel⟩, by decide +kernel, Nat.le_of_ble_eq_true rfl⟩, zq_mem 800 (by decide +kernel) rfl, zq_mem 21 (by decide +kernel) rfl⟩
theorem zd_X10_numberWith : zq_cd YX10_numberWith 1 ∧ Cond.instanceMethod yX10_numberWith ∈ zq_T ∧ Cond.selects yX10_numberWith.cls yX10_numberWith yX10_numberWith ∈ zq_T := ⟨⟨zq_mem 772 (by decide +kernel) rfl, zq_mem 124 (by decide +kernel) rfl, ⟨by decide +kernel, by decide +kernel, by decide +kernel⟩, by decide +kernel, Nat.le_of_ble_eq_true rfl⟩, zq_mem 771 (by decide +kernel) rfl, zq_mem 18 (by decide +kernel) rfl⟩
theorem zd_X10_firstOtherwise : zq_cd YX10_firstOtherwise 2 ∧ Cond.instanceMethod yX10_firstOtherwise ∈ zq_T ∧ Cond.selects yX10_firstOtherwise.cls yX10_firstOtherwise yX10_firstOtherwise ∈ zq_T := ⟨⟨zq_mem 1089 (by decide +kernel) rfl, zq_mem 124 (by decide +kernel) rfl, ⟨by decide +kernel, by decide +kernel, by decide +kernel⟩, by decide +kernel, Nat.le_of_ble_eq_true rfl⟩, zq_mem 1088 (by decide +kernel) rfl, zq_mem 45 (by decide +kernel) rfl⟩
theorem zd_X11_init : zq_cd YX11_init 0 ∧ Cond.instanceMethod yX11_init ∈ zq_T := ⟨⟨zq_mem 1200 (by decide +kernel) rfl, zq_mem 135 (by decide +kernel) rfl, ⟨by decide +kernel, by decide +kernel, by decide +kernel⟩, by decide +kernel, Nat.le_of_ble_eq_true rfl⟩, zq_mem 1199 (by decide +kernel) rfl⟩
theorem zd_X11_within : zq_cd YX11_within 3 ∧ Cond.instanceMethod yX11_within ∈ zq_T ∧ Cond.selects yX11_within.cls yX11_within yX11_within ∈ zq_T := ⟨⟨zq_mem 1412 (by decide +kernel) rfl, zq_mem 135 (by decide +kernel) rfl, ⟨by decide +kernel, by decide +kernel, by decide +kernel⟩, by decide +kernel, Nat.le_of_ble_eq_true rfl⟩, zq_mem 1411 (by decide +kernel) rfl, zq_mem 49 (by decide +kernel) rfl⟩
theorem zd_X11_has : zq_cd YX11_has 2 ∧ Cond.instanceMethod yX11_has ∈ zq_T ∧ Cond.selects yX11_has.cls yX11_has yX11_has ∈ zq_T := ⟨⟨zq_mem 1588 (by decide +kernel) rfl, zq_mem 135 (by decide +kernel) rfl, ⟨by decide +kernel, by decide +kernel, by decide +kernel⟩, by decide +kernel, Nat.le_of_ble_eq_true rfl⟩, zq_mem 1587 (by decide +kernel) rfl, zq_mem 83 (by decide +kernel) rfl⟩
theorem zd_X11_ones : zq_cd YX11_ones 1 ∧ Cond.instanceMethod yX11_ones ∈ zq_T ∧ Cond.selects yX11_ones.cls yX11_ones yX11_ones ∈ zq_T := ⟨⟨zq_mem 1704 (by decide +kernel) rfl, zq_mem 135 (by decide +kernel) rfl, ⟨by decide +kernel, by decide +kernel, by decide +kernel⟩, by decide +kernel, Nat.le_of_ble_eq_true rfl⟩, zq_mem 1703 (by decide +kernel) rfl, zq_mem 104 (by decide +kernel) rfl⟩
theorem zd_X11_isPerson : zq_cd YX11_isPerson 1 ∧ Cond.instanceMethod yX11_isPerson ∈ zq_T ∧ Cond.selects yX11_isPerson.cls yX11_isPerson yX11_isPerson ∈ zq_T := ⟨⟨zq_mem 1428 (by decide +kernel) rfl, zq_mem 135 (by decide +kernel) rfl, ⟨by decide +kernel, by decide +kernel, by decide +kernel⟩, by decide +kernel, Nat.le_of_ble_eq_true rfl⟩, zq_mem 1427 (by decide +kernel) rfl, zq_mem 52 (by decide +kernel) rfl⟩
theorem zd_X11_isRoom : zq_cd YX11_isRoom 1 ∧ Cond.instanceMethod yX11_isRoom ∈ zq_T ∧ Cond.selects yX11_isRoom.cls yX11_isRoom yX11_isRoom ∈ zq_T := ⟨⟨zq_mem 1480 (by decide +kernel) rfl, zq_mem 135 (by decide +kernel) rfl, ⟨by decide +kernel, by decide +kernel, by decide +kernel⟩, by decide +kernel, Nat.le_of_ble_eq_true rfl⟩, zq_mem 1479 (by decide +kernel) rfl, zq_mem 63 (by decide +kernel) rfl⟩
theorem zd_X11_isPlace : zq_cd YX11_isPlace 1 ∧ Cond.instanceMethod yX11_isPlace ∈ zq_T ∧ Cond.selects yX11_isPlace.cls yX11_isPlace yX11_isPlace ∈ zq_T := ⟨⟨zq_mem 1416 (by decide +kernel) rfl, zq_mem 135 (by decide +kernel) rfl, ⟨by decide +kernel, by decide +kernel, by decide +kernel⟩, by decide +kernel, Nat.le_of_ble_eq_true rfl⟩, zq_mem 1415 (by decide +kernel) rfl, zq_mem 50 (by decide +kernel) rfl⟩
theorem zd_X11_isThing : zq_cd YX11_isThing 1 ∧ Cond.instanceMethod yX11_isThing ∈ zq_T ∧ Cond.selects yX11_isThing.cls yX11_isThing yX11_isThing ∈ zq_T := ⟨⟨zq_mem 1584 (by decide +kernel) rfl, zq_mem 135 (by decide +kernel) rfl, ⟨by decide +kernel, by decide +kernel, by decide +kernel⟩, by decide +kernel, Nat.le_of_ble_eq_true rfl⟩, zq_mem 1583 (by decide +kernel) rfl, zq_mem 82 (by decide +kernel) rfl⟩
theorem zd_X11_placeOf : zq_cd YX11_placeOf 2 ∧ Cond.instanceMethod yX11_placeOf ∈ zq_T ∧ Cond.selects yX11_placeOf.cls yX11_placeOf yX11_placeOf ∈ zq_T := ⟨⟨zq_mem 1444 (by decide +kernel) rfl, zq_mem 135 (by decide +kernel) rfl, ⟨by decide +kernel, by decide +kernel, by decide +kernel⟩, by decide +kernel, Nat.le_of_ble_eq_true rfl⟩, zq_mem 1443 (by decide +kernel) rfl, zq_mem 56 (by decide +kernel) rfl⟩
theorem zd_X11_moved : zq_cd YX11_moved 3 ∧ Cond.instanceMethod yX11_moved ∈ zq_T ∧ Cond.selects yX11_moved.cls yX11_moved yX11_moved ∈ zq_T := ⟨⟨zq_mem 1420 (by decide +kernel) rfl, zq_mem 135 (by decide +kernel) rfl, ⟨by decide +kernel, by decide +kernel, by decide +kernel⟩, by decide +kernel, Nat.le_of_ble_eq_true rfl⟩, zq_mem 1419 (by decide +kernel) rfl, zq_mem 51 (by decide +kernel) rfl⟩
theorem zd_X11_manyIn : zq_cd YX11_manyIn 2 ∧ Cond.instanceMethod yX11_manyIn ∈ zq_T ∧ Cond.selects yX11_manyIn.cls yX11_manyIn yX11_manyIn ∈ zq_T := ⟨⟨zq_mem 1464 (by decide +kernel) rfl, zq_mem 135 (by decide +kernel) rfl, ⟨by decide +kernel, by decide +kernel, by decide +kernel⟩, by decide +kernel, Nat.le_of_ble_eq_true rfl⟩, zq_mem 1463 (by decide +kernel) rfl, zq_mem 61 (by decide +kernel) rfl⟩
theorem zd_X11_person : zq_cd YX11_person 3 ∧ Cond.instanceMethod yX11_person ∈ zq_T ∧ Cond.selects yX11_person.cls yX11_person yX11_person ∈ zq_T := ⟨⟨zq_mem 1408 (by decide +kernel) rfl, zq_mem 135 (by decide +kernel) rfl, ⟨by decide +kernel, by decide +kernel, by decide +kernel⟩, by decide +kernel, Nat.le_of_ble_eq_true rfl⟩, zq_mem 1406 (by decide +kernel) rfl, zq_mem 1407 (by decide +kernel) rfl⟩
theorem zd_X11_measure : zq_cd YX11_measure 2 ∧ Cond.instanceMethod yX11_measure ∈ zq_T ∧ Cond.selects yX11_measure.cls yX11_measure yX11_measure ∈ zq_T := ⟨⟨zq_mem 1456 (by decide +kernel) rfl, zq_mem 135 (by decide +kernel) rfl, ⟨by decide +kernel, by decide +kernel, by decide +kernel⟩, by decide +kernel, Nat.le_of_ble_eq_true rfl⟩, zq_mem 1455 (by decide +kernel) rfl, zq_mem 59 (by decide +kernel) rfl⟩
theorem zd_X11_placeInLine : zq_cd YX11_placeInLine 3 ∧ Cond.instanceMethod yX11_placeInLine ∈ zq_T ∧ Cond.selects yX11_placeInLine.cls yX11_placeInLine yX11_placeInLine ∈ zq_T := ⟨⟨zq_mem 1460 (by decide +kernel) rfl, zq_mem 135 (by decide +kernel) rfl, ⟨by decide +kernel, by decide +kernel, by decide +kernel⟩, by decide +kernel, Nat.le_of_ble_eq_true rfl⟩, zq_mem 1459 (by decide +kernel) rfl, zq_mem 60 (by decide +kernel) rfl⟩
theorem zd_X11_hasLike : zq_cd YX11_hasLike 4 ∧ Cond.instanceMethod yX11_hasLike ∈ zq_T ∧ Cond.selects yX11_hasLike.cls yX11_hasLike yX11_hasLike ∈ zq_T := ⟨⟨zq_mem 1452 (by decide +kernel) rfl, zq_mem 135 (by decide +kernel) rfl, ⟨by decide +kernel, by decide +kernel, by decide +kernel⟩, by decide +kernel, Nat.le_of_ble_eq_true rfl⟩, zq_mem 1451 (by decide +kernel) rfl, zq_mem 58 (by decide +kernel) rfl⟩
theorem zd_X11_isMiddle : zq_cd YX11_isMiddle 4 ∧ Cond.instanceMethod yX11_isMiddle ∈ zq_T ∧ Cond.selects yX11_isMiddle.cls yX11_isMiddle yX11_isMiddle ∈ zq_T := ⟨⟨zq_mem 1468 (by decide +kernel) rfl, zq_mem 135 (by decide +kernel) rfl, ⟨by decide +kernel, by decide +kernel, by decide +kernel⟩, by decide +kernel, Nat.le_of_ble_eq_true rfl⟩, zq_mem 1467 (by decide +kernel) rfl, zq_mem 62 (by decide +kernel) rfl⟩
theorem zd_X11_maySpeak : zq_cd YX11_maySpeak 3 ∧ Cond.instanceMethod yX11_maySpeak ∈ zq_T ∧ Cond.selects yX11_maySpeak.cls yX11_maySpeak yX11_maySpeak ∈ zq_T := ⟨⟨zq_mem 1448 (by decide +kernel) rfl, zq_mem 135 (by decide +kernel) rfl, ⟨by decide +kernel, by decide +kernel, by decide +kernel⟩, by decide +kernel, Nat.le_of_ble_eq_true rfl⟩, zq_mem 1447 (by decide +kernel) rfl, zq_mem 57 (by decide +kernel) rfl⟩
theorem zd_X11_of : zq_cd YX11_of 2 ∧ Cond.instanceMethod yX11_of ∈ zq_T ∧ Cond.selects yX11_of.cls yX11_of yX11_of ∈ zq_T := ⟨⟨zq_mem 1424 (by decide +kernel) rfl, zq_mem 135 (by decide +kernel) rfl, ⟨by decide +kernel, by decide +kernel, by decide +kernel⟩, by decide +kernel, Nat.le_of_ble_eq_true rfl⟩, zq_mem 1422 (by decide +kernel) rfl, zq_mem 1423 (by decide +kernel) rfl⟩
theorem zd_X11_learn : zq_cd YX11_learn 2 ∧ Cond.instanceMethod yX11_learn ∈ zq_T ∧ Cond.selects yX11_learn.cls yX11_learn yX11_learn ∈ zq_T := ⟨⟨zq_mem 1472 (by decide +kernel) rfl, zq_mem 135 (by decide +kernel) rfl, ⟨by decide +kernel, by decide +kernel, by decide +kernel⟩, by decide +kernel, Nat.le_of_ble_eq_true rfl⟩, zq_mem 1470 (by decide +kernel) rfl, zq_mem 1471 (by decide +kernel) rfl⟩
theorem zd_X11_room : zq_cd YX11_room 3 ∧ Cond.instanceMethod yX11_room ∈ zq_T ∧ Cond.selects yX11_room.cls yX11_room yX11_room ∈ zq_T := ⟨⟨zq_mem 1476 (by decide +kernel) rfl, zq_mem 135 (by decide +kernel) rfl, ⟨by decide +kernel, by decide +kernel, by decide +kernel⟩, by decide +kernel, Nat.le_of_ble_eq_true rfl⟩, zq_mem 1474 (by decide +kernel) rfl, zq_mem 1475 (by decide +kernel) rfl⟩
theorem zd_X11_inside : zq_cd YX11_inside 2 ∧ Cond.instanceMethod yX11_inside ∈ zq_T ∧ Cond.selects yX11_inside.cls yX11_inside yX11_inside ∈ zq_T := ⟨⟨zq_mem 1484 (by decide +kernel) rfl, zq_mem 135 (by decide +kernel) rfl, ⟨by decide +kernel, by decide +kernel, by decide +kernel⟩, by decide +kernel, Nat.le_of_ble_eq_true rfl⟩, zq_mem 1482 (by decide +kernel) rfl, zq_mem 1483 (by decide +kernel) rfl⟩
theorem zd_X11_feed : zq_cd YX11_feed 1 ∧ Cond.instanceMethod yX11_feed ∈ zq_T ∧ Cond.selects yX11_feed.cls yX11_feed yX11_feed ∈ zq_T := ⟨⟨zq_mem 1488 (by decide +kernel) rfl, zq_mem 135 (by decide +kernel) rfl, ⟨by decide +kernel, by decide +kernel, by decide +kernel⟩, by decide +kernel, Nat.le_of_ble_eq_true rfl⟩, zq_mem 1486 (by decide +kernel) rfl, zq_mem 1487 (by decide +kernel) rfl⟩
theorem zd_X11_next : zq_cd YX11_next 0 ∧ Cond.instanceMethod yX11_next ∈ zq_T ∧ Cond.selects yX11_next.cls yX11_next yX11_next ∈ zq_T := ⟨⟨zq_mem 1508 (by decide +kernel) rfl, zq_mem 135 (by decide +kernel) rfl, ⟨by decide +kernel, by decide +kernel, by decide +kernel⟩, by decide +kernel, Nat.le_of_ble_eq_true rfl⟩, zq_mem 1507 (by decide +kernel) rfl, zq_mem 67 (by decide +kernel) rfl⟩
theorem zd_X11_takes : zq_cd YX11_takes 1 ∧ Cond.instanceMethod yX11_takes ∈ zq_T ∧ Cond.selects yX11_takes.cls yX11_takes yX11_takes ∈ zq_T := ⟨⟨zq_mem 1516 (by decide +kernel) rfl, zq_mem 135 (by decide +kernel) rfl, ⟨by decide +kernel, by decide +kernel, by decide +kernel⟩, by decide +kernel, Nat.le_of_ble_eq_true rfl⟩, zq_mem 1515 (by decide +kernel) rfl, zq_mem 69 (by decide +kernel) rfl⟩
theorem zd_X11_takesWord : zq_cd YX11_takesWord 2 ∧ Cond.instanceMethod yX11_takesWord ∈ zq_T ∧ Cond.selects yX11_takesWord.cls yX11_takesWord yX11_takesWord ∈ zq_T := ⟨⟨zq_mem 1512 (by decide +kernel) rfl, zq_mem 135 (by decide +kernel) rfl, ⟨by decide +kernel, by decide +kernel, by decide +kernel⟩, by decide +kernel, Nat.le_of_ble_eq_true rfl⟩, zq_mem 1511 (by decide +kernel) rfl, zq_mem 68 (by decide +kernel) rfl⟩
theorem zd_X11_isDigit : zq_cd YX11_isDigit 0 ∧ Cond.instanceMethod yX11_isDigit ∈ zq_T ∧ Cond.selects yX11_isDigit.cls yX11_isDigit yX11_isDigit ∈ zq_T := ⟨⟨zq_mem 1536 (by decide +kernel) rfl, zq_mem 135 (by decide +kernel) rfl, ⟨by decide +kernel, by decide +kernel, by decide +kernel⟩, by decide +kernel, Nat.le_of_ble_eq_true rfl⟩, zq_mem 1535 (by decide +kernel) rfl, zq_mem 74 (by decide +kernel) rfl⟩
theorem zd_X11_takesNumber : zq_cd YX11_takesNumber 0 ∧ Cond.instanceMethod yX11_takesNumber ∈ zq_T ∧ Cond.selects yX11_takesNumber.cls yX11_takesNumber yX11_takesNumber ∈ zq_T := ⟨⟨zq_mem 1532 (by decide +kernel) rfl, zq_mem 135 (by decide +kernel) rfl, ⟨by decide +kernel, by decide +kernel, by decide +kernel⟩, by decide +kernel, Nat.le_of_ble_eq_true rfl⟩, zq_mem 1531 (by decide +kernel) rfl, zq_mem 73 (by decide +kernel) rfl⟩
theorem zd_X11_put : zq_cd YX11_put 1 ∧ Cond.instanceMethod yX11_put ∈ zq_T ∧ Cond.selects yX11_put.cls yX11_put yX11_put ∈ zq_T := ⟨⟨zq_mem 1540 (by decide +kernel) rfl, zq_mem 135 (by decide +kernel) rfl, ⟨by decide +kernel, by decide +kernel, by decide +kernel⟩, by decide +kernel, Nat.le_of_ble_eq_true rfl⟩, zq_mem 1539 (by decide +kernel) rfl, zq_mem 75 (by decide +kernel) rfl⟩
theorem zd_X11_whole : zq_cd YX11_whole 0 ∧ Cond.instanceMethod yX11_whole ∈ zq_T ∧ Cond.selects yX11_whole.cls yX11_whole yX11_whole ∈ zq_T := ⟨⟨zq_mem 1544 (by decide +kernel) rfl, zq_mem 135 (by decide +kernel) rfl, ⟨by decide +kernel, by decide +kernel, by decide +kernel⟩, by decide +kernel, Nat.le_of_ble_eq_true rfl⟩, zq_mem 1543 (by decide +kernel) rfl, zq_mem 76 (by decide +kernel) rfl⟩
theorem zd_X11_settle : zq_cd YX11_settle 1 ∧ Cond.instanceMethod yX11_settle ∈ zq_T ∧ Cond.selects yX11_settle.cls yX11_settle yX11_settle ∈ zq_T := ⟨⟨zq_mem 1548 (by decide +kernel) rfl, zq_mem 135 (by decide +kernel) rfl, ⟨by decide +kernel, by decide +kernel, by decide +kernel⟩, by decide +kernel, Nat.le_of_ble_eq_true rfl⟩, zq_mem 1547 (by decide +kernel) rfl, zq_mem 77 (by decide +kernel) rfl⟩
theorem zd_X11_place : zq_cd YX11_place 1 ∧ Cond.instanceMethod yX11_place ∈ zq_T ∧ Cond.selects yX11_place.cls yX11_place yX11_place ∈ zq_T := ⟨⟨zq_mem 1528 (by decide +kernel) rfl, zq_mem 135 (by decide +kernel) rfl, ⟨by decide +kernel, by decide +kernel, by decide +kernel⟩, by decide +kernel, Nat.le_of_ble_eq_true rfl⟩, zq_mem 1527 (by decide +kernel) rfl, zq_mem 72 (by decide +kernel) rfl⟩
theorem zd_X11_takesTest : zq_cd YX11_takesTest 0 ∧ Cond.instanceMethod yX11_takesTest ∈ zq_T ∧ Cond.selects yX11_takesTest.cls yX11_takesTest yX11_takesTest ∈ zq_T := ⟨⟨zq_mem 1524 (by decide +kernel) rfl, zq_mem 135 (by decide +kernel) rfl, ⟨by decide +kernel, by decide +kernel, by decide +kernel⟩, by decide +kernel, Nat.le_of_ble_eq_true rfl⟩, zq_mem 1523 (by decide +kernel) rfl, zq_mem 71 (by decide +kernel) rfl⟩
theorem zd_X11_takesE : zq_cd YX11_takesE 1 ∧ Cond.instanceMethod yX11_takesE ∈ zq_T ∧ Cond.selects yX11_takesE.cls yX11_takesE yX11_takesE ∈ zq_T := ⟨⟨zq_mem 1520 (by decide +kernel) rfl, zq_mem 135 (by decide +kernel) rfl, ⟨by decide +kernel, by decide +kernel, by decide +kernel⟩, by decide +kernel, Nat.le_of_ble_eq_true rfl⟩, zq_mem 1519 (by decide +kernel) rfl, zq_mem 70 (by decide +kernel) rfl⟩
theorem zd_X11_takesHead : zq_cd YX11_takesHead 1 ∧ Cond.instanceMethod yX11_takesHead ∈ zq_T ∧ Cond.selects yX11_takesHead.cls yX11_takesHead yX11_takesHead ∈ zq_T := ⟨⟨zq_mem 1504 (by decide +kernel) rfl, zq_mem 135 (by decide +kernel) rfl, ⟨by decide +kernel, by decide +kernel, by decide +kernel⟩, by decide +kernel, Nat.le_of_ble_eq_true rfl⟩, zq_mem 1503 (by decide +kernel) rfl, zq_mem 66 (by decide +kernel) rfl⟩
theorem zd_X11_takesClause : zq_cd YX11_takesClause 1 ∧ Cond.instanceMethod yX11_takesClause ∈ zq_T ∧ Cond.selects yX11_takesClause.cls yX11_takesClause yX11_takesClause ∈ zq_T := ⟨⟨zq_mem 1500 (by decide +kernel) rfl, zq_mem 135 (by decide +kernel) rfl, ⟨by decide +kernel, by decide +kernel, by decide +kernel⟩, by decide +kernel, Nat.le_of_ble_eq_true rfl⟩, zq_mem 1499 (by decide +kernel) rfl, zq_mem 65 (by decide +kernel) rfl⟩
theorem zd_X11_goesText : zq_cd YX11_goesText 1 ∧ Cond.instanceMethod yX11_goesText ∈ zq_T ∧ Cond.selects yX11_goesText.cls yX11_goesText yX11_goesText ∈ zq_T := ⟨⟨zq_mem 1496 (by decide +kernel) rfl, zq_mem 135 (by decide +kernel) rfl, ⟨by decide +kernel, by decide +kernel, by decide +kernel⟩, by decide +kernel, Nat.le_of_ble_eq_true rfl⟩, zq_mem 1495 (by decide +kernel) rfl, zq_mem 64 (by decide +kernel) rfl⟩
theorem zd_X11_house : zq_cd YX11_house 0 ∧ Cond.instanceMethod yX11_house ∈ zq_T ∧ Cond.selects yX11_house.cls yX11_house yX11_house ∈ zq_T := ⟨⟨zq_mem 1492 (by decide +kernel) rfl, zq_mem 135 (by decide +kernel) rfl, ⟨by decide +kernel, by decide +kernel, by decide +kernel⟩, by decide +kernel, Nat.le_of_ble_eq_true rfl⟩, zq_mem 1490 (by decide +kernel) rfl, zq_mem 1491 (by decide +kernel) rfl⟩
theorem zd_X11_first : zq_cd YX11_first 0 ∧ Cond.instanceMethod yX11_first ∈ zq_T ∧ Cond.selects yX11_first.cls yX11_first yX11_first ∈ zq_T := ⟨⟨zq_mem 1436 (by decide +kernel) rfl, zq_mem 135 (by decide +kernel) rfl, ⟨by decide +kernel, by decide +kernel, by decide +kernel⟩, by decide +kernel, Nat.le_of_ble_eq_true rfl⟩, zq_mem 1435 (by decide +kernel) rfl, zq_mem 54 (by decide +kernel) rfl⟩
theorem zd_X11_behind : zq_cd YX11_behind 0 ∧ Cond.instanceMethod yX11_behind ∈ zq_T ∧ Cond.selects yX11_behind.cls yX11_behind yX11_behind ∈ zq_T := ⟨⟨zq_mem 1440 (by decide +kernel) rfl, zq_mem 135 (by decide +kernel) rfl, ⟨by decide +kernel, by decide +kernel, by decide +kernel⟩, by decide +kernel, Nat.le_of_ble_eq_true rfl⟩, zq_mem 1439 (by decide +kernel) rfl, zq_mem 55 (by decide +kernel) rfl⟩
theorem zd_X11_sameNow : zq_cd YX11_sameNow 0 ∧ Cond.instanceMethod yX11_sameNow ∈ zq_T ∧ Cond.selects yX11_sameNow.cls yX11_sameNow yX11_sameNow ∈ zq_T := ⟨⟨zq_mem 1432 (by decide +kernel) rfl, zq_mem 135 (by decide +kernel) rfl, ⟨by decide +kernel, by decide +kernel, by decide +kernel⟩, by decide +kernel, Nat.le_of_ble_eq_true rfl⟩, zq_mem 1431 (by decide +kernel) rfl, zq_mem 53 (by decide +kernel) rfl⟩
theorem zd_X11_told : zq_cd YX11_told 1 ∧ Cond.instanceMethod yX11_told ∈ zq_T ∧ Cond.selects yX11_told.cls yX11_told yX11_told ∈ zq_T := ⟨⟨zq_mem 1552 (by decide +kernel) rfl, zq_mem 135 (by decide +kernel) rfl, ⟨by decide +kernel, by decide +kernel, by decide +kernel⟩, by decide +kernel, Nat.le_of_ble_eq_true rfl⟩, zq_mem 1550 (by decide +kernel) rfl, zq_mem 1551 (by decide +kernel) rfl⟩
theorem zd_X11_factOf : zq_cd YX11_factOf 5 ∧ Cond.instanceMethod yX11_factOf ∈ zq_T ∧ Cond.selects yX11_factOf.cls yX11_factOf yX11_factOf ∈ zq_T := ⟨⟨zq_mem 1568 (by decide +kernel) rfl, zq_mem 135 (by decide +kernel) rfl, ⟨by decide +kernel, by decide +kernel, by decide +kernel⟩, by decide +kernel, Nat.le_of_ble_eq_true rfl⟩, zq_mem 1567 (by decide +kernel) rfl, zq_mem 80 (by decide +kernel) rfl⟩
theorem zd_X11_holds : zq_cd YX11_holds 5 ∧ Cond.instanceMethod yX11_holds ∈ zq_T ∧ Cond.selects yX11_holds.cls yX11_holds yX11_holds ∈ zq_T := ⟨⟨zq_mem 1564 (by decide +kernel) rfl, zq_mem 135 (by decide +kernel) rfl, ⟨by decide +kernel, by decide +kernel, by decide +kernel⟩, by decide +kernel, Nat.le_of_ble_eq_true rfl⟩, zq_mem 1563 (by decide +kernel) rfl, zq_mem 79 (by decide +kernel) rfl⟩
theorem zd_X11_sumOf : zq_cd YX11_sumOf 5 ∧ Cond.instanceMethod yX11_sumOf ∈ zq_T ∧ Cond.selects yX11_sumOf.cls yX11_sumOf yX11_sumOf ∈ zq_T := ⟨⟨zq_mem 1560 (by decide +kernel) rfl, zq_mem 135 (by decide +kernel) rfl, ⟨by decide +kernel, by decide +kernel, by decide +kernel⟩, by decide +kernel, Nat.le_of_ble_eq_true rfl⟩, zq_mem 1559 (by decide +kernel) rfl, zq_mem 78 (by decide +kernel) rfl⟩
theorem zd_X11_isBarred : zq_cd YX11_isBarred 3 ∧ Cond.instanceMethod yX11_isBarred ∈ zq_T ∧ Cond.selects yX11_isBarred.cls yX11_isBarred yX11_isBarred ∈ zq_T := ⟨⟨zq_mem 1572 (by decide +kernel) rfl, zq_mem 135 (by decide +kernel) rfl, ⟨by decide +kernel, by decide +kernel, by decide +kernel⟩, by decide +kernel, Nat.le_of_ble_eq_true rfl⟩, zq_mem 1571 (by decide +kernel) rfl, zq_mem 81 (by decide +kernel) rfl⟩
theorem zd_X11_layComings : zq_cd YX11_layComings 0 ∧ Cond.instanceMethod yX11_layComings ∈ zq_T ∧ Cond.selects yX11_layComings.cls yX11_layComings yX11_layComings ∈ zq_T := ⟨⟨zq_mem 1600 (by decide +kernel) rfl, zq_mem 135 (by decide +kernel) rfl, ⟨by decide +kernel, by decide +kernel, by decide +kernel⟩, by decide +kernel, Nat.le_of_ble_eq_true rfl⟩, zq_mem 1599 (by decide +kernel) rfl, zq_mem 85 (by decide +kernel) rfl⟩
theorem zd_X11_comingOf : zq_cd YX11_comingOf 3 ∧ Cond.instanceMethod yX11_comingOf ∈ zq_T ∧ Cond.selects yX11_comingOf.cls yX11_comingOf yX11_comingOf ∈ zq_T := ⟨⟨zq_mem 1628 (by decide +kernel) rfl, zq_mem 135 (by decide +kernel) rfl, ⟨by decide +kernel, by decide +kernel, by decide +kernel⟩, by decide +kernel, Nat.le_of_ble_eq_true rfl⟩, zq_mem 1627 (by decide +kernel) rfl, zq_mem 92 (by decide +kernel) rfl⟩
theorem zd_X11_mayCome : zq_cd YX11_mayCome 3 ∧ Cond.instanceMethod yX11_mayCome ∈ zq_T ∧ Cond.selects yX11_mayCome.cls yX11_mayCome yX11_mayCome ∈ zq_T := ⟨⟨zq_mem 1624 (by decide +kernel) rfl, zq_mem 135 (by decide +kernel) rfl, ⟨by decide +kernel, by decide +kernel, by decide +kernel⟩, by decide +kernel, Nat.le_of_ble_eq_true rfl⟩, zq_mem 1623 (by decide +kernel) rfl, zq_mem 91 (by decide +kernel) rfl⟩
theorem zd_X11_coming : zq_cd YX11_coming 3 ∧ Cond.instanceMethod yX11_coming ∈ zq_T ∧ Cond.selects yX11_coming.cls yX11_coming yX11_coming ∈ zq_T := ⟨⟨zq_mem 1556 (by decide +kernel) rfl, zq_mem 135 (by decide +kernel) rfl, ⟨by decide +kernel, by decide +kernel, by decide +kernel⟩, by decide +kernel, Nat.le_of_ble_eq_true rfl⟩, zq_mem 1554 (by decide +kernel) rfl, zq_mem 1555 (by decide +kernel) rfl⟩
theorem zd_X11_come : zq_cd YX11_come 2 ∧ Cond.instanceMethod yX11_come ∈ zq_T ∧ Cond.selects yX11_come.cls yX11_come yX11_come ∈ zq_T := ⟨⟨zq_mem 1576 (by decide +kernel) rfl, zq_mem 135 (by decide +kernel) rfl, ⟨by decide +kernel, by decide +kernel, by decide +kernel⟩, by decide +kernel, Nat.le_of_ble_eq_true rfl⟩, zq_mem 1574 (by decide +kernel) rfl, zq_mem 1575 (by decide +kernel) rfl⟩
theorem zd_X11_said : zq_cd YX11_said 2 ∧ Cond.instanceMethod yX11_said ∈ zq_T ∧ Cond.selects yX11_said.cls yX11_said yX11_said ∈ zq_T := ⟨⟨zq_mem 1592 (by decide +kernel) rfl, zq_mem 135 (by decide +kernel) rfl, ⟨by decide +kernel, by decide +kernel, by decide +kernel⟩, by decide +kernel, Nat.le_of_ble_eq_true rfl⟩, zq_mem 1591 (by decide +kernel) rfl, zq_mem 84 (by decide +kernel) rfl⟩
theorem zd_X11_say : zq_cd YX11_say 2 ∧ Cond.instanceMethod yX11_say ∈ zq_T ∧ Cond.selects yX11_say.cls yX11_say yX11_say ∈ zq_T := ⟨⟨zq_mem 1580 (by decide +kernel) rfl, zq_mem 135 (by decide +kernel) rfl, ⟨by decide +kernel, by decide +kernel, by decide +kernel⟩, by decide +kernel, Nat.le_of_ble_eq_true rfl⟩, zq_mem 1578 (by decide +kernel) rfl, zq_mem 1579 (by decide +kernel) rfl⟩
theorem zd_X11_places : zq_cd YX11_places 0 ∧ Cond.instanceMethod yX11_places ∈ zq_T ∧ Cond.selects yX11_places.cls yX11_places yX11_places ∈ zq_T := ⟨⟨zq_mem 1612 (by decide +kernel) rfl, zq_mem 135 (by decide +kernel) rfl, ⟨by decide +kernel, by decide +kernel, by decide +kernel⟩, by decide +kernel, Nat.le_of_ble_eq_true rfl⟩, zq_mem 1611 (by decide +kernel) rfl, zq_mem 88 (by decide +kernel) rfl⟩
theorem zd_X11_beginAt : zq_cd YX11_beginAt 1 ∧ Cond.instanceMethod yX11_beginAt ∈ zq_T ∧ Cond.selects yX11_beginAt.cls yX11_beginAt yX11_beginAt ∈ zq_T := ⟨⟨zq_mem 1608 (by decide +kernel) rfl, zq_mem 135 (by decide +kernel) rfl, ⟨by decide +kernel, by decide +kernel, by decide +kernel⟩, by decide +kernel, Nat.le_of_ble_eq_true rfl⟩, zq_mem 1607 (by decide +kernel) rfl, zq_mem 87 (by decide +kernel) rfl⟩
theorem zd_X11_goOn : zq_cd YX11_goOn 0 ∧ Cond.instanceMethod yX11_goOn ∈ zq_T ∧ Cond.selects yX11_goOn.cls yX11_goOn yX11_goOn ∈ zq_T := ⟨⟨zq_mem 1620 (by decide +kernel) rfl, zq_mem 135 (by decide +kernel) rfl, ⟨by decide +kernel, by decide +kernel, by decide +kernel⟩, by decide +kernel, Nat.le_of_ble_eq_true rfl⟩, zq_mem 1619 (by decide +kernel) rfl, zq_mem 90 (by decide +kernel) rfl⟩
theorem zd_X11_canSpeak : zq_cd YX11_canSpeak 3 ∧ Cond.instanceMethod yX11_canSpeak ∈ zq_T ∧ Cond.selects yX11_canSpeak.cls yX11_canSpeak yX11_canSpeak ∈ zq_T := ⟨⟨zq_mem 1616 (by decide +kernel) rfl, zq_mem 135 (by decide +kernel) rfl, ⟨by decide +kernel, by decide +kernel, by decide +kernel⟩, by decide +kernel, Nat.le_of_ble_eq_true rfl⟩, zq_mem 1615 (by decide +kernel) rfl, zq_mem 89 (by decide +kernel) rfl⟩
theorem zd_X11_soonestOf : zq_cd YX11_soonestOf 2 ∧ Cond.instanceMethod yX11_soonestOf ∈ zq_T ∧ Cond.selects yX11_soonestOf.cls yX11_soonestOf yX11_soonestOf ∈ zq_T := ⟨⟨zq_mem 1604 (by decide +kernel) rfl, zq_mem 135 (by decide +kernel) rfl, ⟨by decide +kernel, by decide +kernel, by decide +kernel⟩, by decide +kernel, Nat.le_of_ble_eq_true rfl⟩, zq_mem 1603 (by decide +kernel) rfl, zq_mem 86 (by decide +kernel) rfl⟩
theorem zd_X11_leadsBy : zq_cd YX11_leadsBy 4 ∧ Cond.instanceMethod yX11_leadsBy ∈ zq_T ∧ Cond.selects yX11_leadsBy.cls yX11_leadsBy yX11_leadsBy ∈ zq_T := ⟨⟨zq_mem 1632 (by decide +kernel) rfl, zq_mem 135 (by decide +kernel) rfl, ⟨by decide +kernel, by decide +kernel, by decide +kernel⟩, by decide +kernel, Nat.le_of_ble_eq_true rfl⟩, zq_mem 1631 (by decide +kernel) rfl, zq_mem 93 (by decide +kernel) rfl⟩
theorem zd_X11_soonest : zq_cd YX11_soonest 3 ∧ Cond.instanceMethod yX11_soonest ∈ zq_T ∧ Cond.selects yX11_soonest.cls yX11_soonest yX11_soonest ∈ zq_T := ⟨⟨zq_mem 1596 (by decide +kernel) rfl, zq_mem 135 (by decide +kernel) rfl, ⟨by decide +kernel, by decide +kernel, by decide +kernel⟩, by decide +kernel, Nat.le_of_ble_eq_true rfl⟩, zq_mem 1594 (by decide +kernel) rfl, zq_mem 1595 (by decide +kernel) rfl⟩
theorem zd_X11_goOnCheap : zq_cd YX11_goOnCheap 0 ∧ Cond.instanceMethod yX11_goOnCheap ∈ zq_T ∧ Cond.selects yX11_goOnCheap.cls yX11_goOnCheap yX11_goOnCheap ∈ zq_T := ⟨⟨zq_mem 1640 (by decide +kernel) rfl, zq_mem 135 (by decide +kernel) rfl, ⟨by decide +kernel, by decide +kernel, by decide +kernel⟩, by decide +kernel, Nat.le_of_ble_eq_true rfl⟩, zq_mem 1639 (by decide +kernel) rfl, zq_mem 94 (by decide +kernel) rfl⟩
theorem zd_X11_cheapest : zq_cd YX11_cheapest 3 ∧ Cond.instanceMethod yX11_cheapest ∈ zq_T ∧ Cond.selects yX11_cheapest.cls yX11_cheapest yX11_cheapest ∈ zq_T := ⟨⟨zq_mem 1636 (by decide +kernel) rfl, zq_mem 135 (by decide +kernel) rfl, ⟨by decide +kernel, by decide +kernel, by decide +kernel⟩, by decide +kernel, Nat.le_of_ble_eq_true rfl⟩, zq_mem 1634 (by decide +kernel) rfl, zq_mem 1635 (by decide +kernel) rfl⟩
theorem zd_X11_never : zq_cd YX11_never 1 ∧ Cond.instanceMethod yX11_never ∈ zq_T ∧ Cond.selects yX11_never.cls yX11_never yX11_never ∈ zq_T := ⟨⟨zq_mem 1644 (by decide +kernel) rfl, zq_mem 135 (by decide +kernel) rfl, ⟨by decide +kernel, by decide +kernel, by decide +kernel⟩, by decide +kernel, Nat.le_of_ble_eq_true rfl⟩, zq_mem 1642 (by decide +kernel) rfl, zq_mem 1643 (by decide +kernel) rfl⟩
theorem zd_X11_spread : zq_cd YX11_spread 3 ∧ Cond.instanceMethod yX11_spread ∈ zq_T ∧ Cond.selects yX11_spread.cls yX11_spread yX11_spread ∈ zq_T := ⟨⟨zq_mem 1656 (by decide +kernel) rfl, zq_mem 135 (by decide +kernel) rfl, ⟨by decide +kernel, by decide +kernel, by decide +kernel⟩, by decide +kernel, Nat.le_of_ble_eq_true rfl⟩, zq_mem 1655 (by decide +kernel) rfl, zq_mem 96 (by decide +kernel) rfl⟩
theorem zd_X11_goOnKnown : zq_cd YX11_goOnKnown 1 ∧ Cond.instanceMethod yX11_goOnKnown ∈ zq_T ∧ Cond.selects yX11_goOnKnown.cls yX11_goOnKnown yX11_goOnKnown ∈ zq_T := ⟨⟨zq_mem 1660 (by decide +kernel) rfl, zq_mem 135 (by decide +kernel) rfl, ⟨by decide +kernel, by decide +kernel, by decide +kernel⟩, by decide +kernel, Nat.le_of_ble_eq_true rfl⟩, zq_mem 1659 (by decide +kernel) rfl, zq_mem 97 (by decide +kernel) rfl⟩
theorem zd_X11_fewestBy : zq_cd YX11_fewestBy 3 ∧ Cond.instanceMethod yX11_fewestBy ∈ zq_T ∧ Cond.selects yX11_fewestBy.cls yX11_fewestBy yX11_fewestBy ∈ zq_T := ⟨⟨zq_mem 1652 (by decide +kernel) rfl, zq_mem 135 (by decide +kernel) rfl, ⟨by decide +kernel, by decide +kernel, by decide +kernel⟩, by decide +kernel, Nat.le_of_ble_eq_true rfl⟩, zq_mem 1651 (by decide +kernel) rfl, zq_mem 95 (by decide +kernel) rfl⟩
theorem zd_X11_heard : zq_cd YX11_heard 1 ∧ Cond.instanceMethod yX11_heard ∈ zq_T ∧ Cond.selects yX11_heard.cls yX11_heard yX11_heard ∈ zq_T := ⟨⟨zq_mem 1648 (by decide +kernel) rfl, zq_mem 135 (by decide +kernel) rfl, ⟨by decide +kernel, by decide +kernel, by decide +kernel⟩, by decide +kernel, Nat.le_of_ble_eq_true rfl⟩, zq_mem 1646 (by decide +kernel) rfl, zq_mem 1647 (by decide +kernel) rfl⟩
theorem zd_X11_secret : zq_cd YX11_secret 3 ∧ Cond.instanceMethod yX11_secret ∈ zq_T ∧ Cond.selects yX11_secret.cls yX11_secret yX11_secret ∈ zq_T := ⟨⟨zq_mem 1664 (by decide +kernel) rfl, zq_mem 135 (by decide +kernel) rfl, ⟨by decide +kernel, by decide +kernel, by decide +kernel⟩, by decide +kernel, Nat.le_of_ble_eq_true rfl⟩, zq_mem 1662 (by decide +kernel) rfl, zq_mem 1663 (by decide +kernel) rfl⟩
theorem zd_X11_isWon : zq_cd YX11_isWon 4 ∧ Cond.instanceMethod yX11_isWon ∈ zq_T ∧ Cond.selects yX11_isWon.cls yX11_isWon yX11_isWon ∈ zq_T := ⟨⟨zq_mem 1688 (by decide +kernel) rfl, zq_mem 135 (by decide +kernel) rfl, ⟨by decide +kernel, by decide +kernel, by decide +kernel⟩, by decide +kernel, Nat.le_of_ble_eq_true rfl⟩, zq_mem 1687 (by decide +kernel) rfl, zq_mem 102 (by decide +kernel) rfl⟩
theorem zd_X11_mayTurn : zq_cd YX11_mayTurn 2 ∧ Cond.instanceMethod yX11_mayTurn ∈ zq_T ∧ Cond.selects yX11_mayTurn.cls yX11_mayTurn yX11_mayTurn ∈ zq_T := ⟨⟨zq_mem 1676 (by decide +kernel) rfl, zq_mem 135 (by decide +kernel) rfl, ⟨by decide +kernel, by decide +kernel, by decide +kernel⟩, by decide +kernel, Nat.le_of_ble_eq_true rfl⟩, zq_mem 1675 (by decide +kernel) rfl, zq_mem 99 (by decide +kernel) rfl⟩
theorem zd_X11_behindTurn : zq_cd YX11_behindTurn 2 ∧ Cond.instanceMethod yX11_behindTurn ∈ zq_T ∧ Cond.selects yX11_behindTurn.cls yX11_behindTurn yX11_behindTurn ∈ zq_T := ⟨⟨zq_mem 1680 (by decide +kernel) rfl, zq_mem 135 (by decide +kernel) rfl, ⟨by decide +kernel, by decide +kernel, by decide +kernel⟩, by decide +kernel, Nat.le_of_ble_eq_true rfl⟩, zq_mem 1679 (by decide +kernel) rfl, zq_mem 100 (by decide +kernel) rfl⟩
theorem zd_X11_turns : zq_cd YX11_turns 0 ∧ Cond.instanceMethod yX11_turns ∈ zq_T ∧ Cond.selects yX11_turns.cls yX11_turns yX11_turns ∈ zq_T := ⟨⟨zq_mem 1672 (by decide +kernel) rfl, zq_mem 135 (by decide +kernel) rfl, ⟨by decide +kernel, by decide +kernel, by decide +kernel⟩, by decide +kernel, Nat.le_of_ble_eq_true rfl⟩, zq_mem 1671 (by decide +kernel) rfl, zq_mem 98 (by decide +kernel) rfl⟩
theorem zd_X11_winsThird : zq_cd YX11_winsThird 5 ∧ Cond.instanceMethod yX11_winsThird ∈ zq_T ∧ Cond.selects yX11_winsThird.cls yX11_winsThird yX11_winsThird ∈ zq_T := ⟨⟨zq_mem 1692 (by decide +kernel) rfl, zq_mem 135 (by decide +kernel) rfl, ⟨by decide +kernel, by decide +kernel, by decide +kernel⟩, by decide +kernel, Nat.le_of_ble_eq_true rfl⟩, zq_mem 1691 (by decide +kernel) rfl, zq_mem 103 (by decide +kernel) rfl⟩
theorem zd_X11_winsSecond : zq_cd YX11_winsSecond 5 ∧ Cond.instanceMethod yX11_winsSecond ∈ zq_T ∧ Cond.selects yX11_winsSecond.cls yX11_winsSecond yX11_winsSecond ∈ zq_T := ⟨⟨zq_mem 1684 (by decide +kernel) rfl, zq_mem 135 (by decide +kernel) rfl, ⟨by decide +kernel, by decide +kernel, by decide +kernel⟩, by decide +kernel, Nat.le_of_ble_eq_true rfl⟩, zq_mem 1683 (by decide +kernel) rfl, zq_mem 101 (by decide +kernel) rfl⟩
theorem zd_X11_game : zq_cd YX11_game 3 ∧ Cond.instanceMethod yX11_game ∈ zq_T ∧ Cond.selects yX11_game.cls yX11_game yX11_game ∈ zq_T := ⟨⟨zq_mem 1668 (by decide +kernel) rfl, zq_mem 135 (by decide +kernel) rfl, ⟨by decide +kernel, by decide +kernel, by decide +kernel⟩, by decide +kernel, Nat.le_of_ble_eq_true rfl⟩, zq_mem 1666 (by decide +kernel) rfl, zq_mem 1667 (by decide +kernel) rfl⟩
theorem zd_X11_votes : zq_cd YX11_votes 2 ∧ Cond.instanceMethod yX11_votes ∈ zq_T ∧ Cond.selects yX11_votes.cls yX11_votes yX11_votes ∈ zq_T := ⟨⟨zq_mem 1696 (by decide +kernel) rfl, zq_mem 135 (by decide +kernel) rfl, ⟨by decide +kernel, by decide +kernel, by decide +kernel⟩, by decide +kernel, Nat.le_of_ble_eq_true rfl⟩, zq_mem 1694 (by decide +kernel) rfl, zq_mem 1695 (by decide +kernel) rfl⟩
theorem zd_X11_spoken : zq_cd YX11_spoken 2 ∧ Cond.instanceMethod yX11_spoken ∈ zq_T ∧ Cond.selects yX11_spoken.cls yX11_spoken yX11_spoken ∈ zq_T := ⟨⟨zq_mem 1700 (by decide +kernel) rfl, zq_mem 135 (by decide +kernel) rfl, ⟨by decide +kernel, by decide +kernel, by decide +kernel⟩, by decide +kernel, Nat.le_of_ble_eq_true rfl⟩, zq_mem 1698 (by decide +kernel) rfl, zq_mem 1699 (by decide +kernel) rfl⟩
theorem zd_X11_layOrder : zq_cd YX11_layOrder 1 ∧ Cond.instanceMethod yX11_layOrder ∈ zq_T ∧ Cond.selects yX11_layOrder.cls yX11_layOrder yX11_layOrder ∈ zq_T := ⟨⟨zq_mem 1712 (by decide +kernel) rfl, zq_mem 135 (by decide +kernel) rfl, ⟨by decide +kernel, by decide +kernel, by decide +kernel⟩, by decide +kernel, Nat.le_of_ble_eq_true rfl⟩, zq_mem 1711 (by decide +kernel) rfl, zq_mem 105 (by decide +kernel) rfl⟩
theorem zd_X11_goesWithRows : zq_cd YX11_goesWithRows 0 ∧ Cond.instanceMethod yX11_goesWithRows ∈ zq_T ∧ Cond.selects yX11_goesWithRows.cls yX11_goesWithRows yX11_goesWithRows ∈ zq_T := ⟨⟨zq_mem 1716 (by decide +kernel) rfl, zq_mem 135 (by decide +kernel) rfl, ⟨by decide +kernel, by decide +kernel, by decide +kernel⟩, by decide +kernel, Nat.le_of_ble_eq_true rfl⟩, zq_mem 1715 (by decide +kernel) rfl, zq_mem 106 (by decide +kernel) rfl⟩
theorem zd_X11_fits : zq_cd YX11_fits 0 ∧ Cond.instanceMethod yX11_fits ∈ zq_T ∧ Cond.selects yX11_fits.cls yX11_fits yX11_fits ∈ zq_T := ⟨⟨zq_mem 1708 (by decide +kernel) rfl, zq_mem 135 (by decide +kernel) rfl, ⟨by decide +kernel, by decide +kernel, by decide +kernel⟩, by decide +kernel, Nat.le_of_ble_eq_true rfl⟩, zq_mem 1706 (by decide +kernel) rfl, zq_mem 1707 (by decide +kernel) rfl⟩
theorem zd_X11_divisor : zq_cd YX11_divisor 2 ∧ Cond.instanceMethod yX11_divisor ∈ zq_T ∧ Cond.selects yX11_divisor.cls yX11_divisor yX11_divisor ∈ zq_T := ⟨⟨zq_mem 1737 (by decide +kernel) rfl, zq_mem 135 (by decide +kernel) rfl, ⟨by decide +kernel, by decide +kernel, by decide +kernel⟩, by decide +kernel, Nat.le_of_ble_eq_true rfl⟩, zq_mem 1736 (by decide +kernel) rfl, zq_mem 110 (by decide +kernel) rfl⟩
theorem zd_X11_waysFrom : zq_cd YX11_waysFrom 1 ∧ Cond.instanceMethod yX11_waysFrom ∈ zq_T ∧ Cond.selects yX11_waysFrom.cls yX11_waysFrom yX11_waysFrom ∈ zq_T := ⟨⟨zq_mem 1729 (by decide +kernel) rfl, zq_mem 135 (by decide +kernel) rfl, ⟨by decide +kernel, by decide +kernel, by decide +kernel⟩, by decide +kernel, Nat.le_of_ble_eq_true rfl⟩, zq_mem 1728 (by decide +kernel) rfl, zq_mem 108 (by decide +kernel) rfl⟩
theorem zd_X11_speaksBehind : zq_cd YX11_speaksBehind 3 ∧ Cond.instanceMethod yX11_speaksBehind ∈ zq_T ∧ Cond.selects yX11_speaksBehind.cls yX11_speaksBehind yX11_speaksBehind ∈ zq_T := ⟨⟨zq_mem 1745 (by decide +kernel) rfl, zq_mem 135 (by decide +kernel) rfl, ⟨by decide +kernel, by decide +kernel, by decide +kernel⟩, by decide +kernel, Nat.le_of_ble_eq_true rfl⟩, zq_mem 1744 (by decide +kernel) rfl, zq_mem 112 (by decide +kernel) rfl⟩
theorem zd_X11_addLot : zq_cd YX11_addLot 2 ∧ Cond.instanceMethod yX11_addLot ∈ zq_T ∧ Cond.selects yX11_addLot.cls yX11_addLot yX11_addLot ∈ zq_T := ⟨⟨zq_mem 1733 (by decide +kernel) rfl, zq_mem 135 (by decide +kernel) rfl, ⟨by decide +kernel, by decide +kernel, by decide +kernel⟩, by decide +kernel, Nat.le_of_ble_eq_true rfl⟩, zq_mem 1732 (by decide +kernel) rfl, zq_mem 109 (by decide +kernel) rfl⟩
theorem zd_X11_addFrom : zq_cd YX11_addFrom 4 ∧ Cond.instanceMethod yX11_addFrom ∈ zq_T ∧ Cond.selects yX11_addFrom.cls yX11_addFrom yX11_addFrom ∈ zq_T := ⟨⟨zq_mem 1741 (by decide +kernel) rfl, zq_mem 135 (by decide +kernel) rfl, ⟨by decide +kernel, by decide +kernel, by decide +kernel⟩, by decide +kernel, Nat.le_of_ble_eq_true rfl⟩, zq_mem 1740 (by decide +kernel) rfl, zq_mem 111 (by decide +kernel) rfl⟩
theorem zd_X11_layLot : zq_cd YX11_layLot 2 ∧ Cond.instanceMethod yX11_layLot ∈ zq_T ∧ Cond.selects yX11_layLot.cls yX11_layLot yX11_layLot ∈ zq_T := ⟨⟨zq_mem 1725 (by decide +kernel) rfl, zq_mem 135 (by decide +kernel) rfl, ⟨by decide +kernel, by decide +kernel, by decide +kernel⟩, by decide +kernel, Nat.le_of_ble_eq_true rfl⟩, zq_mem 1724 (by decide +kernel) rfl, zq_mem 107 (by decide +kernel) rfl⟩
theorem zd_X11_lot : zq_cd YX11_lot 3 ∧ Cond.instanceMethod yX11_lot ∈ zq_T ∧ Cond.selects yX11_lot.cls yX11_lot yX11_lot ∈ zq_T := ⟨⟨zq_mem 1720 (by decide +kernel) rfl, zq_mem 135 (by decide +kernel) rfl, ⟨by decide +kernel, by decide +kernel, by decide +kernel⟩, by decide +kernel, Nat.le_of_ble_eq_true rfl⟩, zq_mem 1718 (by decide +kernel) rfl, zq_mem 1719 (by decide +kernel) rfl⟩
theorem zd_X11_book : zq_cd YX11_book 1 ∧ Cond.instanceMethod yX11_book ∈ zq_T ∧ Cond.selects yX11_book.cls yX11_book yX11_book ∈ zq_T := ⟨⟨zq_mem 1749 (by decide +kernel) rfl, zq_mem 135 (by decide +kernel) rfl, ⟨by decide +kernel, by decide +kernel, by decide +kernel⟩, by decide +kernel, Nat.le_of_ble_eq_true rfl⟩, zq_mem 1747 (by decide +kernel) rfl, zq_mem 1748 (by decide +kernel) rfl⟩
theorem zd_X11_readBook : zq_cd YX11_readBook 0 ∧ Cond.instanceMethod yX11_readBook ∈ zq_T ∧ Cond.selects yX11_readBook.cls yX11_readBook yX11_readBook ∈ zq_T := ⟨⟨zq_mem 1753 (by decide +kernel) rfl, zq_mem 135 (by decide +kernel) rfl, ⟨by decide +kernel, by decide +kernel, by decide +kernel⟩, by decide +kernel, Nat.le_of_ble_eq_true rfl⟩, zq_mem 1751 (by decide +kernel) rfl, zq_mem 1752 (by decide +kernel) rfl⟩
theorem zd_X11_judge : zq_cd YX11_judge 2 ∧ Cond.instanceMethod yX11_judge ∈ zq_T ∧ Cond.selects yX11_judge.cls yX11_judge yX11_judge ∈ zq_T := ⟨⟨zq_mem 1757 (by decide +kernel) rfl, zq_mem 135 (by decide +kernel) rfl, ⟨by decide +kernel, by decide +kernel, by decide +kernel⟩, by decide +kernel, Nat.le_of_ble_eq_true rfl⟩, zq_mem 1755 (by decide +kernel) rfl, zq_mem 1756 (by decide +kernel) rfl⟩
theorem zd_X11_image : zq_cd YX11_image 0 ∧ Cond.instanceMethod yX11_image ∈ zq_T ∧ Cond.selects yX11_image.cls yX11_image yX11_image ∈ zq_T := ⟨⟨zq_mem 1765 (by decide +kernel) rfl, zq_mem 135 (by decide +kernel) rfl, ⟨by decide +kernel, by decide +kernel, by decide +kernel⟩, by decide +kernel, Nat.le_of_ble_eq_true rfl⟩, zq_mem 1763 (by decide +kernel) rfl, zq_mem 1764 (by decide +kernel) rfl⟩
theorem zd_X11_undo : zq_cd YX11_undo 0 ∧ Cond.instanceMethod yX11_undo ∈ zq_T ∧ Cond.selects yX11_undo.cls yX11_undo yX11_undo ∈ zq_T := ⟨⟨zq_mem 1769 (by decide +kernel) rfl, zq_mem 135 (by decide +kernel) rfl, ⟨by decide +kernel, by decide +kernel, by decide +kernel⟩, by decide +kernel, Nat.le_of_ble_eq_true rfl⟩, zq_mem 1767 (by decide +kernel) rfl, zq_mem 1768 (by decide +kernel) rfl⟩
theorem zd_X11_body : zq_cd YX11_body 1 ∧ Cond.instanceMethod yX11_body ∈ zq_T ∧ Cond.selects yX11_body.cls yX11_body yX11_body ∈ zq_T := ⟨⟨zq_mem 1781 (by decide +kernel) rfl, zq_mem 135 (by decide +kernel) rfl, ⟨by decide +kernel, by decide +kernel, by decide +kernel⟩, by decide +kernel, Nat.le_of_ble_eq_true rfl⟩, zq_mem 1780 (by decide +kernel) rfl, zq_mem 115 (by decide +kernel) rfl⟩
theorem zd_X11_roomHears : zq_cd YX11_roomHears 2 ∧ Cond.instanceMethod yX11_roomHears ∈ zq_T ∧ Cond.selects yX11_roomHears.cls yX11_roomHears yX11_roomHears ∈ zq_T := ⟨⟨zq_mem 1785 (by decide +kernel) rfl, zq_mem 135 (by decide +kernel) rfl, ⟨by decide +kernel, by decide +kernel, by decide +kernel⟩, by decide +kernel, Nat.le_of_ble_eq_true rfl⟩, zq_mem 1784 (by decide +kernel) rfl, zq_mem 116 (by decide +kernel) rfl⟩
theorem zd_X11_hearsAct : zq_cd YX11_hearsAct 2 ∧ Cond.instanceMethod yX11_hearsAct ∈ zq_T ∧ Cond.selects yX11_hearsAct.cls yX11_hearsAct yX11_hearsAct ∈ zq_T := ⟨⟨zq_mem 1777 (by decide +kernel) rfl, zq_mem 135 (by decide +kernel) rfl, ⟨by decide +kernel, by decide +kernel, by decide +kernel⟩, by decide +kernel, Nat.le_of_ble_eq_true rfl⟩, zq_mem 1776 (by decide +kernel) rfl, zq_mem 114 (by decide +kernel) rfl⟩
theorem zd_X11_roomSpeaks : zq_cd YX11_roomSpeaks 2 ∧ Cond.instanceMethod yX11_roomSpeaks ∈ zq_T ∧ Cond.selects yX11_roomSpeaks.cls yX11_roomSpeaks yX11_roomSpeaks ∈ zq_T := ⟨⟨zq_mem 1797 (by decide +kernel) rfl, zq_mem 135 (by decide +kernel) rfl, ⟨by decide +kernel, by decide +kernel, by decide +kernel⟩, by decide +kernel, Nat.le_of_ble_eq_true rfl⟩, zq_mem 1796 (by decide +kernel) rfl, zq_mem 119 (by decide +kernel) rfl⟩
theorem zd_X11_lowerSpeaks : zq_cd YX11_lowerSpeaks 2 ∧ Cond.instanceMethod yX11_lowerSpeaks ∈ zq_T ∧ Cond.selects yX11_lowerSpeaks.cls yX11_lowerSpeaks yX11_lowerSpeaks ∈ zq_T := ⟨⟨zq_mem 1793 (by decide +kernel) rfl, zq_mem 135 (by decide +kernel) rfl, ⟨by decide +kernel, by decide +kernel, by decide +kernel⟩, by decide +kernel, Nat.le_of_ble_eq_true rfl⟩, zq_mem 1792 (by decide +kernel) rfl, zq_mem 118 (by decide +kernel) rfl⟩
theorem zd_X11_speaksAct : zq_cd YX11_speaksAct 2 ∧ Cond.instanceMethod yX11_speaksAct ∈ zq_T ∧ Cond.selects yX11_speaksAct.cls yX11_speaksAct yX11_speaksAct ∈ zq_T := ⟨⟨zq_mem 1789 (by decide +kernel) rfl, zq_mem 135 (by decide +kernel) rfl, ⟨by decide +kernel, by decide +kernel, by decide +kernel⟩, by decide +kernel, Nat.le_of_ble_eq_true rfl⟩, zq_mem 1788 (by decide +kernel) rfl, zq_mem 117 (by decide +kernel) rfl⟩
theorem zd_X11_roomTells : zq_cd YX11_roomTells 2 ∧ Cond.instanceMethod yX11_roomTells ∈ zq_T ∧ Cond.selects yX11_roomTells.cls yX11_roomTells yX11_roomTells ∈ zq_T := ⟨⟨zq_mem 1805 (by decide +kernel) rfl, zq_mem 135 (by decide +kernel) rfl, ⟨by decide +kernel, by decide +kernel, by decide +kernel⟩, by decide +kernel, Nat.le_of_ble_eq_true rfl⟩, zq_mem 1804 (by decide +kernel) rfl, zq_mem 121 (by decide +kernel) rfl⟩
theorem zd_X11_tellsAct : zq_cd YX11_tellsAct 2 ∧ Cond.instanceMethod yX11_tellsAct ∈ zq_T ∧ Cond.selects yX11_tellsAct.cls yX11_tellsAct yX11_tellsAct ∈ zq_T := ⟨⟨zq_mem 1801 (by decide +kernel) rfl, zq_mem 135 (by decide +kernel) rfl, ⟨by decide +kernel, by decide +kernel, by decide +kernel⟩, by decide +kernel, Nat.le_of_ble_eq_true rfl⟩, zq_mem 1800 (by decide +kernel) rfl, zq_mem 120 (by decide +kernel) rfl⟩
theorem zd_X11_act : zq_cd YX11_act 3 ∧ Cond.instanceMethod yX11_act ∈ zq_T ∧ Cond.selects yX11_act.cls yX11_act yX11_act ∈ zq_T := ⟨⟨zq_mem 1773 (by decide +kernel) rfl, zq_mem 135 (by decide +kernel) rfl, ⟨by decide +kernel, by decide +kernel, by decide +kernel⟩, by decide +kernel, Nat.le_of_ble_eq_true rfl⟩, zq_mem 1771 (by decide +kernel) rfl, zq_mem 1772 (by decide +kernel) rfl⟩
theorem zd_X11_trace : zq_cd YX11_trace 1 ∧ Cond.instanceMethod yX11_trace ∈ zq_T ∧ Cond.selects yX11_trace.cls yX11_trace yX11_trace ∈ zq_T := ⟨⟨zq_mem 1809 (by decide +kernel) rfl, zq_mem 135 (by decide +kernel) rfl, ⟨by decide +kernel, by decide +kernel, by decide +kernel⟩, by decide +kernel, Nat.le_of_ble_eq_true rfl⟩, zq_mem 1807 (by decide +kernel) rfl, zq_mem 1808 (by decide +kernel) rfl⟩
theorem zd_X11_taken : zq_cd YX11_taken 2 ∧ Cond.instanceMethod yX11_taken ∈ zq_T ∧ Cond.selects yX11_taken.cls yX11_taken yX11_taken ∈ zq_T := ⟨⟨zq_mem 1813 (by decide +kernel) rfl, zq_mem 135 (by decide +kernel) rfl, ⟨by decide +kernel, by decide +kernel, by decide +kernel⟩, by decide +kernel, Nat.le_of_ble_eq_true rfl⟩, zq_mem 1811 (by decide +kernel) rfl, zq_mem 1812 (by decide +kernel) rfl⟩
theorem zd_X11_count : zq_cd YX11_count 1 ∧ Cond.instanceMethod yX11_count ∈ zq_T ∧ Cond.selects yX11_count.cls yX11_count yX11_count ∈ zq_T := ⟨⟨zq_mem 1817 (by decide +kernel) rfl, zq_mem 135 (by decide +kernel) rfl, ⟨by decide +kernel, by decide +kernel, by decide +kernel⟩, by decide +kernel, Nat.le_of_ble_eq_true rfl⟩, zq_mem 1815 (by decide +kernel) rfl, zq_mem 1816 (by decide +kernel) rfl⟩
theorem zd_X11_isTape : zq_cd YX11_isTape 1 ∧ Cond.instanceMethod yX11_isTape ∈ zq_T ∧ Cond.selects yX11_isTape.cls yX11_isTape yX11_isTape ∈ zq_T := ⟨⟨zq_mem 1761 (by decide +kernel) rfl, zq_mem 135 (by decide +kernel) rfl, ⟨by decide +kernel, by decide +kernel, by decide +kernel⟩, by decide +kernel, Nat.le_of_ble_eq_true rfl⟩, zq_mem 1760 (by decide +kernel) rfl, zq_mem 113 (by decide +kernel) rfl⟩
theorem zd_X11_tape : zq_cd YX11_tape 3 ∧ Cond.instanceMethod yX11_tape ∈ zq_T ∧ Cond.selects yX11_tape.cls yX11_tape yX11_tape ∈ zq_T := ⟨⟨zq_mem 1821 (by decide +kernel) rfl, zq_mem 135 (by decide +kernel) rfl, ⟨by decide +kernel, by decide +kernel, by decide +kernel⟩, by decide +kernel, Nat.le_of_ble_eq_true rfl⟩, zq_mem 1819 (by decide +kernel) rfl, zq_mem 1820 (by decide +kernel) rfl⟩
theorem zd_X11_narrow : zq_cd YX11_narrow 2 ∧ Cond.instanceMethod yX11_narrow ∈ zq_T ∧ Cond.selects yX11_narrow.cls yX11_narrow yX11_narrow ∈ zq_T := ⟨⟨zq_mem 1829 (by decide +kernel) rfl, zq_mem 135 (by decide +kernel) rfl, ⟨by decide +kernel, by decide +kernel, by decide +kernel⟩, by decide +kernel, Nat.le_of_ble_eq_true rfl⟩, zq_mem 1828 (by decide +kernel) rfl, zq_mem 122 (by decide +kernel) rfl⟩
theorem zd_X11_item : zq_cd YX11_item 3 ∧ Cond.instanceMethod yX11_item ∈ zq_T ∧ Cond.selects yX11_item.cls yX11_item yX11_item ∈ zq_T := ⟨⟨zq_mem 1825 (by decide +kernel) rfl, zq_mem 135 (by decide +kernel) rfl, ⟨by decide +kernel, by decide +kernel, by decide +kernel⟩, by decide +kernel, Nat.le_of_ble_eq_true rfl⟩, zq_mem 1823 (by decide +kernel) rfl, zq_mem 1824 (by decide +kernel) rfl⟩
theorem zd_X11_read : zq_cd YX11_read 2 ∧ Cond.instanceMethod yX11_read ∈ zq_T ∧ Cond.selects yX11_read.cls yX11_read yX11_read ∈ zq_T := ⟨⟨zq_mem 1833 (by decide +kernel) rfl, zq_mem 135 (by decide +kernel) rfl, ⟨by decide +kernel, by decide +kernel, by decide +kernel⟩, by decide +kernel, Nat.le_of_ble_eq_true rfl⟩, zq_mem 1831 (by decide +kernel) rfl, zq_mem 1832 (by decide +kernel) rfl⟩
theorem zd_X11_shift : zq_cd YX11_shift 5 ∧ Cond.instanceMethod yX11_shift ∈ zq_T ∧ Cond.selects yX11_shift.cls yX11_shift yX11_shift ∈ zq_T := ⟨⟨zq_mem 1837 (by decide +kernel) rfl, zq_mem 135 (by decide +kernel) rfl, ⟨by decide +kernel, by decide +kernel, by decide +kernel⟩, by decide +kernel, Nat.le_of_ble_eq_true rfl⟩, zq_mem 1835 (by decide +kernel) rfl, zq_mem 1836 (by decide +kernel) rfl⟩
theorem zd_J6_bitCount_0f7a4 : zq_cd YJ6_bitCount_0f7a4 1 ∧ Cond.static yJ6_bitCount_0f7a4 ∈ zq_T := ⟨⟨zq_mem 775 (by decide +kernel) rfl, zq_mem 142 (by decide +kernel) rfl, ⟨by decide +kernel, by decide +kernel, by decide +kernel⟩, by decide +kernel, Nat.le_of_ble_eq_true rfl⟩, zq_mem 774 (by decide +kernel) rfl⟩
theorem zd_J0_length_8abf5 : zq_cd YJ0_length_8abf5 0 ∧ Cond.instanceMethod yJ0_length_8abf5 ∈ zq_T ∧ Cond.selects yJ0_length_8abf5.cls yJ0_length_8abf5 yJ0_length_8abf5 ∈ zq_T := ⟨⟨zq_mem 607 (by decide +kernel) rfl, zq_mem 137 (by decide +kernel) rfl, ⟨by decide +kernel, by decide +kernel, by decide +kernel⟩, by decide +kernel, Nat.le_of_ble_eq_true rfl⟩, zq_mem 605 (by decide +kernel) rfl, zq_mem 606 (by decide +kernel) rfl⟩
theorem zd_J0_charAt_5068e : zq_cd YJ0_charAt_5068e 1 ∧ Cond.instanceMethod yJ0_charAt_5068e ∈ zq_T ∧ Cond.selects yJ0_charAt_5068e.cls yJ0_charAt_5068e yJ0_charAt_5068e ∈ zq_T := ⟨⟨zq_mem 617 (by decide +kernel) rfl, zq_mem 137 (by decide +kernel) rfl, ⟨by decide +kernel, by decide +kernel, by decide +kernel⟩, by decide +kernel, Nat.le_of_ble_eq_true rfl⟩, zq_mem 615 (by decide +kernel) rfl, zq_mem 616 (by decide +kernel) rfl⟩
theorem zd_J0_indexOf_0f7a4 : zq_cd YJ0_indexOf_0f7a4 1 ∧ Cond.instanceMethod yJ0_indexOf_0f7a4 ∈ zq_T ∧ Cond.selects yJ0_indexOf_0f7a4.cls yJ0_indexOf_0f7a4 yJ0_indexOf_0f7a4 ∈ zq_T := ⟨⟨zq_mem 671 (by decide +kernel) rfl, zq_mem 137 (by decide +kernel) rfl, ⟨by decide +kernel, by decide +kernel, by decide +kernel⟩, by decide +kernel, Nat.le_of_ble_eq_true rfl⟩, zq_mem 669 (by decide +kernel) rfl, zq_mem 670 (by decide +kernel) rfl⟩
theorem zd_J0_indexOf_7cf53 : zq_cd YJ0_indexOf_7cf53 2 ∧ Cond.instanceMethod yJ0_indexOf_7cf53 ∈ zq_T ∧ Cond.selects yJ0_indexOf_7cf53.cls yJ0_indexOf_7cf53 yJ0_indexOf_7cf53 ∈ zq_T := ⟨⟨zq_mem 675 (by decide +kernel) rfl, zq_mem 137 (by decide +kernel) rfl, ⟨by decide +kernel, by decide +kernel, by decide +kernel⟩, by decide +kernel, Nat.le_of_ble_eq_true rfl⟩, zq_mem 673 (by decide +kernel) rfl, zq_mem 674 (by decide +kernel) rfl⟩
theorem zd_J0_coder_7d493 : zq_cd YJ0_coder_7d493 0 ∧ Cond.instanceMethod yJ0_coder_7d493 ∈ zq_T ∧ Cond.selects yJ0_coder_7d493.cls yJ0_coder_7d493 yJ0_coder_7d493 ∈ zq_T := ⟨⟨zq_mem 611 (by decide +kernel) rfl, zq_mem 137 (by decide +kernel) rfl, ⟨by decide +kernel, by decide +kernel, by decide +kernel⟩, by decide +kernel, Nat.le_of_ble_eq_true rfl⟩, zq_mem 609 (by decide +kernel) rfl, zq_mem 610 (by decide +kernel) rfl⟩
theorem zd_J0_isLatin1_aae02 : zq_cd YJ0_isLatin1_aae02 0 ∧ Cond.instanceMethod yJ0_isLatin1_aae02 ∈ zq_T ∧ Cond.selects yJ0_isLatin1_aae02.cls yJ0_isLatin1_aae02 yJ0_isLatin1_aae02 ∈ zq_T := ⟨⟨zq_mem 621 (by decide +kernel) rfl, zq_mem 137 (by decide +kernel) rfl, ⟨by decide +kernel, by decide +kernel, by decide +kernel⟩, by decide +kernel, Nat.le_of_ble_eq_true rfl⟩, zq_mem 619 (by decide +kernel) rfl, zq_mem 620 (by decide +kernel) rfl⟩
theorem zd_J0_checkIndex_df160 : zq_cd YJ0_checkIndex_df160 2 ∧ Cond.static yJ0_checkIndex_df160 ∈ zq_T := ⟨⟨zq_mem 627 (by decide +kernel) rfl, zq_mem 137 (by decide +kernel) rfl, ⟨by decide +kernel, by decide +kernel, by decide +kernel⟩, by decide +kernel, Nat.le_of_ble_eq_true rfl⟩, zq_mem 626 (by decide +kernel) rfl⟩
theorem zd_J1_charAt_3b067 : zq_cd YJ1_charAt_3b067 2 ∧ Cond.static yJ1_charAt_3b067 ∈ zq_T := ⟨⟨zq_mem 624 (by decide +kernel) rfl, zq_mem 138 (by decide +kernel) rfl, ⟨by decide +kernel, by decide +kernel, by decide +kernel⟩, by decide +kernel, Nat.le_of_ble_eq_true rfl⟩, zq_mem 623 (by decide +kernel) rfl⟩
theorem zd_J1_canEncode_9a6ad : zq_cd YJ1_canEncode_9a6ad 1 ∧ Cond.static yJ1_canEncode_9a6ad ∈ zq_T := ⟨⟨zq_mem 682 (by decide +kernel) rfl, zq_mem 138 (by decide +kernel) rfl, ⟨by decide +kernel, by decide +kernel, by decide +kernel⟩, by decide +kernel, Nat.le_of_ble_eq_true rfl⟩, zq_mem 681 (by decide +kernel) rfl⟩
theorem zd_J1_indexOf_4cfef : zq_cd YJ1_indexOf_4cfef 4 ∧ Cond.static yJ1_indexOf_4cfef ∈ zq_T := ⟨⟨zq_mem 679 (by decide +kernel) rfl, zq_mem 138 (by decide +kernel) rfl, ⟨by decide +kernel, by decide +kernel, by decide +kernel⟩, by decide +kernel, Nat.le_of_ble_eq_true rfl⟩, zq_mem 678 (by decide +kernel) rfl⟩
theorem zd_J1_indexOfChar_4cfef : zq_cd YJ1_indexOfChar_4cfef 4 ∧ Cond.static yJ1_indexOfChar_4cfef ∈ zq_T := ⟨⟨zq_mem 689 (by decide +kernel) rfl, zq_mem 138 (by decide +kernel) rfl, ⟨by decide +kernel, by decide +kernel, by decide +kernel⟩, by decide +kernel, Nat.le_of_ble_eq_true rfl⟩, zq_mem 688 (by decide +kernel) rfl⟩
theorem zd_J7_fill_d0a16 : zq_cd YJ7_fill_d0a16 2 ∧ Cond.static yJ7_fill_d0a16 ∈ zq_T := ⟨⟨zq_mem 1170 (by decide +kernel) rfl, zq_mem 143 (by decide +kernel) rfl, ⟨by decide +kernel, by decide +kernel, by decide +kernel⟩, by decide +kernel, Nat.le_of_ble_eq_true rfl⟩, zq_mem 1169 (by decide +kernel) rfl⟩
theorem zd_J7_fill_53178 : zq_cd YJ7_fill_53178 2 ∧ Cond.static yJ7_fill_53178 ∈ zq_T := ⟨⟨zq_mem 860 (by decide +kernel) rfl, zq_mem 143 (by decide +kernel) rfl, ⟨by decide +kernel, by decide +kernel, by decide +kernel⟩, by decide +kernel, Nat.le_of_ble_eq_true rfl⟩, zq_mem 859 (by decide +kernel) rfl⟩
theorem zd_J3_checkIndex_8e157 : zq_cd YJ3_checkIndex_8e157 3 ∧ Cond.static yJ3_checkIndex_8e157 ∈ zq_T := ⟨⟨zq_mem 632 (by decide +kernel) rfl, zq_mem 139 (by decide +kernel) rfl, ⟨by decide +kernel, by decide +kernel, by decide +kernel⟩, by decide +kernel, Nat.le_of_ble_eq_true rfl⟩, zq_mem 631 (by decide +kernel) rfl⟩
theorem zf_RX5_43 : zq_FL RX5 43 5 0 := ⟨_, rfl, by decide, zq_mem 159 (by decide +kernel) rfl⟩
theorem zf_RX10_106 : zq_FL RX10 106 5 0 := ⟨_, rfl, by decide, zq_mem 160 (by decide +kernel) rfl⟩
theorem zf_RX4_23 : zq_FL RX4 23 5 0 := ⟨_, rfl, by decide, zq_mem 161 (by decide +kernel) rfl⟩
theorem zf_RX1_37 : zq_FL RX1 37 5 0 := ⟨_, rfl, by decide, zq_mem 162 (by decide +kernel) rfl⟩
theorem zf_RX8_43 : zq_FL RX8 43 5 0 := ⟨_, rfl, by decide, zq_mem 163 (by decide +kernel) rfl⟩
theorem zf_RX9_62 : zq_FL RX9 62 5 0 := ⟨_, rfl, by decide, zq_mem 164 (by decide +kernel) rfl⟩
theorem zf_RX6_67 : zq_FL RX6 67 5 0 := ⟨_, rfl, by decide, zq_mem 165 (by decide +kernel) rfl⟩
theorem zf_RX5_9 : zq_FL RX5 9 5 1 := ⟨_, rfl, by decide, zq_mem 166 (by decide +kernel) rfl⟩
theorem zf_RX10_117 : zq_FL RX10 117 5 1 := ⟨_, rfl, by decide, zq_mem 167 (by decide +kernel) rfl⟩
theorem zf_RX6_61 : zq_FL RX6 61 5 1 := ⟨_, rfl, by decide, zq_mem 168 (by decide +kernel) rfl⟩
theorem zf_RX5_15 : zq_FL RX5 15 5 2 := ⟨_, rfl, by decide, zq_mem 169 (by decide +kernel) rfl⟩
theorem zf_RX10_120 : zq_FL RX10 120 5 2 := ⟨_, rfl, by decide, zq_mem 170 (by decide +kernel) rfl⟩
theorem zf_RX6_93 : zq_FL RX6 93 5 2 := ⟨_, rfl, by decide, zq_mem 171 (by decide +kernel) rfl⟩
theorem zf_RX5_18 : zq_FL RX5 18 5 3 := ⟨_, rfl, by decide, zq_mem 172 (by decide +kernel) rfl⟩
theorem zf_RX10_123 : zq_FL RX10 123 5 3 := ⟨_, rfl, by decide, zq_mem 173 (by decide +kernel) rfl⟩
theorem zf_RX6_82 : zq_FL RX6 82 5 3 := ⟨_, rfl, by decide, zq_mem 174 (by decide +kernel) rfl⟩
theorem zf_RX5_21 : zq_FL RX5 21 5 4 := ⟨_, rfl, by decide, zq_mem 175 (by decide +kernel) rfl⟩
theorem zf_RX10_126 : zq_FL RX10 126 5 4 := ⟨_, rfl, by decide, zq_mem 176 (by decide +kernel) rfl⟩
theorem zf_RX6_117 : zq_FL RX6 117 5 4 := ⟨_, rfl, by decide, zq_mem 177 (by decide +kernel) rfl⟩
theorem zf_RX5_24 : zq_FL RX5 24 5 5 := ⟨_, rfl, by decide, zq_mem 178 (by decide +kernel) rfl⟩
theorem zf_RX10_135 : zq_FL RX10 135 5 5 := ⟨_, rfl, by decide, zq_mem 179 (by decide +kernel) rfl⟩
theorem zf_RX6_64 : zq_FL RX6 64 5 5 := ⟨_, rfl, by decide, zq_mem 180 (by decide +kernel) rfl⟩
theorem zf_RX5_27 : zq_FL RX5 27 5 6 := ⟨_, rfl, by decide, zq_mem 181 (by decide +kernel) rfl⟩
theorem zf_RX10_138 : zq_FL RX10 138 5 6 := ⟨_, rfl, by decide, zq_mem 182 (by decide +kernel) rfl⟩
theorem zf_RX6_99 : zq_FL RX6 99 5 6 := ⟨_, rfl, by decide, zq_mem 183 (by decide +kernel) rfl⟩
theorem zf_RX8_25 : zq_FL RX8 25 5 7 := ⟨_, rfl, by decide, zq_mem 184 (by decide +kernel) rfl⟩
theorem zf_RX1_91 : zq_FL RX1 91 5 7 := ⟨_, rfl, by decide, zq_mem 185 (by decide +kernel) rfl⟩
theorem zf_RX5_56 : zq_FL RX5 56 5 7 := ⟨_, rfl, by decide, zq_mem 186 (by decide +kernel) rfl⟩
theorem zf_RX10_168 : zq_FL RX10 168 5 7 := ⟨_, rfl, by decide, zq_mem 187 (by decide +kernel) rfl⟩
theorem zf_RX9_106 : zq_FL RX9 106 5 7 := ⟨_, rfl, by decide, zq_mem 188 (by decide +kernel) rfl⟩
theorem zf_RX6_139 : zq_FL RX6 139 5 7 := ⟨_, rfl, by decide, zq_mem 189 (by decide +kernel) rfl⟩
theorem zf_RX5_59 : zq_FL RX5 59 5 8 := ⟨_, rfl, by decide, zq_mem 190 (by decide +kernel) rfl⟩
theorem zf_RX10_171 : zq_FL RX10 171 5 8 := ⟨_, rfl, by decide, zq_mem 191 (by decide +kernel) rfl⟩
theorem zf_RX5_30 : zq_FL RX5 30 5 9 := ⟨_, rfl, by decide, zq_mem 192 (by decide +kernel) rfl⟩
theorem zf_RX4_39 : zq_FL RX4 39 5 9 := ⟨_, rfl, by decide, zq_mem 193 (by decide +kernel) rfl⟩
theorem zf_RX10_233 : zq_FL RX10 233 5 9 := ⟨_, rfl, by decide, zq_mem 194 (by decide +kernel) rfl⟩
theorem zf_RX5_33 : zq_FL RX5 33 5 10 := ⟨_, rfl, by decide, zq_mem 195 (by decide +kernel) rfl⟩
theorem zf_RX4_36 : zq_FL RX4 36 5 10 := ⟨_, rfl, by decide, zq_mem 196 (by decide +kernel) rfl⟩
theorem zf_RX10_236 : zq_FL RX10 236 5 10 := ⟨_, rfl, by decide, zq_mem 197 (by decide +kernel) rfl⟩
theorem zf_RX4_33 : zq_FL RX4 33 5 11 := ⟨_, rfl, by decide, zq_mem 198 (by decide +kernel) rfl⟩
theorem zf_RX5_62 : zq_FL RX5 62 5 11 := ⟨_, rfl, by decide, zq_mem 199 (by decide +kernel) rfl⟩
theorem zf_RX10_230 : zq_FL RX10 230 5 11 := ⟨_, rfl, by decide, zq_mem 200 (by decide +kernel) rfl⟩
theorem zf_RX5_36 : zq_FL RX5 36 5 12 := ⟨_, rfl, by decide, zq_mem 201 (by decide +kernel) rfl⟩
theorem zf_RX6_129 : zq_FL RX6 129 5 12 := ⟨_, rfl, by decide, zq_mem 202 (by decide +kernel) rfl⟩
theorem zf_RX10_251 : zq_FL RX10 251 5 12 := ⟨_, rfl, by decide, zq_mem 203 (by decide +kernel) rfl⟩
theorem zf_RX5_65 : zq_FL RX5 65 5 13 := ⟨_, rfl, by decide, zq_mem 204 (by decide +kernel) rfl⟩
theorem zf_RX6_126 : zq_FL RX6 126 5 13 := ⟨_, rfl, by decide, zq_mem 205 (by decide +kernel) rfl⟩
theorem zf_RX10_248 : zq_FL RX10 248 5 13 := ⟨_, rfl, by decide, zq_mem 206 (by decide +kernel) rfl⟩
theorem zf_RX5_39 : zq_FL RX5 39 5 14 := ⟨_, rfl, by decide, zq_mem 207 (by decide +kernel) rfl⟩
theorem zf_RX10_158 : zq_FL RX10 158 5 14 := ⟨_, rfl, by decide, zq_mem 208 (by decide +kernel) rfl⟩
theorem zf_RX2_32 : zq_FL RX2 32 2 0 := ⟨_, rfl, by decide, zq_mem 248 (by decide +kernel) rfl⟩
theorem zf_RX2_9 : zq_FL RX2 9 2 1 := ⟨_, rfl, by decide, zq_mem 249 (by decide +kernel) rfl⟩
theorem zf_RX2_15 : zq_FL RX2 15 2 2 := ⟨_, rfl, by decide, zq_mem 250 (by decide +kernel) rfl⟩
theorem zf_RX2_18 : zq_FL RX2 18 2 3 := ⟨_, rfl, by decide, zq_mem 251 (by decide +kernel) rfl⟩
theorem zf_RX2_21 : zq_FL RX2 21 2 4 := ⟨_, rfl, by decide, zq_mem 252 (by decide +kernel) rfl⟩
theorem zf_RX2_24 : zq_FL RX2 24 2 5 := ⟨_, rfl, by decide, zq_mem 253 (by decide +kernel) rfl⟩
theorem zf_RX2_35 : zq_FL RX2 35 2 6 := ⟨_, rfl, by decide, zq_mem 254 (by decide +kernel) rfl⟩
theorem zf_RX10_165 : zq_FL RX10 165 2 6 := ⟨_, rfl, by decide, zq_mem 255 (by decide +kernel) rfl⟩
theorem zf_RX6_106 : zq_FL RX6 106 2 6 := ⟨_, rfl, by decide, zq_mem 256 (by decide +kernel) rfl⟩
theorem zf_RX3_9 : zq_FL RX3 9 3 0 := ⟨_, rfl, by decide, zq_mem 280 (by decide +kernel) rfl⟩
theorem zf_RX3_28 : zq_FL RX3 28 3 1 := ⟨_, rfl, by decide, zq_mem 281 (by decide +kernel) rfl⟩
theorem zf_RX3_32 : zq_FL RX3 32 3 2 := ⟨_, rfl, by decide, zq_mem 282 (by decide +kernel) rfl⟩
theorem zf_RX3_18 : zq_FL RX3 18 3 3 := ⟨_, rfl, by decide, zq_mem 283 (by decide +kernel) rfl⟩
theorem zf_RX6_30 : zq_FL RX6 30 6 0 := ⟨_, rfl, by decide, zq_mem 299 (by decide +kernel) rfl⟩
theorem zf_RX8_21 : zq_FL RX8 21 6 0 := ⟨_, rfl, by decide, zq_mem 300 (by decide +kernel) rfl⟩
theorem zf_RX1_33 : zq_FL RX1 33 6 0 := ⟨_, rfl, by decide, zq_mem 301 (by decide +kernel) rfl⟩
theorem zf_RX9_44 : zq_FL RX9 44 6 0 := ⟨_, rfl, by decide, zq_mem 302 (by decide +kernel) rfl⟩
theorem zf_RX6_34 : zq_FL RX6 34 6 1 := ⟨_, rfl, by decide, zq_mem 303 (by decide +kernel) rfl⟩
theorem zf_RX6_11 : zq_FL RX6 11 6 2 := ⟨_, rfl, by decide, zq_mem 304 (by decide +kernel) rfl⟩
theorem zf_RX6_17 : zq_FL RX6 17 6 3 := ⟨_, rfl, by decide, zq_mem 305 (by decide +kernel) rfl⟩
theorem zf_RX6_20 : zq_FL RX6 20 6 4 := ⟨_, rfl, by decide, zq_mem 306 (by decide +kernel) rfl⟩
theorem zf_RX6_23 : zq_FL RX6 23 6 5 := ⟨_, rfl, by decide, zq_mem 307 (by decide +kernel) rfl⟩
theorem zf_RX6_26 : zq_FL RX6 26 6 6 := ⟨_, rfl, by decide, zq_mem 308 (by decide +kernel) rfl⟩
theorem zf_RX9_23 : zq_FL RX9 23 9 0 := ⟨_, rfl, by decide, zq_mem 331 (by decide +kernel) rfl⟩
theorem zf_RX9_11 : zq_FL RX9 11 9 1 := ⟨_, rfl, by decide, zq_mem 332 (by decide +kernel) rfl⟩
theorem zf_RX9_17 : zq_FL RX9 17 9 2 := ⟨_, rfl, by decide, zq_mem 333 (by decide +kernel) rfl⟩
theorem zf_RX9_20 : zq_FL RX9 20 9 3 := ⟨_, rfl, by decide, zq_mem 334 (by decide +kernel) rfl⟩
theorem zf_RX9_66 : zq_FL RX9 66 9 4 := ⟨_, rfl, by decide, zq_mem 335 (by decide +kernel) rfl⟩
theorem zf_RX9_69 : zq_FL RX9 69 9 5 := ⟨_, rfl, by decide, zq_mem 336 (by decide +kernel) rfl⟩
theorem zf_RX9_72 : zq_FL RX9 72 9 6 := ⟨_, rfl, by decide, zq_mem 337 (by decide +kernel) rfl⟩
theorem zf_RX9_58 : zq_FL RX9 58 9 7 := ⟨_, rfl, by decide, zq_mem 338 (by decide +kernel) rfl⟩
theorem zf_RX1_29 : zq_FL RX1 29 1 0 := ⟨_, rfl, by decide, zq_mem 362 (by decide +kernel) rfl⟩
theorem zf_RX1_11 : zq_FL RX1 11 1 1 := ⟨_, rfl, by decide, zq_mem 363 (by decide +kernel) rfl⟩
theorem zf_RX1_17 : zq_FL RX1 17 1 2 := ⟨_, rfl, by decide, zq_mem 364 (by decide +kernel) rfl⟩
theorem zf_RX1_20 : zq_FL RX1 20 1 3 := ⟨_, rfl, by decide, zq_mem 365 (by decide +kernel) rfl⟩
theorem zf_RX1_23 : zq_FL RX1 23 1 4 := ⟨_, rfl, by decide, zq_mem 366 (by decide +kernel) rfl⟩
theorem zf_RX1_26 : zq_FL RX1 26 1 5 := ⟨_, rfl, by decide, zq_mem 367 (by decide +kernel) rfl⟩
theorem zf_RX1_43 : zq_FL RX1 43 1 6 := ⟨_, rfl, by decide, zq_mem 368 (by decide +kernel) rfl⟩
theorem zf_RX8_9 : zq_FL RX8 9 8 0 := ⟨_, rfl, by decide, zq_mem 390 (by decide +kernel) rfl⟩
theorem zf_RX4_15 : zq_FL RX4 15 4 0 := ⟨_, rfl, by decide, zq_mem 400 (by decide +kernel) rfl⟩
theorem zf_RX4_9 : zq_FL RX4 9 4 1 := ⟨_, rfl, by decide, zq_mem 401 (by decide +kernel) rfl⟩
theorem zf_RX0_11 : zq_FL RX0 11 0 0 := ⟨_, rfl, by decide, zq_mem 413 (by decide +kernel) rfl⟩
theorem zf_RX0_15 : zq_FL RX0 15 0 1 := ⟨_, rfl, by decide, zq_mem 414 (by decide +kernel) rfl⟩
theorem zf_RX10_295 : zq_FL RX10 295 0 1 := ⟨_, rfl, by decide, zq_mem 415 (by decide +kernel) rfl⟩
theorem zf_RX0_29 : zq_FL RX0 29 0 2 := ⟨_, rfl, by decide, zq_mem 416 (by decide +kernel) rfl⟩
theorem zf_RX0_32 : zq_FL RX0 32 0 3 := ⟨_, rfl, by decide, zq_mem 417 (by decide +kernel) rfl⟩
theorem zf_RX0_35 : zq_FL RX0 35 0 4 := ⟨_, rfl, by decide, zq_mem 418 (by decide +kernel) rfl⟩
theorem zf_RX7_9 : zq_FL RX7 9 7 0 := ⟨_, rfl, by decide, zq_mem 437 (by decide +kernel) rfl⟩
theorem zf_RX10_268 : zq_FL RX10 268 7 0 := ⟨_, rfl, by decide, zq_mem 438 (by decide +kernel) rfl⟩
theorem zf_RX7_19 : zq_FL RX7 19 7 1 := ⟨_, rfl, by decide, zq_mem 439 (by decide +kernel) rfl⟩
theorem zf_RX7_15 : zq_FL RX7 15 7 2 := ⟨_, rfl, by decide, zq_mem 440 (by decide +kernel) rfl⟩
theorem zf_RX10_312 : zq_FL RX10 312 7 2 := ⟨_, rfl, by decide, zq_mem 441 (by decide +kernel) rfl⟩
theorem zf_RX10_12 : zq_FL RX10 12 10 0 := ⟨_, rfl, by decide, zq_mem 450 (by decide +kernel) rfl⟩
theorem zf_RX10_18 : zq_FL RX10 18 10 1 := ⟨_, rfl, by decide, zq_mem 451 (by decide +kernel) rfl⟩
theorem zf_RX10_278 : zq_FL RX10 278 10 2 := ⟨_, rfl, by decide, zq_mem 452 (by decide +kernel) rfl⟩
theorem zf_RX10_21 : zq_FL RX10 21 10 3 := ⟨_, rfl, by decide, zq_mem 453 (by decide +kernel) rfl⟩
theorem zf_RX10_148 : zq_FL RX10 148 10 4 := ⟨_, rfl, by decide, zq_mem 454 (by decide +kernel) rfl⟩
theorem zf_RX10_27 : zq_FL RX10 27 10 5 := ⟨_, rfl, by decide, zq_mem 455 (by decide +kernel) rfl⟩
theorem zf_RX10_151 : zq_FL RX10 151 10 6 := ⟨_, rfl, by decide, zq_mem 456 (by decide +kernel) rfl⟩
theorem zf_RX10_32 : zq_FL RX10 32 10 7 := ⟨_, rfl, by decide, zq_mem 457 (by decide +kernel) rfl⟩
theorem zf_RX10_39 : zq_FL RX10 39 10 8 := ⟨_, rfl, by decide, zq_mem 458 (by decide +kernel) rfl⟩
theorem zf_RX10_48 : zq_FL RX10 48 10 9 := ⟨_, rfl, by decide, zq_mem 459 (by decide +kernel) rfl⟩
theorem zf_RX10_57 : zq_FL RX10 57 10 10 := ⟨_, rfl, by decide, zq_mem 460 (by decide +kernel) rfl⟩
theorem zf_RX10_64 : zq_FL RX10 64 10 11 := ⟨_, rfl, by decide, zq_mem 461 (by decide +kernel) rfl⟩
theorem zf_RX10_71 : zq_FL RX10 71 10 12 := ⟨_, rfl, by decide, zq_mem 462 (by decide +kernel) rfl⟩
theorem zf_RX10_80 : zq_FL RX10 80 10 13 := ⟨_, rfl, by decide, zq_mem 463 (by decide +kernel) rfl⟩
theorem zf_RX10_87 : zq_FL RX10 87 10 14 := ⟨_, rfl, by decide, zq_mem 464 (by decide +kernel) rfl⟩
theorem zf_RX10_93 : zq_FL RX10 93 10 15 := ⟨_, rfl, by decide, zq_mem 465 (by decide +kernel) rfl⟩
theorem zf_RX11_7 : zq_FL RX11 7 11 0 := ⟨_, rfl, by decide, zq_mem 1203 (by decide +kernel) rfl⟩
theorem zf_RX11_13 : zq_FL RX11 13 11 1 := ⟨_, rfl, by decide, zq_mem 1204 (by decide +kernel) rfl⟩
theorem zf_RX11_16 : zq_FL RX11 16 11 2 := ⟨_, rfl, by decide, zq_mem 1205 (by decide +kernel) rfl⟩
theorem zf_RX11_19 : zq_FL RX11 19 11 3 := ⟨_, rfl, by decide, zq_mem 1206 (by decide +kernel) rfl⟩
theorem zf_RX11_22 : zq_FL RX11 22 11 4 := ⟨_, rfl, by decide, zq_mem 1207 (by decide +kernel) rfl⟩
theorem zf_RX11_26 : zq_FL RX11 26 11 5 := ⟨_, rfl, by decide, zq_mem 1208 (by decide +kernel) rfl⟩
theorem zf_RX11_29 : zq_FL RX11 29 11 6 := ⟨_, rfl, by decide, zq_mem 1209 (by decide +kernel) rfl⟩
theorem zf_RX11_32 : zq_FL RX11 32 11 7 := ⟨_, rfl, by decide, zq_mem 1210 (by decide +kernel) rfl⟩
theorem zf_RX11_35 : zq_FL RX11 35 11 8 := ⟨_, rfl, by decide, zq_mem 1211 (by decide +kernel) rfl⟩
theorem zf_RX11_38 : zq_FL RX11 38 11 9 := ⟨_, rfl, by decide, zq_mem 1212 (by decide +kernel) rfl⟩
theorem zf_RX11_41 : zq_FL RX11 41 11 10 := ⟨_, rfl, by decide, zq_mem 1213 (by decide +kernel) rfl⟩
theorem zf_RX11_44 : zq_FL RX11 44 11 11 := ⟨_, rfl, by decide, zq_mem 1214 (by decide +kernel) rfl⟩
theorem zf_RX11_47 : zq_FL RX11 47 11 12 := ⟨_, rfl, by decide, zq_mem 1215 (by decide +kernel) rfl⟩
theorem zf_RX11_50 : zq_FL RX11 50 11 13 := ⟨_, rfl, by decide, zq_mem 1216 (by decide +kernel) rfl⟩
theorem zf_RX11_53 : zq_FL RX11 53 11 14 := ⟨_, rfl, by decide, zq_mem 1217 (by decide +kernel) rfl⟩
theorem zf_RX11_56 : zq_FL RX11 56 11 15 := ⟨_, rfl, by decide, zq_mem 1218 (by decide +kernel) rfl⟩
theorem zf_RX11_59 : zq_FL RX11 59 11 16 := ⟨_, rfl, by decide, zq_mem 1219 (by decide +kernel) rfl⟩
theorem zf_RX11_62 : zq_FL RX11 62 11 17 := ⟨_, rfl, by decide, zq_mem 1220 (by decide +kernel) rfl⟩
theorem zf_RX11_65 : zq_FL RX11 65 11 18 := ⟨_, rfl, by decide, zq_mem 1221 (by decide +kernel) rfl⟩
theorem zf_RX11_68 : zq_FL RX11 68 11 19 := ⟨_, rfl, by decide, zq_mem 1222 (by decide +kernel) rfl⟩
theorem zf_RX11_71 : zq_FL RX11 71 11 20 := ⟨_, rfl, by decide, zq_mem 1223 (by decide +kernel) rfl⟩
theorem zf_RX11_74 : zq_FL RX11 74 11 21 := ⟨_, rfl, by decide, zq_mem 1224 (by decide +kernel) rfl⟩
theorem zf_RX11_77 : zq_FL RX11 77 11 22 := ⟨_, rfl, by decide, zq_mem 1225 (by decide +kernel) rfl⟩
theorem zf_RX11_80 : zq_FL RX11 80 11 23 := ⟨_, rfl, by decide, zq_mem 1226 (by decide +kernel) rfl⟩
theorem zf_RX11_83 : zq_FL RX11 83 11 24 := ⟨_, rfl, by decide, zq_mem 1227 (by decide +kernel) rfl⟩
theorem zf_RX11_86 : zq_FL RX11 86 11 25 := ⟨_, rfl, by decide, zq_mem 1228 (by decide +kernel) rfl⟩
theorem zf_RX11_89 : zq_FL RX11 89 11 26 := ⟨_, rfl, by decide, zq_mem 1229 (by decide +kernel) rfl⟩
theorem zf_RX11_92 : zq_FL RX11 92 11 27 := ⟨_, rfl, by decide, zq_mem 1230 (by decide +kernel) rfl⟩
theorem zf_RX11_96 : zq_FL RX11 96 11 28 := ⟨_, rfl, by decide, zq_mem 1231 (by decide +kernel) rfl⟩
theorem zf_RX11_99 : zq_FL RX11 99 11 29 := ⟨_, rfl, by decide, zq_mem 1232 (by decide +kernel) rfl⟩
theorem zf_RX11_102 : zq_FL RX11 102 11 30 := ⟨_, rfl, by decide, zq_mem 1233 (by decide +kernel) rfl⟩
theorem zf_RX11_105 : zq_FL RX11 105 11 31 := ⟨_, rfl, by decide, zq_mem 1234 (by decide +kernel) rfl⟩
theorem zf_RX11_108 : zq_FL RX11 108 11 32 := ⟨_, rfl, by decide, zq_mem 1235 (by decide +kernel) rfl⟩
theorem zf_RX11_111 : zq_FL RX11 111 11 33 := ⟨_, rfl, by decide, zq_mem 1236 (by decide +kernel) rfl⟩
theorem zf_RX11_115 : zq_FL RX11 115 11 34 := ⟨_, rfl, by decide, zq_mem 1237 (by decide +kernel) rfl⟩
theorem zf_RX11_118 : zq_FL RX11 118 11 35 := ⟨_, rfl, by decide, zq_mem 1238 (by decide +kernel) rfl⟩
theorem zf_RX11_121 : zq_FL RX11 121 11 36 := ⟨_, rfl, by decide, zq_mem 1239 (by decide +kernel) rfl⟩
theorem zf_RX11_124 : zq_FL RX11 124 11 37 := ⟨_, rfl, by decide, zq_mem 1240 (by decide +kernel) rfl⟩
theorem zf_RX11_127 : zq_FL RX11 127 11 38 := ⟨_, rfl, by decide, zq_mem 1241 (by decide +kernel) rfl⟩
theorem zf_RX11_130 : zq_FL RX11 130 11 39 := ⟨_, rfl, by decide, zq_mem 1242 (by decide +kernel) rfl⟩
theorem zf_RX11_133 : zq_FL RX11 133 11 40 := ⟨_, rfl, by decide, zq_mem 1243 (by decide +kernel) rfl⟩
theorem zf_RX11_137 : zq_FL RX11 137 11 41 := ⟨_, rfl, by decide, zq_mem 1244 (by decide +kernel) rfl⟩
theorem zf_RX11_140 : zq_FL RX11 140 11 42 := ⟨_, rfl, by decide, zq_mem 1245 (by decide +kernel) rfl⟩
theorem zf_RX11_143 : zq_FL RX11 143 11 43 := ⟨_, rfl, by decide, zq_mem 1246 (by decide +kernel) rfl⟩
theorem zf_RX11_146 : zq_FL RX11 146 11 44 := ⟨_, rfl, by decide, zq_mem 1247 (by decide +kernel) rfl⟩
theorem zf_RX11_149 : zq_FL RX11 149 11 45 := ⟨_, rfl, by decide, zq_mem 1248 (by decide +kernel) rfl⟩
theorem zf_RX11_153 : zq_FL RX11 153 11 46 := ⟨_, rfl, by decide, zq_mem 1249 (by decide +kernel) rfl⟩
theorem zf_RX11_156 : zq_FL RX11 156 11 47 := ⟨_, rfl, by decide, zq_mem 1250 (by decide +kernel) rfl⟩
theorem zf_RX11_159 : zq_FL RX11 159 11 48 := ⟨_, rfl, by decide, zq_mem 1251 (by decide +kernel) rfl⟩
theorem zf_RX11_162 : zq_FL RX11 162 11 49 := ⟨_, rfl, by decide, zq_mem 1252 (by decide +kernel) rfl⟩
theorem zf_RX11_165 : zq_FL RX11 165 11 50 := ⟨_, rfl, by decide, zq_mem 1253 (by decide +kernel) rfl⟩
theorem zf_RX11_168 : zq_FL RX11 168 11 51 := ⟨_, rfl, by decide, zq_mem 1254 (by decide +kernel) rfl⟩
theorem zf_RX11_171 : zq_FL RX11 171 11 52 := ⟨_, rfl, by decide, zq_mem 1255 (by decide +kernel) rfl⟩
theorem zf_RX11_174 : zq_FL RX11 174 11 53 := ⟨_, rfl, by decide, zq_mem 1256 (by decide +kernel) rfl⟩
theorem zf_RX11_177 : zq_FL RX11 177 11 54 := ⟨_, rfl, by decide, zq_mem 1257 (by decide +kernel) rfl⟩
theorem zf_RX11_180 : zq_FL RX11 180 11 55 := ⟨_, rfl, by decide, zq_mem 1258 (by decide +kernel) rfl⟩
theorem zf_RX11_183 : zq_FL RX11 183 11 56 := ⟨_, rfl, by decide, zq_mem 1259 (by decide +kernel) rfl⟩
theorem zf_RX11_186 : zq_FL RX11 186 11 57 := ⟨_, rfl, by decide, zq_mem 1260 (by decide +kernel) rfl⟩
theorem zf_RX11_189 : zq_FL RX11 189 11 58 := ⟨_, rfl, by decide, zq_mem 1261 (by decide +kernel) rfl⟩
theorem zf_RX11_192 : zq_FL RX11 192 11 59 := ⟨_, rfl, by decide, zq_mem 1262 (by decide +kernel) rfl⟩
theorem zf_RX11_195 : zq_FL RX11 195 11 60 := ⟨_, rfl, by decide, zq_mem 1263 (by decide +kernel) rfl⟩
theorem zf_RX11_198 : zq_FL RX11 198 11 61 := ⟨_, rfl, by decide, zq_mem 1264 (by decide +kernel) rfl⟩
theorem zf_RX11_201 : zq_FL RX11 201 11 62 := ⟨_, rfl, by decide, zq_mem 1265 (by decide +kernel) rfl⟩
theorem zf_RX11_204 : zq_FL RX11 204 11 63 := ⟨_, rfl, by decide, zq_mem 1266 (by decide +kernel) rfl⟩
theorem zf_RX11_207 : zq_FL RX11 207 11 64 := ⟨_, rfl, by decide, zq_mem 1267 (by decide +kernel) rfl⟩
theorem zf_RX11_210 : zq_FL RX11 210 11 65 := ⟨_, rfl, by decide, zq_mem 1268 (by decide +kernel) rfl⟩
theorem zf_RX11_214 : zq_FL RX11 214 11 66 := ⟨_, rfl, by decide, zq_mem 1269 (by decide +kernel) rfl⟩
theorem zl_RX10_3 : Cond.methodLink RX10 3 Lib.objectInit ∈ zq_T := zq_mem 150 (by decide +kernel) rfl
theorem zl_RX5_3 : Cond.methodLink RX5 3 Lib.objectInit ∈ zq_T := zq_mem 158 (by decide +kernel) rfl
theorem zl_RX2_3 : Cond.methodLink RX2 3 Lib.objectInit ∈ zq_T := zq_mem 247 (by decide +kernel) rfl
theorem zl_RX3_3 : Cond.methodLink RX3 3 Lib.objectInit ∈ zq_T := zq_mem 277 (by decide +kernel) rfl
theorem zl_RX10_45 : Cond.methodLink RX10 45 yX6_init ∈ zq_T := zq_mem 295 (by decide +kernel) rfl
theorem zl_RX6_3 : Cond.methodLink RX6 3 Lib.objectInit ∈ zq_T := zq_mem 298 (by decide +kernel) rfl
theorem zl_RX10_54 : Cond.methodLink RX10 54 yX9_init ∈ zq_T := zq_mem 327 (by decide +kernel) rfl
theorem zl_RX9_3 : Cond.methodLink RX9 3 Lib.objectInit ∈ zq_T := zq_mem 330 (by decide +kernel) rfl
theorem zl_RX10_63 : Cond.methodLink RX10 63 yX1_init ∈ zq_T := zq_mem 358 (by decide +kernel) rfl
theorem zl_RX1_3 : Cond.methodLink RX1 3 Lib.objectInit ∈ zq_T := zq_mem 361 (by decide +kernel) rfl
theorem zl_RX10_70 : Cond.methodLink RX10 70 yX8_init ∈ zq_T := zq_mem 386 (by decide +kernel) rfl
theorem zl_RX8_3 : Cond.methodLink RX8 3 Lib.objectInit ∈ zq_T := zq_mem 389 (by decide +kernel) rfl
theorem zl_RX10_77 : Cond.methodLink RX10 77 yX4_init ∈ zq_T := zq_mem 396 (by decide +kernel) rfl
theorem zl_RX4_3 : Cond.methodLink RX4 3 Lib.objectInit ∈ zq_T := zq_mem 399 (by decide +kernel) rfl
theorem zl_RX0_3 : Cond.methodLink RX0 3 Lib.objectInit ∈ zq_T := zq_mem 412 (by decide +kernel) rfl
theorem zl_RX7_3 : Cond.methodLink RX7 3 Lib.objectInit ∈ zq_T := zq_mem 436 (by decide +kernel) rfl
theorem zl_RX10_98 : Cond.methodLink RX10 98 yX10_isFromTo ∈ zq_T := zq_mem 503 (by decide +kernel) rfl
theorem zl_RX10_102 : Cond.methodLink RX10 102 yX10_isPlace ∈ zq_T := zq_mem 506 (by decide +kernel) rfl
theorem zl_RX10_110 : Cond.methodLink RX10 110 yX5_addPerson ∈ zq_T := zq_mem 509 (by decide +kernel) rfl
theorem zl_RX10_114 : Cond.methodLink RX10 114 yX10_isPerson ∈ zq_T := zq_mem 517 (by decide +kernel) rfl
theorem zl_RX10_129 : Cond.methodLink RX10 129 yX10_maySpeakNow ∈ zq_T := zq_mem 521 (by decide +kernel) rfl
theorem zl_RX10_145 : Cond.methodLink RX10 145 yX10_speakersNow ∈ zq_T := zq_mem 525 (by decide +kernel) rfl
theorem zl_RX10_161 : Cond.methodLink RX10 161 yX10_holding ∈ zq_T := zq_mem 529 (by decide +kernel) rfl
theorem zl_RX10_254 : Cond.methodLink RX10 254 yX6_look ∈ zq_T := zq_mem 533 (by decide +kernel) rfl
theorem zl_RX10_141 : Cond.methodLink RX10 141 yX5_whoIsAt ∈ zq_T := zq_mem 537 (by decide +kernel) rfl
theorem zl_RX10_331 : Cond.methodLink RX10 331 yX6_speakers ∈ zq_T := zq_mem 541 (by decide +kernel) rfl
theorem zl_RX6_96 : Cond.methodLink RX6 96 yX6_lineUp ∈ zq_T := zq_mem 548 (by decide +kernel) rfl
theorem zl_RX6_102 : Cond.methodLink RX6 102 yX6_placeInLine ∈ zq_T := zq_mem 552 (by decide +kernel) rfl
theorem zl_RX6_109 : Cond.methodLink RX6 109 yX6_withoutNear ∈ zq_T := zq_mem 555 (by decide +kernel) rfl
theorem zl_RX6_113 : Cond.methodLink RX6 113 yX6_isNearAnother ∈ zq_T := zq_mem 559 (by decide +kernel) rfl
theorem zl_RX10_132 : Cond.methodLink RX10 132 yX10_isRoom ∈ zq_T := zq_mem 571 (by decide +kernel) rfl
theorem zl_RX10_154 : Cond.methodLink RX10 154 yX3_readInto ∈ zq_T := zq_mem 584 (by decide +kernel) rfl
theorem zl_RX3_22 : Cond.methodLink RX3 22 Lib.Math.min.name ∈ zq_T := zq_mem 588 (by decide +kernel) rfl
theorem zl_RX3_35 : Cond.methodLink RX3 35 yX3_readClause ∈ zq_T := zq_mem 591 (by decide +kernel) rfl
theorem zl_RX3_43 : Cond.methodLink RX3 43 yX3_readWord ∈ zq_T := zq_mem 595 (by decide +kernel) rfl
theorem zl_RX3_59 : Cond.methodLink RX3 59 yX3_eatAll ∈ zq_T := zq_mem 600 (by decide +kernel) rfl
theorem zl_RX3_96 : Cond.methodLink RX3 96 yJ0_length_8abf5 ∈ zq_T := zq_mem 604 (by decide +kernel) rfl
theorem zl_RJ0_335 : Cond.methodLink RJ0 335 yJ0_coder_7d493 ∈ zq_T := zq_mem 608 (by decide +kernel) rfl
theorem zl_RX3_100 : Cond.methodLink RX3 100 yJ0_charAt_5068e ∈ zq_T := zq_mem 614 (by decide +kernel) rfl
theorem zl_RJ0_492 : Cond.methodLink RJ0 492 yJ0_isLatin1_aae02 ∈ zq_T := zq_mem 618 (by decide +kernel) rfl
theorem zl_RJ0_495 : Cond.methodLink RJ0 495 yJ1_charAt_3b067 ∈ zq_T := zq_mem 622 (by decide +kernel) rfl
theorem zl_RJ1_9 : Cond.methodLink RJ1 9 yJ0_checkIndex_df160 ∈ zq_T := zq_mem 625 (by decide +kernel) rfl
theorem zl_RJ0_1059 : Cond.methodLink RJ0 1059 yJ3_checkIndex_8e157 ∈ zq_T := zq_mem 630 (by decide +kernel) rfl
theorem zl_RJ2_414 : Cond.methodLink RJ2 414 yJ0_checkIndex_df160 ∈ zq_T := zq_mem 642 (by decide +kernel) rfl
theorem zl_RX3_39 : Cond.methodLink RX3 39 yX3_eat ∈ zq_T := zq_mem 652 (by decide +kernel) rfl
theorem zl_RX3_47 : Cond.methodLink RX3 47 yX3_readNumber ∈ zq_T := zq_mem 659 (by decide +kernel) rfl
theorem zl_RX3_84 : Cond.methodLink RX3 84 yX3_eatOneOf ∈ zq_T := zq_mem 664 (by decide +kernel) rfl
theorem zl_RX3_104 : Cond.methodLink RX3 104 yJ0_indexOf_0f7a4 ∈ zq_T := zq_mem 668 (by decide +kernel) rfl
theorem zl_RJ0_633 : Cond.methodLink RJ0 633 yJ0_indexOf_7cf53 ∈ zq_T := zq_mem 672 (by decide +kernel) rfl
theorem zl_RJ0_505 : Cond.methodLink RJ0 505 yJ0_length_8abf5 ∈ zq_T := zq_mem 676 (by decide +kernel) rfl
theorem zl_RJ0_637 : Cond.methodLink RJ0 637 yJ1_indexOf_4cfef ∈ zq_T := zq_mem 677 (by decide +kernel) rfl
theorem zl_RJ1_88 : Cond.methodLink RJ1 88 yJ1_canEncode_9a6ad ∈ zq_T := zq_mem 680 (by decide +kernel) rfl
theorem zl_RJ1_38 : Cond.methodLink RJ1 38 Lib.Math.min.name ∈ zq_T := zq_mem 686 (by decide +kernel) rfl
theorem zl_RJ1_95 : Cond.methodLink RJ1 95 yJ1_indexOfChar_4cfef ∈ zq_T := zq_mem 687 (by decide +kernel) rfl
theorem zl_RJ2_183 : Cond.methodLink RJ2 183 Lib.Math.min.name ∈ zq_T := zq_mem 694 (by decide +kernel) rfl
theorem zl_RX3_50 : Cond.methodLink RX3 50 yX3_readAny ∈ zq_T := zq_mem 725 (by decide +kernel) rfl
theorem zl_RX3_69 : Cond.methodLink RX3 69 yX3_readAll ∈ zq_T := zq_mem 729 (by decide +kernel) rfl
theorem zl_RX3_76 : Cond.methodLink RX3 76 yX3_readOne ∈ zq_T := zq_mem 733 (by decide +kernel) rfl
theorem zl_RX3_79 : Cond.methodLink RX3 79 yX3_readTest ∈ zq_T := zq_mem 737 (by decide +kernel) rfl
theorem zl_RX3_90 : Cond.methodLink RX3 90 yX2_addTest ∈ zq_T := zq_mem 743 (by decide +kernel) rfl
theorem zl_RX2_28 : Cond.methodLink RX2 28 yX2_addStep ∈ zq_T := zq_mem 747 (by decide +kernel) rfl
theorem zl_RX3_72 : Cond.methodLink RX3 72 yX2_addStep ∈ zq_T := zq_mem 751 (by decide +kernel) rfl
theorem zl_RX3_53 : Cond.methodLink RX3 53 yX2_addClause ∈ zq_T := zq_mem 752 (by decide +kernel) rfl
theorem zl_RX10_174 : Cond.methodLink RX10 174 yX10_priceNow ∈ zq_T := zq_mem 765 (by decide +kernel) rfl
theorem zl_RX10_334 : Cond.methodLink RX10 334 yX10_numberWith ∈ zq_T := zq_mem 769 (by decide +kernel) rfl
theorem zl_RX10_225 : Cond.methodLink RX10 225 yJ6_bitCount_0f7a4 ∈ zq_T := zq_mem 773 (by decide +kernel) rfl
theorem zl_RX10_337 : Cond.methodLink RX10 337 yX6_priceOf ∈ zq_T := zq_mem 779 (by decide +kernel) rfl
theorem zl_RX6_38 : Cond.methodLink RX6 38 yX6_setFacts ∈ zq_T := zq_mem 783 (by decide +kernel) rfl
theorem zl_RX6_42 : Cond.methodLink RX6 42 yX2_together ∈ zq_T := zq_mem 787 (by decide +kernel) rfl
theorem zl_RX2_38 : Cond.methodLink RX2 38 yX2_holdsIn ∈ zq_T := zq_mem 791 (by decide +kernel) rfl
theorem zl_RX2_42 : Cond.methodLink RX2 42 yX2_testHolds ∈ zq_T := zq_mem 795 (by decide +kernel) rfl
theorem zl_RX10_178 : Cond.methodLink RX10 178 yX10_isBarredNow ∈ zq_T := zq_mem 798 (by decide +kernel) rfl
theorem zl_RX10_340 : Cond.methodLink RX10 340 yX6_isBarred ∈ zq_T := zq_mem 802 (by decide +kernel) rfl
theorem zl_RX6_46 : Cond.methodLink RX6 46 yX2_hasBar ∈ zq_T := zq_mem 806 (by decide +kernel) rfl
theorem zl_RX10_182 : Cond.methodLink RX10 182 Lib.Math.min.name ∈ zq_T := zq_mem 814 (by decide +kernel) rfl
theorem zl_RX10_187 : Cond.methodLink RX10 187 yX10_isThing ∈ zq_T := zq_mem 819 (by decide +kernel) rfl
theorem zl_RX10_190 : Cond.methodLink RX10 190 yX5_isKnown ∈ zq_T := zq_mem 822 (by decide +kernel) rfl
theorem zl_RX10_193 : Cond.methodLink RX10 193 yX6_worthTo ∈ zq_T := zq_mem 826 (by decide +kernel) rfl
theorem zl_RX6_50 : Cond.methodLink RX6 50 yX5_whoIsAt ∈ zq_T := zq_mem 830 (by decide +kernel) rfl
theorem zl_RX6_56 : Cond.methodLink RX6 56 yJ6_bitCount_0f7a4 ∈ zq_T := zq_mem 831 (by decide +kernel) rfl
theorem zl_RX10_196 : Cond.methodLink RX10 196 yX10_lookAhead ∈ zq_T := zq_mem 836 (by decide +kernel) rfl
theorem zl_RX10_328 : Cond.methodLink RX10 328 yX6_tellComings ∈ zq_T := zq_mem 840 (by decide +kernel) rfl
theorem zl_RX6_71 : Cond.methodLink RX6 71 yX6_slotOf ∈ zq_T := zq_mem 844 (by decide +kernel) rfl
theorem zl_RX6_75 : Cond.methodLink RX6 75 yX6_priceOf ∈ zq_T := zq_mem 847 (by decide +kernel) rfl
theorem zl_RX6_78 : Cond.methodLink RX6 78 yX6_isBarred ∈ zq_T := zq_mem 848 (by decide +kernel) rfl
theorem zl_RX10_199 : Cond.methodLink RX10 199 yX9_fewestComings ∈ zq_T := zq_mem 849 (by decide +kernel) rfl
theorem zl_RX9_27 : Cond.methodLink RX9 27 yX9_begin ∈ zq_T := zq_mem 853 (by decide +kernel) rfl
theorem zl_RX9_75 : Cond.methodLink RX9 75 yJ7_fill_53178 ∈ zq_T := zq_mem 858 (by decide +kernel) rfl
theorem zl_RX9_81 : Cond.methodLink RX9 81 yX6_packedNow ∈ zq_T := zq_mem 861 (by decide +kernel) rfl
theorem zl_RX9_31 : Cond.methodLink RX9 31 yX9_leastWith ∈ zq_T := zq_mem 865 (by decide +kernel) rfl
theorem zl_RX9_112 : Cond.methodLink RX9 112 yX9_tellSpeakers ∈ zq_T := zq_mem 869 (by decide +kernel) rfl
theorem zl_RX9_48 : Cond.methodLink RX9 48 yX5_everybody ∈ zq_T := zq_mem 873 (by decide +kernel) rfl
theorem zl_RX9_109 : Cond.methodLink RX9 109 yX6_speakers ∈ zq_T := zq_mem 877 (by decide +kernel) rfl
theorem zl_RX9_115 : Cond.methodLink RX9 115 yX6_whoIsAt ∈ zq_T := zq_mem 878 (by decide +kernel) rfl
theorem zl_RX9_36 : Cond.methodLink RX9 36 yX9_goOn ∈ zq_T := zq_mem 882 (by decide +kernel) rfl
theorem zl_RX9_84 : Cond.methodLink RX9 84 yX9_leave ∈ zq_T := zq_mem 886 (by decide +kernel) rfl
theorem zl_RX9_92 : Cond.methodLink RX9 92 yX6_mayCome ∈ zq_T := zq_mem 890 (by decide +kernel) rfl
theorem zl_RX6_85 : Cond.methodLink RX6 85 yX6_numberAt ∈ zq_T := zq_mem 894 (by decide +kernel) rfl
theorem zl_RX9_96 : Cond.methodLink RX9 96 yX6_moved ∈ zq_T := zq_mem 898 (by decide +kernel) rfl
theorem zl_RX9_100 : Cond.methodLink RX9 100 yX9_carried ∈ zq_T := zq_mem 901 (by decide +kernel) rfl
theorem zl_RX9_103 : Cond.methodLink RX9 103 yX6_priceFrom ∈ zq_T := zq_mem 905 (by decide +kernel) rfl
theorem zl_RX9_39 : Cond.methodLink RX9 39 Lib.Math.min.name ∈ zq_T := zq_mem 909 (by decide +kernel) rfl
theorem zl_RX9_88 : Cond.methodLink RX9 88 yX9_takeNext ∈ zq_T := zq_mem 910 (by decide +kernel) rfl
theorem zl_RX10_203 : Cond.methodLink RX10 203 yX9_leastCost ∈ zq_T := zq_mem 918 (by decide +kernel) rfl
theorem zl_RX10_206 : Cond.methodLink RX10 206 yX9_whoNeverCan ∈ zq_T := zq_mem 926 (by decide +kernel) rfl
theorem zl_RX9_54 : Cond.methodLink RX9 54 yX9_whoCanSpeak ∈ zq_T := zq_mem 930 (by decide +kernel) rfl
theorem zl_RX10_209 : Cond.methodLink RX10 209 yX5_whoKnows ∈ zq_T := zq_mem 938 (by decide +kernel) rfl
theorem zl_RX5_46 : Cond.methodLink RX5 46 yX5_isKnown ∈ zq_T := zq_mem 942 (by decide +kernel) rfl
theorem zl_RX10_212 : Cond.methodLink RX10 212 yX5_everybody ∈ zq_T := zq_mem 943 (by decide +kernel) rfl
theorem zl_RX10_216 : Cond.methodLink RX10 216 yX1_fewestTill ∈ zq_T := zq_mem 944 (by decide +kernel) rfl
theorem zl_RX1_46 : Cond.methodLink RX1 46 yJ7_fill_53178 ∈ zq_T := zq_mem 948 (by decide +kernel) rfl
theorem zl_RX1_52 : Cond.methodLink RX1 52 yX6_packedNow ∈ zq_T := zq_mem 949 (by decide +kernel) rfl
theorem zl_RX1_56 : Cond.methodLink RX1 56 yX1_goOn ∈ zq_T := zq_mem 950 (by decide +kernel) rfl
theorem zl_RX1_67 : Cond.methodLink RX1 67 yX1_leave ∈ zq_T := zq_mem 954 (by decide +kernel) rfl
theorem zl_RX1_76 : Cond.methodLink RX1 76 yX6_mayCome ∈ zq_T := zq_mem 958 (by decide +kernel) rfl
theorem zl_RX1_80 : Cond.methodLink RX1 80 yX6_moved ∈ zq_T := zq_mem 959 (by decide +kernel) rfl
theorem zl_RX1_70 : Cond.methodLink RX1 70 arraycopyName ∈ zq_T := zq_mem 960 (by decide +kernel) rfl
theorem zl_RX1_59 : Cond.methodLink RX1 59 yX1_tellSpeakers ∈ zq_T := zq_mem 963 (by decide +kernel) rfl
theorem zl_RX1_88 : Cond.methodLink RX1 88 yX5_everybody ∈ zq_T := zq_mem 967 (by decide +kernel) rfl
theorem zl_RX1_94 : Cond.methodLink RX1 94 yX6_speakers ∈ zq_T := zq_mem 968 (by decide +kernel) rfl
theorem zl_RX1_63 : Cond.methodLink RX1 63 yX1_sayAll ∈ zq_T := zq_mem 969 (by decide +kernel) rfl
theorem zl_RX1_84 : Cond.methodLink RX1 84 yX1_saidIn ∈ zq_T := zq_mem 973 (by decide +kernel) rfl
theorem zl_RX1_97 : Cond.methodLink RX1 97 yX6_whoIsAt ∈ zq_T := zq_mem 977 (by decide +kernel) rfl
theorem zl_RX1_101 : Cond.methodLink RX1 101 yX1_knowingThen ∈ zq_T := zq_mem 978 (by decide +kernel) rfl
theorem zl_RX10_219 : Cond.methodLink RX10 219 yX1_setsOfOneWithout ∈ zq_T := zq_mem 986 (by decide +kernel) rfl
theorem zl_RX10_222 : Cond.methodLink RX10 222 yX8_canWin ∈ zq_T := zq_mem 993 (by decide +kernel) rfl
theorem zl_RX8_15 : Cond.methodLink RX8 15 yX6_packedNow ∈ zq_T := zq_mem 997 (by decide +kernel) rfl
theorem zl_RX8_31 : Cond.methodLink RX8 31 yX8_wins ∈ zq_T := zq_mem 998 (by decide +kernel) rfl
theorem zl_RX8_35 : Cond.methodLink RX8 35 yX6_whoIsAt ∈ zq_T := zq_mem 1002 (by decide +kernel) rfl
theorem zl_RX8_39 : Cond.methodLink RX8 39 yX6_speakers ∈ zq_T := zq_mem 1003 (by decide +kernel) rfl
theorem zl_RX8_46 : Cond.methodLink RX8 46 yX6_mayCome ∈ zq_T := zq_mem 1004 (by decide +kernel) rfl
theorem zl_RX8_50 : Cond.methodLink RX8 50 yX6_moved ∈ zq_T := zq_mem 1005 (by decide +kernel) rfl
theorem zl_RX10_239 : Cond.methodLink RX10 239 yX4_fitting ∈ zq_T := zq_mem 1018 (by decide +kernel) rfl
theorem zl_RX4_19 : Cond.methodLink RX4 19 yX4_fittingFrom ∈ zq_T := zq_mem 1022 (by decide +kernel) rfl
theorem zl_RX4_29 : Cond.methodLink RX4 29 yX4_goesWithAll ∈ zq_T := zq_mem 1026 (by decide +kernel) rfl
theorem zl_RX4_42 : Cond.methodLink RX4 42 yX4_isMiddle ∈ zq_T := zq_mem 1030 (by decide +kernel) rfl
theorem zl_RX4_46 : Cond.methodLink RX4 46 yJ6_bitCount_0f7a4 ∈ zq_T := zq_mem 1034 (by decide +kernel) rfl
theorem zl_RX10_244 : Cond.methodLink RX10 244 yX8_oddsOfSpeaking ∈ zq_T := zq_mem 1040 (by decide +kernel) rfl
theorem zl_RX8_55 : Cond.methodLink RX8 55 yX8_sharesSpeaking ∈ zq_T := zq_mem 1045 (by decide +kernel) rfl
theorem zl_RX8_63 : Cond.methodLink RX8 63 yX8_waysOn ∈ zq_T := zq_mem 1049 (by decide +kernel) rfl
theorem zl_RX8_59 : Cond.methodLink RX8 59 yX8_greatestDivisor ∈ zq_T := zq_mem 1053 (by decide +kernel) rfl
theorem zl_RX10_258 : Cond.methodLink RX10 258 yX6_sayable ∈ zq_T := zq_mem 1064 (by decide +kernel) rfl
theorem zl_RX6_120 : Cond.methodLink RX6 120 arraycopyName ∈ zq_T := zq_mem 1068 (by decide +kernel) rfl
theorem zl_RX6_132 : Cond.methodLink RX6 132 yX6_isSaid ∈ zq_T := zq_mem 1069 (by decide +kernel) rfl
theorem zl_RX6_142 : Cond.methodLink RX6 142 yX6_speakers ∈ zq_T := zq_mem 1074 (by decide +kernel) rfl
theorem zl_RX10_261 : Cond.methodLink RX10 261 yX10_isTape ∈ zq_T := zq_mem 1079 (by decide +kernel) rfl
theorem zl_RX10_264 : Cond.methodLink RX10 264 yX7_holdsRow ∈ zq_T := zq_mem 1082 (by decide +kernel) rfl
theorem zl_RX10_271 : Cond.methodLink RX10 271 yX10_firstOtherwise ∈ zq_T := zq_mem 1086 (by decide +kernel) rfl
theorem zl_RX10_305 : Cond.methodLink RX10 305 yX7_hasPlace ∈ zq_T := zq_mem 1090 (by decide +kernel) rfl
theorem zl_RX10_275 : Cond.methodLink RX10 275 yX5_copyFrom ∈ zq_T := zq_mem 1098 (by decide +kernel) rfl
theorem zl_RX5_50 : Cond.methodLink RX5 50 arraycopyName ∈ zq_T := zq_mem 1102 (by decide +kernel) rfl
theorem zl_RX10_282 : Cond.methodLink RX10 282 yX0_forget ∈ zq_T := zq_mem 1111 (by decide +kernel) rfl
theorem zl_RX10_285 : Cond.methodLink RX10 285 yX0_start ∈ zq_T := zq_mem 1115 (by decide +kernel) rfl
theorem zl_RX0_38 : Cond.methodLink RX0 38 yX0_doFrom ∈ zq_T := zq_mem 1119 (by decide +kernel) rfl
theorem zl_RX0_48 : Cond.methodLink RX0 48 yX0_bodyFrom ∈ zq_T := zq_mem 1123 (by decide +kernel) rfl
theorem zl_RX0_51 : Cond.methodLink RX0 51 yX0_note ∈ zq_T := zq_mem 1130 (by decide +kernel) rfl
theorem zl_RX10_289 : Cond.methodLink RX10 289 yX0_bodyAt ∈ zq_T := zq_mem 1138 (by decide +kernel) rfl
theorem zl_RX0_19 : Cond.methodLink RX0 19 Lib.Math.min.name ∈ zq_T := zq_mem 1142 (by decide +kernel) rfl
theorem zl_RX10_292 : Cond.methodLink RX10 292 yX10_isKindOrUnder ∈ zq_T := zq_mem 1148 (by decide +kernel) rfl
theorem zl_RX10_298 : Cond.methodLink RX10 298 yX7_holdNothing ∈ zq_T := zq_mem 1160 (by decide +kernel) rfl
theorem zl_RX10_301 : Cond.methodLink RX10 301 yX7_holdZeros ∈ zq_T := zq_mem 1164 (by decide +kernel) rfl
theorem zl_RX7_22 : Cond.methodLink RX7 22 yJ7_fill_d0a16 ∈ zq_T := zq_mem 1168 (by decide +kernel) rfl
theorem zl_RX10_308 : Cond.methodLink RX10 308 yX7_put ∈ zq_T := zq_mem 1175 (by decide +kernel) rfl
theorem zl_RX7_28 : Cond.methodLink RX7 28 yX7_narrowed ∈ zq_T := zq_mem 1179 (by decide +kernel) rfl
theorem zl_RX10_316 : Cond.methodLink RX10 316 yX7_hasPart ∈ zq_T := zq_mem 1191 (by decide +kernel) rfl
theorem zl_RX10_319 : Cond.methodLink RX10 319 arraycopyName ∈ zq_T := zq_mem 1195 (by decide +kernel) rfl
theorem zl_RX11_1 : Cond.methodLink RX11 1 Lib.objectInit ∈ zq_T := zq_mem 1201 (by decide +kernel) rfl
theorem zl_RX11_217 : Cond.methodLink RX11 217 yX11_within ∈ zq_T := zq_mem 1409 (by decide +kernel) rfl
theorem zl_RX11_225 : Cond.methodLink RX11 225 yX11_isPlace ∈ zq_T := zq_mem 1413 (by decide +kernel) rfl
theorem zl_RX11_229 : Cond.methodLink RX11 229 yX11_moved ∈ zq_T := zq_mem 1417 (by decide +kernel) rfl
theorem zl_RX11_249 : Cond.methodLink RX11 249 yX11_isPerson ∈ zq_T := zq_mem 1425 (by decide +kernel) rfl
theorem zl_RX11_252 : Cond.methodLink RX11 252 yX11_sameNow ∈ zq_T := zq_mem 1429 (by decide +kernel) rfl
theorem zl_RX11_308 : Cond.methodLink RX11 308 yX11_first ∈ zq_T := zq_mem 1433 (by decide +kernel) rfl
theorem zl_RX11_311 : Cond.methodLink RX11 311 yX11_behind ∈ zq_T := zq_mem 1437 (by decide +kernel) rfl
theorem zl_RX11_221 : Cond.methodLink RX11 221 yX11_placeOf ∈ zq_T := zq_mem 1441 (by decide +kernel) rfl
theorem zl_RX11_256 : Cond.methodLink RX11 256 yX11_maySpeak ∈ zq_T := zq_mem 1445 (by decide +kernel) rfl
theorem zl_RX11_236 : Cond.methodLink RX11 236 yX11_hasLike ∈ zq_T := zq_mem 1449 (by decide +kernel) rfl
theorem zl_RX11_233 : Cond.methodLink RX11 233 yX11_measure ∈ zq_T := zq_mem 1453 (by decide +kernel) rfl
theorem zl_RX11_240 : Cond.methodLink RX11 240 yX11_placeInLine ∈ zq_T := zq_mem 1457 (by decide +kernel) rfl
theorem zl_RX11_243 : Cond.methodLink RX11 243 yX11_manyIn ∈ zq_T := zq_mem 1461 (by decide +kernel) rfl
theorem zl_RX11_246 : Cond.methodLink RX11 246 yX11_isMiddle ∈ zq_T := zq_mem 1465 (by decide +kernel) rfl
theorem zl_RX11_259 : Cond.methodLink RX11 259 yX11_isRoom ∈ zq_T := zq_mem 1477 (by decide +kernel) rfl
theorem zl_RX11_305 : Cond.methodLink RX11 305 yX11_goesText ∈ zq_T := zq_mem 1493 (by decide +kernel) rfl
theorem zl_RX11_302 : Cond.methodLink RX11 302 yX11_takesClause ∈ zq_T := zq_mem 1497 (by decide +kernel) rfl
theorem zl_RX11_296 : Cond.methodLink RX11 296 yX11_takesHead ∈ zq_T := zq_mem 1501 (by decide +kernel) rfl
theorem zl_RX11_262 : Cond.methodLink RX11 262 yX11_next ∈ zq_T := zq_mem 1505 (by decide +kernel) rfl
theorem zl_RX11_292 : Cond.methodLink RX11 292 yX11_takesWord ∈ zq_T := zq_mem 1509 (by decide +kernel) rfl
theorem zl_RX11_265 : Cond.methodLink RX11 265 yX11_takes ∈ zq_T := zq_mem 1513 (by decide +kernel) rfl
theorem zl_RX11_299 : Cond.methodLink RX11 299 yX11_takesE ∈ zq_T := zq_mem 1517 (by decide +kernel) rfl
theorem zl_RX11_286 : Cond.methodLink RX11 286 yX11_takesTest ∈ zq_T := zq_mem 1521 (by decide +kernel) rfl
theorem zl_RX11_276 : Cond.methodLink RX11 276 yX11_place ∈ zq_T := zq_mem 1525 (by decide +kernel) rfl
theorem zl_RX11_280 : Cond.methodLink RX11 280 yX11_takesNumber ∈ zq_T := zq_mem 1529 (by decide +kernel) rfl
theorem zl_RX11_268 : Cond.methodLink RX11 268 yX11_isDigit ∈ zq_T := zq_mem 1533 (by decide +kernel) rfl
theorem zl_RX11_272 : Cond.methodLink RX11 272 yX11_put ∈ zq_T := zq_mem 1537 (by decide +kernel) rfl
theorem zl_RX11_283 : Cond.methodLink RX11 283 yX11_whole ∈ zq_T := zq_mem 1541 (by decide +kernel) rfl
theorem zl_RX11_289 : Cond.methodLink RX11 289 yX11_settle ∈ zq_T := zq_mem 1545 (by decide +kernel) rfl
theorem zl_RX11_322 : Cond.methodLink RX11 322 yX11_sumOf ∈ zq_T := zq_mem 1557 (by decide +kernel) rfl
theorem zl_RX11_318 : Cond.methodLink RX11 318 yX11_holds ∈ zq_T := zq_mem 1561 (by decide +kernel) rfl
theorem zl_RX11_314 : Cond.methodLink RX11 314 yX11_factOf ∈ zq_T := zq_mem 1565 (by decide +kernel) rfl
theorem zl_RX11_325 : Cond.methodLink RX11 325 yX11_isBarred ∈ zq_T := zq_mem 1569 (by decide +kernel) rfl
theorem zl_RX11_334 : Cond.methodLink RX11 334 yX11_isThing ∈ zq_T := zq_mem 1581 (by decide +kernel) rfl
theorem zl_RX11_331 : Cond.methodLink RX11 331 yX11_has ∈ zq_T := zq_mem 1585 (by decide +kernel) rfl
theorem zl_RX11_337 : Cond.methodLink RX11 337 yX11_said ∈ zq_T := zq_mem 1589 (by decide +kernel) rfl
theorem zl_RX11_355 : Cond.methodLink RX11 355 yX11_layComings ∈ zq_T := zq_mem 1597 (by decide +kernel) rfl
theorem zl_RX11_358 : Cond.methodLink RX11 358 yX11_soonestOf ∈ zq_T := zq_mem 1601 (by decide +kernel) rfl
theorem zl_RX11_346 : Cond.methodLink RX11 346 yX11_beginAt ∈ zq_T := zq_mem 1605 (by decide +kernel) rfl
theorem zl_RX11_340 : Cond.methodLink RX11 340 yX11_places ∈ zq_T := zq_mem 1609 (by decide +kernel) rfl
theorem zl_RX11_349 : Cond.methodLink RX11 349 yX11_canSpeak ∈ zq_T := zq_mem 1613 (by decide +kernel) rfl
theorem zl_RX11_352 : Cond.methodLink RX11 352 yX11_goOn ∈ zq_T := zq_mem 1617 (by decide +kernel) rfl
theorem zl_RX11_343 : Cond.methodLink RX11 343 yX11_mayCome ∈ zq_T := zq_mem 1621 (by decide +kernel) rfl
theorem zl_RX11_328 : Cond.methodLink RX11 328 yX11_comingOf ∈ zq_T := zq_mem 1625 (by decide +kernel) rfl
theorem zl_RX11_361 : Cond.methodLink RX11 361 yX11_leadsBy ∈ zq_T := zq_mem 1629 (by decide +kernel) rfl
theorem zl_RX11_364 : Cond.methodLink RX11 364 yX11_goOnCheap ∈ zq_T := zq_mem 1637 (by decide +kernel) rfl
theorem zl_RX11_373 : Cond.methodLink RX11 373 yX11_fewestBy ∈ zq_T := zq_mem 1649 (by decide +kernel) rfl
theorem zl_RX11_367 : Cond.methodLink RX11 367 yX11_spread ∈ zq_T := zq_mem 1653 (by decide +kernel) rfl
theorem zl_RX11_370 : Cond.methodLink RX11 370 yX11_goOnKnown ∈ zq_T := zq_mem 1657 (by decide +kernel) rfl
theorem zl_RX11_379 : Cond.methodLink RX11 379 yX11_turns ∈ zq_T := zq_mem 1669 (by decide +kernel) rfl
theorem zl_RX11_382 : Cond.methodLink RX11 382 yX11_mayTurn ∈ zq_T := zq_mem 1673 (by decide +kernel) rfl
theorem zl_RX11_385 : Cond.methodLink RX11 385 yX11_behindTurn ∈ zq_T := zq_mem 1677 (by decide +kernel) rfl
theorem zl_RX11_392 : Cond.methodLink RX11 392 yX11_winsSecond ∈ zq_T := zq_mem 1681 (by decide +kernel) rfl
theorem zl_RX11_376 : Cond.methodLink RX11 376 yX11_isWon ∈ zq_T := zq_mem 1685 (by decide +kernel) rfl
theorem zl_RX11_388 : Cond.methodLink RX11 388 yX11_winsThird ∈ zq_T := zq_mem 1689 (by decide +kernel) rfl
theorem zl_RX11_395 : Cond.methodLink RX11 395 yX11_ones ∈ zq_T := zq_mem 1701 (by decide +kernel) rfl
theorem zl_RX11_398 : Cond.methodLink RX11 398 yX11_layOrder ∈ zq_T := zq_mem 1709 (by decide +kernel) rfl
theorem zl_RX11_401 : Cond.methodLink RX11 401 yX11_goesWithRows ∈ zq_T := zq_mem 1713 (by decide +kernel) rfl
theorem zl_RX11_424 : Cond.methodLink RX11 424 yX11_layLot ∈ zq_T := zq_mem 1722 (by decide +kernel) rfl
theorem zl_RX11_408 : Cond.methodLink RX11 408 yX11_waysFrom ∈ zq_T := zq_mem 1726 (by decide +kernel) rfl
theorem zl_RX11_411 : Cond.methodLink RX11 411 yX11_addLot ∈ zq_T := zq_mem 1730 (by decide +kernel) rfl
theorem zl_RX11_404 : Cond.methodLink RX11 404 yX11_divisor ∈ zq_T := zq_mem 1734 (by decide +kernel) rfl
theorem zl_RX11_418 : Cond.methodLink RX11 418 yX11_addFrom ∈ zq_T := zq_mem 1738 (by decide +kernel) rfl
theorem zl_RX11_415 : Cond.methodLink RX11 415 yX11_speaksBehind ∈ zq_T := zq_mem 1742 (by decide +kernel) rfl
theorem zl_RX11_428 : Cond.methodLink RX11 428 yX11_isTape ∈ zq_T := zq_mem 1758 (by decide +kernel) rfl
theorem zl_RX11_437 : Cond.methodLink RX11 437 yX11_hearsAct ∈ zq_T := zq_mem 1774 (by decide +kernel) rfl
theorem zl_RX11_431 : Cond.methodLink RX11 431 yX11_body ∈ zq_T := zq_mem 1778 (by decide +kernel) rfl
theorem zl_RX11_434 : Cond.methodLink RX11 434 yX11_roomHears ∈ zq_T := zq_mem 1782 (by decide +kernel) rfl
theorem zl_RX11_446 : Cond.methodLink RX11 446 yX11_speaksAct ∈ zq_T := zq_mem 1786 (by decide +kernel) rfl
theorem zl_RX11_443 : Cond.methodLink RX11 443 yX11_lowerSpeaks ∈ zq_T := zq_mem 1790 (by decide +kernel) rfl
theorem zl_RX11_440 : Cond.methodLink RX11 440 yX11_roomSpeaks ∈ zq_T := zq_mem 1794 (by decide +kernel) rfl
theorem zl_RX11_452 : Cond.methodLink RX11 452 yX11_tellsAct ∈ zq_T := zq_mem 1798 (by decide +kernel) rfl
theorem zl_RX11_449 : Cond.methodLink RX11 449 yX11_roomTells ∈ zq_T := zq_mem 1802 (by decide +kernel) rfl
theorem zl_RX11_455 : Cond.methodLink RX11 455 yX11_narrow ∈ zq_T := zq_mem 1826 (by decide +kernel) rfl
theorem zx_min1 : Cond.static Lib.Math.min.name ∈ zq_T := zq_mem 589 (by decide +kernel) rfl
theorem zx_min2 : Cond.initialized "java/lang/Math" ∈ zq_T := zq_mem 136 (by decide +kernel) rfl
theorem zx_min3 : Cond.code Lib.Math.min.name Lib.Math.min.code 2 (some .int) ∈ zq_T := zq_mem 590 (by decide +kernel) rfl
theorem zx_oi1 : Cond.instanceMethod Lib.objectInit ∈ zq_T := zq_mem 151 (by decide +kernel) rfl
theorem zx_oi2 : Cond.code Lib.objectInit ⟨#[0xb1]⟩ 1 none ∈ zq_T := zq_mem 152 (by decide +kernel) rfl
theorem zx_ac1 : Cond.native arraycopyName ∈ zq_T := zq_mem 962 (by decide +kernel) rfl
theorem zx_ac2 : Cond.static arraycopyName ∈ zq_T := zq_mem 961 (by decide +kernel) rfl
theorem zx_ac3 : Cond.initialized "java/lang/System" ∈ zq_T := zq_mem 144 (by decide +kernel) rfl
theorem zk_RJ6_265 : Cond.constant RJ6 265 (1431655765) ∈ zq_T := zq_mem 776 (by decide +kernel) rfl
theorem zk_RJ6_266 : Cond.constant RJ6 266 (858993459) ∈ zq_T := zq_mem 777 (by decide +kernel) rfl
theorem zk_RJ6_267 : Cond.constant RJ6 267 (252645135) ∈ zq_T := zq_mem 778 (by decide +kernel) rfl
theorem zk_RX9_35 : Cond.constant RX9 35 (1073741824) ∈ zq_T := zq_mem 857 (by decide +kernel) rfl
theorem zk_RX11_114 : Cond.constant RX11 114 (32768) ∈ zq_T := zq_mem 1202 (by decide +kernel) rfl
theorem zk_RX10_242 : Cond.constantLong RX10 242 (-9223372036854775808) ∈ zq_T := zq_mem 1039 (by decide +kernel) rfl
theorem zk_RX8_53 : Cond.constantLong RX8 53 (129859329600) ∈ zq_T := zq_mem 1044 (by decide +kernel) rfl
theorem zk_RX11_422 : Cond.constantLong RX11 422 (-9223372036854775808) ∈ zq_T := zq_mem 1721 (by decide +kernel) rfl
theorem zc_im1 : Int32.ofInt (-1) = (-1 : Int32) := by decide
theorem zc_i0 : Int32.ofInt (0) = (0 : Int32) := by decide
theorem zc_i1 : Int32.ofInt (1) = (1 : Int32) := by decide
theorem zc_i2 : Int32.ofInt (2) = (2 : Int32) := by decide
theorem zc_i3 : Int32.ofInt (3) = (3 : Int32) := by decide
theorem zc_i4 : Int32.ofInt (4) = (4 : Int32) := by decide
theorem zc_i5 : Int32.ofInt (5) = (5 : Int32) := by decide
theorem zc_bm38 : (Int8.ofInt (-38)).toInt32 = (-38 : Int32) := by decide
theorem zc_bm33 : (Int8.ofInt (-33)).toInt32 = (-33 : Int32) := by decide
theorem zc_bm14 : (Int8.ofInt (-14)).toInt32 = (-14 : Int32) := by decide
theorem zc_bm13 : (Int8.ofInt (-13)).toInt32 = (-13 : Int32) := by decide
theorem zc_bm12 : (Int8.ofInt (-12)).toInt32 = (-12 : Int32) := by decide
theorem zc_bm11 : (Int8.ofInt (-11)).toInt32 = (-11 : Int32) := by decide
theorem zc_bm10 : (Int8.ofInt (-10)).toInt32 = (-10 : Int32) := by decide
theorem zc_bm5 : (Int8.ofInt (-5)).toInt32 = (-5 : Int32) := by decide
theorem zc_bm4 : (Int8.ofInt (-4)).toInt32 = (-4 : Int32) := by decide
theorem zc_bm3 : (Int8.ofInt (-3)).toInt32 = (-3 : Int32) := by decide
theorem zc_bm2 : (Int8.ofInt (-2)).toInt32 = (-2 : Int32) := by decide
theorem zc_b6 : (Int8.ofInt (6)).toInt32 = (6 : Int32) := by decide
theorem zc_b7 : (Int8.ofInt (7)).toInt32 = (7 : Int32) := by decide
theorem zc_b8 : (Int8.ofInt (8)).toInt32 = (8 : Int32) := by decide
theorem zc_b9 : (Int8.ofInt (9)).toInt32 = (9 : Int32) := by decide
theorem zc_b10 : (Int8.ofInt (10)).toInt32 = (10 : Int32) := by decide
theorem zc_b11 : (Int8.ofInt (11)).toInt32 = (11 : Int32) := by decide
theorem zc_b12 : (Int8.ofInt (12)).toInt32 = (12 : Int32) := by decide
theorem zc_b13 : (Int8.ofInt (13)).toInt32 = (13 : Int32) := by decide
theorem zc_b14 : (Int8.ofInt (14)).toInt32 = (14 : Int32) := by decide
theorem zc_b15 : (Int8.ofInt (15)).toInt32 = (15 : Int32) := by decide
theorem zc_b16 : (Int8.ofInt (16)).toInt32 = (16 : Int32) := by decide
theorem zc_b17 : (Int8.ofInt (17)).toInt32 = (17 : Int32) := by decide
theorem zc_b19 : (Int8.ofInt (19)).toInt32 = (19 : Int32) := by decide
theorem zc_b20 : (Int8.ofInt (20)).toInt32 = (20 : Int32) := by decide
theorem zc_b24 : (Int8.ofInt (24)).toInt32 = (24 : Int32) := by decide
theorem zc_b30 : (Int8.ofInt (30)).toInt32 = (30 : Int32) := by decide
theorem zc_b32 : (Int8.ofInt (32)).toInt32 = (32 : Int32) := by decide
theorem zc_b33 : (Int8.ofInt (33)).toInt32 = (33 : Int32) := by decide
theorem zc_b38 : (Int8.ofInt (38)).toInt32 = (38 : Int32) := by decide
theorem zc_b40 : (Int8.ofInt (40)).toInt32 = (40 : Int32) := by decide
theorem zc_b41 : (Int8.ofInt (41)).toInt32 = (41 : Int32) := by decide
theorem zc_b48 : (Int8.ofInt (48)).toInt32 = (48 : Int32) := by decide
theorem zc_b49 : (Int8.ofInt (49)).toInt32 = (49 : Int32) := by decide
theorem zc_b50 : (Int8.ofInt (50)).toInt32 = (50 : Int32) := by decide
theorem zc_b51 : (Int8.ofInt (51)).toInt32 = (51 : Int32) := by decide
theorem zc_b57 : (Int8.ofInt (57)).toInt32 = (57 : Int32) := by decide
theorem zc_b59 : (Int8.ofInt (59)).toInt32 = (59 : Int32) := by decide
theorem zc_b60 : (Int8.ofInt (60)).toInt32 = (60 : Int32) := by decide
theorem zc_b62 : (Int8.ofInt (62)).toInt32 = (62 : Int32) := by decide
theorem zc_b63 : (Int8.ofInt (63)).toInt32 = (63 : Int32) := by decide
theorem zc_b70 : (Int8.ofInt (70)).toInt32 = (70 : Int32) := by decide
theorem zc_b71 : (Int8.ofInt (71)).toInt32 = (71 : Int32) := by decide
theorem zc_b96 : (Int8.ofInt (96)).toInt32 = (96 : Int32) := by decide
theorem zc_b97 : (Int8.ofInt (97)).toInt32 = (97 : Int32) := by decide
theorem zc_b98 : (Int8.ofInt (98)).toInt32 = (98 : Int32) := by decide
theorem zc_b99 : (Int8.ofInt (99)).toInt32 = (99 : Int32) := by decide
theorem zc_b100 : (Int8.ofInt (100)).toInt32 = (100 : Int32) := by decide
theorem zc_b101 : (Int8.ofInt (101)).toInt32 = (101 : Int32) := by decide
theorem zc_b104 : (Int8.ofInt (104)).toInt32 = (104 : Int32) := by decide
theorem zc_b105 : (Int8.ofInt (105)).toInt32 = (105 : Int32) := by decide
theorem zc_b109 : (Int8.ofInt (109)).toInt32 = (109 : Int32) := by decide
theorem zc_b111 : (Int8.ofInt (111)).toInt32 = (111 : Int32) := by decide
theorem zc_b112 : (Int8.ofInt (112)).toInt32 = (112 : Int32) := by decide
theorem zc_b114 : (Int8.ofInt (114)).toInt32 = (114 : Int32) := by decide
theorem zc_b115 : (Int8.ofInt (115)).toInt32 = (115 : Int32) := by decide
theorem zc_b116 : (Int8.ofInt (116)).toInt32 = (116 : Int32) := by decide
theorem zc_b119 : (Int8.ofInt (119)).toInt32 = (119 : Int32) := by decide
theorem zc_b120 : (Int8.ofInt (120)).toInt32 = (120 : Int32) := by decide
theorem zc_b124 : (Int8.ofInt (124)).toInt32 = (124 : Int32) := by decide
theorem zc_b127 : (Int8.ofInt (127)).toInt32 = (127 : Int32) := by decide
theorem zc_sm10003 : (Int16.ofInt (-10003)).toInt32 = (-10003 : Int32) := by decide
theorem zc_sm10001 : (Int16.ofInt (-10001)).toInt32 = (-10001 : Int32) := by decide
theorem zc_s200 : (Int16.ofInt (200)).toInt32 = (200 : Int32) := by decide
theorem zc_s255 : (Int16.ofInt (255)).toInt32 = (255 : Int32) := by decide
theorem zc_s341 : (Int16.ofInt (341)).toInt32 = (341 : Int32) := by decide
theorem zc_s360 : (Int16.ofInt (360)).toInt32 = (360 : Int32) := by decide
theorem zc_s600 : (Int16.ofInt (600)).toInt32 = (600 : Int32) := by decide
theorem zc_s1000 : (Int16.ofInt (1000)).toInt32 = (1000 : Int32) := by decide
theorem zc_s1023 : (Int16.ofInt (1023)).toInt32 = (1023 : Int32) := by decide
theorem zc_s1024 : (Int16.ofInt (1024)).toInt32 = (1024 : Int32) := by decide
theorem zc_s9999 : (Int16.ofInt (9999)).toInt32 = (9999 : Int32) := by decide
