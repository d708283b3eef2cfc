theorem zd_X0_init : zq_cd YX0_init 0 ∧ Cond.instanceMethod yX0_init ∈ zq_T := ⟨⟨zq_m2 48 rfl rfl, zq_m1 10 rfl rfl, ⟨by decide +kernel, by decide +kernel, by decide +kernel⟩, by decide +kernel, Nat.le_of_ble_eq_true rfl⟩, zq_m2 47 rfl rfl⟩
theorem zd_X0_forget : zq_cd YX0_forget 0 ∧ Cond.instanceMethod yX0_forget ∈ zq_T ∧ Cond.selects yX0_forget.cls yX0_forget yX0_forget ∈ zq_T := ⟨⟨zq_m5 35 rfl rfl, zq_m1 10 rfl rfl, ⟨by decide +kernel, by decide +kernel, by decide +kernel⟩, by decide +kernel, Nat.le_of_ble_eq_true rfl⟩, zq_m5 33 rfl rfl, zq_m5 34 rfl rfl⟩
theorem zd_X0_bodyAt : zq_cd YX0_bodyAt 1 ∧ Cond.instanceMethod yX0_bodyAt ∈ zq_T ∧ Cond.selects yX0_bodyAt.cls yX0_bodyAt yX0_bodyAt ∈ zq_T := ⟨⟨zq_m5 62 rfl rfl, zq_m1 10 rfl rfl, ⟨by decide +kernel, by decide +kernel, by decide +kernel⟩, by decide +kernel, Nat.le_of_ble_eq_true rfl⟩, zq_m5 60 rfl rfl, zq_m5 61 rfl rfl⟩
theorem zd_X0_start : zq_cd YX0_start 5 ∧ Cond.instanceMethod yX0_start ∈ zq_T ∧ Cond.selects yX0_start.cls yX0_start yX0_start ∈ zq_T := ⟨⟨zq_m5 39 rfl rfl, zq_m1 10 rfl rfl, ⟨by decide +kernel, by decide +kernel, by decide +kernel⟩, by decide +kernel, Nat.le_of_ble_eq_true rfl⟩, zq_m5 37 rfl rfl, zq_m5 38 rfl rfl⟩
theorem zd_X0_bodyFrom : zq_cd YX0_bodyFrom 2 ∧ Cond.static yX0_bodyFrom ∈ zq_T := ⟨⟨zq_m5 46 rfl rfl, zq_m1 10 rfl rfl, ⟨by decide +kernel, by decide +kernel, by decide +kernel⟩, by decide +kernel, Nat.le_of_ble_eq_true rfl⟩, zq_m5 45 rfl rfl⟩
theorem zd_X0_doFrom : zq_cd YX0_doFrom 4 ∧ Cond.instanceMethod yX0_doFrom ∈ zq_T ∧ Cond.selects yX0_doFrom.cls yX0_doFrom yX0_doFrom ∈ zq_T := ⟨⟨zq_m5 43 rfl rfl, zq_m1 10 rfl rfl, ⟨by decide +kernel, by decide +kernel, by decide +kernel⟩, by decide +kernel, Nat.le_of_ble_eq_true rfl⟩, zq_m5 42 rfl rfl, zq_m0 46 rfl rfl⟩
theorem zd_X0_note : zq_cd YX0_note 1 ∧ Cond.instanceMethod yX0_note ∈ zq_T ∧ Cond.selects yX0_note.cls yX0_note yX0_note ∈ zq_T := ⟨⟨zq_m5 54 rfl rfl, zq_m1 10 rfl rfl, ⟨by decide +kernel, by decide +kernel, by decide +kernel⟩, by decide +kernel, Nat.le_of_ble_eq_true rfl⟩, zq_m5 53 rfl rfl, zq_m0 47 rfl rfl⟩
theorem zd_X1_init : zq_cd YX1_init 1 ∧ Cond.instanceMethod yX1_init ∈ zq_T := ⟨⟨zq_m1 237 rfl rfl, zq_m1 7 rfl rfl, ⟨by decide +kernel, by decide +kernel, by decide +kernel⟩, by decide +kernel, Nat.le_of_ble_eq_true rfl⟩, zq_m1 236 rfl rfl⟩
theorem zd_X1_setsOfOneWithout : zq_cd YX1_setsOfOneWithout 2 ∧ Cond.static yX1_setsOfOneWithout ∈ zq_T := ⟨⟨zq_m4 149 rfl rfl, zq_m1 7 rfl rfl, ⟨by decide +kernel, by decide +kernel, by decide +kernel⟩, by decide +kernel, Nat.le_of_ble_eq_true rfl⟩, zq_m4 148 rfl rfl⟩
theorem zd_X1_fewestTill : zq_cd YX1_fewestTill 2 ∧ Cond.instanceMethod yX1_fewestTill ∈ zq_T ∧ Cond.selects yX1_fewestTill.cls yX1_fewestTill yX1_fewestTill ∈ zq_T := ⟨⟨zq_m4 108 rfl rfl, zq_m1 7 rfl rfl, ⟨by decide +kernel, by decide +kernel, by decide +kernel⟩, by decide +kernel, Nat.le_of_ble_eq_true rfl⟩, zq_m4 106 rfl rfl, zq_m4 107 rfl rfl⟩
theorem zd_X1_goOn : zq_cd YX1_goOn 0 ∧ Cond.instanceMethod yX1_goOn ∈ zq_T ∧ Cond.selects yX1_goOn.cls yX1_goOn yX1_goOn ∈ zq_T := ⟨⟨zq_m4 114 rfl rfl, zq_m1 7 rfl rfl, ⟨by decide +kernel, by decide +kernel, by decide +kernel⟩, by decide +kernel, Nat.le_of_ble_eq_true rfl⟩, zq_m4 113 rfl rfl, zq_m0 32 rfl rfl⟩
theorem zd_X1_leave : zq_cd YX1_leave 1 ∧ Cond.instanceMethod yX1_leave ∈ zq_T ∧ Cond.selects yX1_leave.cls yX1_leave yX1_leave ∈ zq_T := ⟨⟨zq_m4 118 rfl rfl, zq_m1 7 rfl rfl, ⟨by decide +kernel, by decide +kernel, by decide +kernel⟩, by decide +kernel, Nat.le_of_ble_eq_true rfl⟩, zq_m4 117 rfl rfl, zq_m0 33 rfl rfl⟩
theorem zd_X1_sayAll : zq_cd YX1_sayAll 1 ∧ Cond.instanceMethod yX1_sayAll ∈ zq_T ∧ Cond.selects yX1_sayAll.cls yX1_sayAll yX1_sayAll ∈ zq_T := ⟨⟨zq_m4 133 rfl rfl, zq_m1 7 rfl rfl, ⟨by decide +kernel, by decide +kernel, by decide +kernel⟩, by decide +kernel, Nat.le_of_ble_eq_true rfl⟩, zq_m4 132 rfl rfl, zq_m0 35 rfl rfl⟩
theorem zd_X1_tellSpeakers : zq_cd YX1_tellSpeakers 1 ∧ Cond.instanceMethod yX1_tellSpeakers ∈ zq_T ∧ Cond.selects yX1_tellSpeakers.cls yX1_tellSpeakers yX1_tellSpeakers ∈ zq_T := ⟨⟨zq_m4 127 rfl rfl, zq_m1 7 rfl rfl, ⟨by decide +kernel, by decide +kernel, by decide +kernel⟩, by decide +kernel, Nat.le_of_ble_eq_true rfl⟩, zq_m4 126 rfl rfl, zq_m0 34 rfl rfl⟩
theorem zd_X1_saidIn : zq_cd YX1_saidIn 1 ∧ Cond.instanceMethod yX1_saidIn ∈ zq_T ∧ Cond.selects yX1_saidIn.cls yX1_saidIn yX1_saidIn ∈ zq_T := ⟨⟨zq_m4 137 rfl rfl, zq_m1 7 rfl rfl, ⟨by decide +kernel, by decide +kernel, by decide +kernel⟩, by decide +kernel, Nat.le_of_ble_eq_true rfl⟩, zq_m4 136 rfl rfl, zq_m0 36 rfl rfl⟩
theorem zd_X1_knowingThen : zq_cd YX1_knowingThen 1 ∧ Cond.instanceMethod yX1_knowingThen ∈ zq_T ∧ Cond.selects yX1_knowingThen.cls yX1_knowingThen yX1_knowingThen ∈ zq_T := ⟨⟨zq_m4 142 rfl rfl, zq_m1 7 rfl rfl, ⟨by decide +kernel, by decide +kernel, by decide +kernel⟩, by decide +kernel, Nat.le_of_ble_eq_true rfl⟩, zq_m4 141 rfl rfl, zq_m0 37 rfl rfl⟩
theorem zd_X2_init : zq_cd YX2_init 0 ∧ Cond.instanceMethod yX2_init ∈ zq_T := ⟨⟨zq_m1 123 rfl rfl, zq_m1 3 rfl rfl, ⟨by decide +kernel, by decide +kernel, by decide +kernel⟩, by decide +kernel, Nat.le_of_ble_eq_true rfl⟩, zq_m1 122 rfl rfl⟩
theorem zd_X2_forget : zq_cd YX2_forget 0 ∧ Cond.instanceMethod yX2_forget ∈ zq_T ∧ Cond.selects yX2_forget.cls yX2_forget yX2_forget ∈ zq_T := ⟨⟨zq_m2 228 rfl rfl, zq_m1 3 rfl rfl, ⟨by decide +kernel, by decide +kernel, by decide +kernel⟩, by decide +kernel, Nat.le_of_ble_eq_true rfl⟩, zq_m2 226 rfl rfl, zq_m2 227 rfl rfl⟩
theorem zd_X2_addStep : zq_cd YX2_addStep 1 ∧ Cond.instanceMethod yX2_addStep ∈ zq_T ∧ Cond.selects yX2_addStep.cls yX2_addStep yX2_addStep ∈ zq_T := ⟨⟨zq_m3 151 rfl rfl, zq_m1 3 rfl rfl, ⟨by decide +kernel, by decide +kernel, by decide +kernel⟩, by decide +kernel, Nat.le_of_ble_eq_true rfl⟩, zq_m3 149 rfl rfl, zq_m3 150 rfl rfl⟩
theorem zd_X2_addTest : zq_cd YX2_addTest 3 ∧ Cond.instanceMethod yX2_addTest ∈ zq_T ∧ Cond.selects yX2_addTest.cls yX2_addTest yX2_addTest ∈ zq_T := ⟨⟨zq_m3 147 rfl rfl, zq_m1 3 rfl rfl, ⟨by decide +kernel, by decide +kernel, by decide +kernel⟩, by decide +kernel, Nat.le_of_ble_eq_true rfl⟩, zq_m3 145 rfl rfl, zq_m3 146 rfl rfl⟩
theorem zd_X2_addClause : zq_cd YX2_addClause 2 ∧ Cond.instanceMethod yX2_addClause ∈ zq_T ∧ Cond.selects yX2_addClause.cls yX2_addClause yX2_addClause ∈ zq_T := ⟨⟨zq_m3 156 rfl rfl, zq_m1 3 rfl rfl, ⟨by decide +kernel, by decide +kernel, by decide +kernel⟩, by decide +kernel, Nat.le_of_ble_eq_true rfl⟩, zq_m3 154 rfl rfl, zq_m3 155 rfl rfl⟩
theorem zd_X2_together : zq_cd YX2_together 2 ∧ Cond.instanceMethod yX2_together ∈ zq_T ∧ Cond.selects yX2_together.cls yX2_together yX2_together ∈ zq_T := ⟨⟨zq_m3 191 rfl rfl, zq_m1 3 rfl rfl, ⟨by decide +kernel, by decide +kernel, by decide +kernel⟩, by decide +kernel, Nat.le_of_ble_eq_true rfl⟩, zq_m3 189 rfl rfl, zq_m3 190 rfl rfl⟩
theorem zd_X2_hasBar : zq_cd YX2_hasBar 1 ∧ Cond.instanceMethod yX2_hasBar ∈ zq_T ∧ Cond.selects yX2_hasBar.cls yX2_hasBar yX2_hasBar ∈ zq_T := ⟨⟨zq_m3 210 rfl rfl, zq_m1 3 rfl rfl, ⟨by decide +kernel, by decide +kernel, by decide +kernel⟩, by decide +kernel, Nat.le_of_ble_eq_true rfl⟩, zq_m3 208 rfl rfl, zq_m3 209 rfl rfl⟩
theorem zd_X2_holdsIn : zq_cd YX2_holdsIn 2 ∧ Cond.instanceMethod yX2_holdsIn ∈ zq_T ∧ Cond.selects yX2_holdsIn.cls yX2_holdsIn yX2_holdsIn ∈ zq_T := ⟨⟨zq_m3 195 rfl rfl, zq_m1 3 rfl rfl, ⟨by decide +kernel, by decide +kernel, by decide +kernel⟩, by decide +kernel, Nat.le_of_ble_eq_true rfl⟩, zq_m3 194 rfl rfl, zq_m0 20 rfl rfl⟩
theorem zd_X2_testHolds : zq_cd YX2_testHolds 2 ∧ Cond.static yX2_testHolds ∈ zq_T := ⟨⟨zq_m3 198 rfl rfl, zq_m1 3 rfl rfl, ⟨by decide +kernel, by decide +kernel, by decide +kernel⟩, by decide +kernel, Nat.le_of_ble_eq_true rfl⟩, zq_m3 197 rfl rfl⟩
theorem zd_X3_init : zq_cd YX3_init 0 ∧ Cond.instanceMethod yX3_init ∈ zq_T := ⟨⟨zq_m1 153 rfl rfl, zq_m1 4 rfl rfl, ⟨by decide +kernel, by decide +kernel, by decide +kernel⟩, by decide +kernel, Nat.le_of_ble_eq_true rfl⟩, zq_m1 152 rfl rfl⟩
theorem zd_X3_readInto : zq_cd YX3_readInto 3 ∧ Cond.instanceMethod yX3_readInto ∈ zq_T ∧ Cond.selects yX3_readInto.cls yX3_readInto yX3_readInto ∈ zq_T := ⟨⟨zq_m2 224 rfl rfl, zq_m1 4 rfl rfl, ⟨by decide +kernel, by decide +kernel, by decide +kernel⟩, by decide +kernel, Nat.le_of_ble_eq_true rfl⟩, zq_m2 222 rfl rfl, zq_m2 223 rfl rfl⟩
theorem zd_X3_readClause : zq_cd YX3_readClause 0 ∧ Cond.instanceMethod yX3_readClause ∈ zq_T ∧ Cond.selects yX3_readClause.cls yX3_readClause yX3_readClause ∈ zq_T := ⟨⟨zq_m2 235 rfl rfl, zq_m1 4 rfl rfl, ⟨by decide +kernel, by decide +kernel, by decide +kernel⟩, by decide +kernel, Nat.le_of_ble_eq_true rfl⟩, zq_m2 234 rfl rfl, zq_m0 7 rfl rfl⟩
theorem zd_X3_readWord : zq_cd YX3_readWord 0 ∧ Cond.instanceMethod yX3_readWord ∈ zq_T ∧ Cond.selects yX3_readWord.cls yX3_readWord yX3_readWord ∈ zq_T := ⟨⟨zq_m2 239 rfl rfl, zq_m1 4 rfl rfl, ⟨by decide +kernel, by decide +kernel, by decide +kernel⟩, by decide +kernel, Nat.le_of_ble_eq_true rfl⟩, zq_m2 238 rfl rfl, zq_m0 8 rfl rfl⟩
theorem zd_X3_readAny : zq_cd YX3_readAny 1 ∧ Cond.instanceMethod yX3_readAny ∈ zq_T ∧ Cond.selects yX3_readAny.cls yX3_readAny yX3_readAny ∈ zq_T := ⟨⟨zq_m3 129 rfl rfl, zq_m1 4 rfl rfl, ⟨by decide +kernel, by decide +kernel, by decide +kernel⟩, by decide +kernel, Nat.le_of_ble_eq_true rfl⟩, zq_m3 128 rfl rfl, zq_m0 13 rfl rfl⟩
theorem zd_X3_readAll : zq_cd YX3_readAll 1 ∧ Cond.instanceMethod yX3_readAll ∈ zq_T ∧ Cond.selects yX3_readAll.cls yX3_readAll yX3_readAll ∈ zq_T := ⟨⟨zq_m3 133 rfl rfl, zq_m1 4 rfl rfl, ⟨by decide +kernel, by decide +kernel, by decide +kernel⟩, by decide +kernel, Nat.le_of_ble_eq_true rfl⟩, zq_m3 132 rfl rfl, zq_m0 14 rfl rfl⟩
theorem zd_X3_readOne : zq_cd YX3_readOne 1 ∧ Cond.instanceMethod yX3_readOne ∈ zq_T ∧ Cond.selects yX3_readOne.cls yX3_readOne yX3_readOne ∈ zq_T := ⟨⟨zq_m3 137 rfl rfl, zq_m1 4 rfl rfl, ⟨by decide +kernel, by decide +kernel, by decide +kernel⟩, by decide +kernel, Nat.le_of_ble_eq_true rfl⟩, zq_m3 136 rfl rfl, zq_m0 15 rfl rfl⟩
theorem zd_X3_readTest : zq_cd YX3_readTest 0 ∧ Cond.instanceMethod yX3_readTest ∈ zq_T ∧ Cond.selects yX3_readTest.cls yX3_readTest yX3_readTest ∈ zq_T := ⟨⟨zq_m3 141 rfl rfl, zq_m1 4 rfl rfl, ⟨by decide +kernel, by decide +kernel, by decide +kernel⟩, by decide +kernel, Nat.le_of_ble_eq_true rfl⟩, zq_m3 140 rfl rfl, zq_m0 16 rfl rfl⟩
theorem zd_X3_readNumber : zq_cd YX3_readNumber 0 ∧ Cond.instanceMethod yX3_readNumber ∈ zq_T ∧ Cond.selects yX3_readNumber.cls yX3_readNumber yX3_readNumber ∈ zq_T := ⟨⟨zq_m3 63 rfl rfl, zq_m1 4 rfl rfl, ⟨by decide +kernel, by decide +kernel, by decide +kernel⟩, by decide +kernel, Nat.le_of_ble_eq_true rfl⟩, zq_m3 62 rfl rfl, zq_m0 11 rfl rfl⟩
theorem zd_X3_eat : zq_cd YX3_eat 1 ∧ Cond.instanceMethod yX3_eat ∈ zq_T ∧ Cond.selects yX3_eat.cls yX3_eat yX3_eat ∈ zq_T := ⟨⟨zq_m3 56 rfl rfl, zq_m1 4 rfl rfl, ⟨by decide +kernel, by decide +kernel, by decide +kernel⟩, by decide +kernel, Nat.le_of_ble_eq_true rfl⟩, zq_m3 55 rfl rfl, zq_m0 10 rfl rfl⟩
theorem zd_X3_eatAll : zq_cd YX3_eatAll 1 ∧ Cond.instanceMethod yX3_eatAll ∈ zq_T ∧ Cond.selects yX3_eatAll.cls yX3_eatAll yX3_eatAll ∈ zq_T := ⟨⟨zq_m3 4 rfl rfl, zq_m1 4 rfl rfl, ⟨by decide +kernel, by decide +kernel, by decide +kernel⟩, by decide +kernel, Nat.le_of_ble_eq_true rfl⟩, zq_m3 3 rfl rfl, zq_m0 9 rfl rfl⟩
theorem zd_X3_eatOneOf : zq_cd YX3_eatOneOf 1 ∧ Cond.instanceMethod yX3_eatOneOf ∈ zq_T ∧ Cond.selects yX3_eatOneOf.cls yX3_eatOneOf yX3_eatOneOf ∈ zq_T := ⟨⟨zq_m3 68 rfl rfl, zq_m1 4 rfl rfl, ⟨by decide +kernel, by decide +kernel, by decide +kernel⟩, by decide +kernel, Nat.le_of_ble_eq_true rfl⟩, zq_m3 67 rfl rfl, zq_m0 12 rfl rfl⟩
theorem zd_X4_init : zq_cd YX4_init 1 ∧ Cond.instanceMethod yX4_init ∈ zq_T := ⟨⟨zq_m2 35 rfl rfl, zq_m1 9 rfl rfl, ⟨by decide +kernel, by decide +kernel, by decide +kernel⟩, by decide +kernel, Nat.le_of_ble_eq_true rfl⟩, zq_m2 34 rfl rfl⟩
theorem zd_X4_fitting : zq_cd YX4_fitting 0 ∧ Cond.instanceMethod yX4_fitting ∈ zq_T ∧ Cond.selects yX4_fitting.cls yX4_fitting yX4_fitting ∈ zq_T := ⟨⟨zq_m4 182 rfl rfl, zq_m1 9 rfl rfl, ⟨by decide +kernel, by decide +kernel, by decide +kernel⟩, by decide +kernel, Nat.le_of_ble_eq_true rfl⟩, zq_m4 180 rfl rfl, zq_m4 181 rfl rfl⟩
theorem zd_X4_fittingFrom : zq_cd YX4_fittingFrom 2 ∧ Cond.instanceMethod yX4_fittingFrom ∈ zq_T ∧ Cond.selects yX4_fittingFrom.cls yX4_fittingFrom yX4_fittingFrom ∈ zq_T := ⟨⟨zq_m4 186 rfl rfl, zq_m1 9 rfl rfl, ⟨by decide +kernel, by decide +kernel, by decide +kernel⟩, by decide +kernel, Nat.le_of_ble_eq_true rfl⟩, zq_m4 185 rfl rfl, zq_m0 39 rfl rfl⟩
theorem zd_X4_goesWithAll : zq_cd YX4_goesWithAll 0 ∧ Cond.instanceMethod yX4_goesWithAll ∈ zq_T ∧ Cond.selects yX4_goesWithAll.cls yX4_goesWithAll yX4_goesWithAll ∈ zq_T := ⟨⟨zq_m4 190 rfl rfl, zq_m1 9 rfl rfl, ⟨by decide +kernel, by decide +kernel, by decide +kernel⟩, by decide +kernel, Nat.le_of_ble_eq_true rfl⟩, zq_m4 189 rfl rfl, zq_m0 40 rfl rfl⟩
theorem zd_X4_isMiddle : zq_cd YX4_isMiddle 2 ∧ Cond.instanceMethod yX4_isMiddle ∈ zq_T ∧ Cond.selects yX4_isMiddle.cls yX4_isMiddle yX4_isMiddle ∈ zq_T := ⟨⟨zq_m4 194 rfl rfl, zq_m1 9 rfl rfl, ⟨by decide +kernel, by decide +kernel, by decide +kernel⟩, by decide +kernel, Nat.le_of_ble_eq_true rfl⟩, zq_m4 193 rfl rfl, zq_m0 41 rfl rfl⟩
theorem zd_X5_init : zq_cd YX5_init 0 ∧ Cond.instanceMethod yX5_init ∈ zq_T := ⟨⟨zq_m1 34 rfl rfl, zq_m1 2 rfl rfl, ⟨by decide +kernel, by decide +kernel, by decide +kernel⟩, by decide +kernel, Nat.le_of_ble_eq_true rfl⟩, zq_m1 33 rfl rfl⟩
theorem zd_X5_addPerson : zq_cd YX5_addPerson 3 ∧ Cond.instanceMethod yX5_addPerson ∈ zq_T ∧ Cond.selects yX5_addPerson.cls yX5_addPerson yX5_addPerson ∈ zq_T := ⟨⟨zq_m2 149 rfl rfl, zq_m1 2 rfl rfl, ⟨by decide +kernel, by decide +kernel, by decide +kernel⟩, by decide +kernel, Nat.le_of_ble_eq_true rfl⟩, zq_m2 147 rfl rfl, zq_m2 148 rfl rfl⟩
theorem zd_X5_everybody : zq_cd YX5_everybody 0 ∧ Cond.instanceMethod yX5_everybody ∈ zq_T ∧ Cond.selects yX5_everybody.cls yX5_everybody yX5_everybody ∈ zq_T := ⟨⟨zq_m4 37 rfl rfl, zq_m1 2 rfl rfl, ⟨by decide +kernel, by decide +kernel, by decide +kernel⟩, by decide +kernel, Nat.le_of_ble_eq_true rfl⟩, zq_m4 35 rfl rfl, zq_m4 36 rfl rfl⟩
theorem zd_X5_whoIsAt : zq_cd YX5_whoIsAt 1 ∧ Cond.instanceMethod yX5_whoIsAt ∈ zq_T ∧ Cond.selects yX5_whoIsAt.cls yX5_whoIsAt yX5_whoIsAt ∈ zq_T := ⟨⟨zq_m2 177 rfl rfl, zq_m1 2 rfl rfl, ⟨by decide +kernel, by decide +kernel, by decide +kernel⟩, by decide +kernel, Nat.le_of_ble_eq_true rfl⟩, zq_m2 175 rfl rfl, zq_m2 176 rfl rfl⟩
theorem zd_X5_isKnown : zq_cd YX5_isKnown 2 ∧ Cond.instanceMethod yX5_isKnown ∈ zq_T ∧ Cond.selects yX5_isKnown.cls yX5_isKnown yX5_isKnown ∈ zq_T := ⟨⟨zq_m3 226 rfl rfl, zq_m1 2 rfl rfl, ⟨by decide +kernel, by decide +kernel, by decide +kernel⟩, by decide +kernel, Nat.le_of_ble_eq_true rfl⟩, zq_m3 224 rfl rfl, zq_m3 225 rfl rfl⟩
theorem zd_X5_whoKnows : zq_cd YX5_whoKnows 1 ∧ Cond.instanceMethod yX5_whoKnows ∈ zq_T ∧ Cond.selects yX5_whoKnows.cls yX5_whoKnows yX5_whoKnows ∈ zq_T := ⟨⟨zq_m4 102 rfl rfl, zq_m1 2 rfl rfl, ⟨by decide +kernel, by decide +kernel, by decide +kernel⟩, by decide +kernel, Nat.le_of_ble_eq_true rfl⟩, zq_m4 100 rfl rfl, zq_m4 101 rfl rfl⟩
theorem zd_X5_copyFrom : zq_cd YX5_copyFrom 1 ∧ Cond.instanceMethod yX5_copyFrom ∈ zq_T ∧ Cond.selects yX5_copyFrom.cls yX5_copyFrom yX5_copyFrom ∈ zq_T := ⟨⟨zq_m5 22 rfl rfl, zq_m1 2 rfl rfl, ⟨by decide +kernel, by decide +kernel, by decide +kernel⟩, by decide +kernel, Nat.le_of_ble_eq_true rfl⟩, zq_m5 20 rfl rfl, zq_m5 21 rfl rfl⟩
theorem zd_X6_init : zq_cd YX6_init 2 ∧ Cond.instanceMethod yX6_init ∈ zq_T := ⟨⟨zq_m1 174 rfl rfl, zq_m1 5 rfl rfl, ⟨by decide +kernel, by decide +kernel, by decide +kernel⟩, by decide +kernel, Nat.le_of_ble_eq_true rfl⟩, zq_m1 173 rfl rfl⟩
theorem zd_X6_look : zq_cd YX6_look 1 ∧ Cond.instanceMethod yX6_look ∈ zq_T ∧ Cond.selects yX6_look.cls yX6_look yX6_look ∈ zq_T := ⟨⟨zq_m2 173 rfl rfl, zq_m1 5 rfl rfl, ⟨by decide +kernel, by decide +kernel, by decide +kernel⟩, by decide +kernel, Nat.le_of_ble_eq_true rfl⟩, zq_m2 171 rfl rfl, zq_m2 172 rfl rfl⟩
theorem zd_X6_priceOf : zq_cd YX6_priceOf 3 ∧ Cond.instanceMethod yX6_priceOf ∈ zq_T ∧ Cond.selects yX6_priceOf.cls yX6_priceOf yX6_priceOf ∈ zq_T := ⟨⟨zq_m3 183 rfl rfl, zq_m1 5 rfl rfl, ⟨by decide +kernel, by decide +kernel, by decide +kernel⟩, by decide +kernel, Nat.le_of_ble_eq_true rfl⟩, zq_m3 181 rfl rfl, zq_m3 182 rfl rfl⟩
theorem zd_X6_isBarred : zq_cd YX6_isBarred 3 ∧ Cond.instanceMethod yX6_isBarred ∈ zq_T ∧ Cond.selects yX6_isBarred.cls yX6_isBarred yX6_isBarred ∈ zq_T := ⟨⟨zq_m3 206 rfl rfl, zq_m1 5 rfl rfl, ⟨by decide +kernel, by decide +kernel, by decide +kernel⟩, by decide +kernel, Nat.le_of_ble_eq_true rfl⟩, zq_m3 204 rfl rfl, zq_m3 205 rfl rfl⟩
theorem zd_X6_worthTo : zq_cd YX6_worthTo 3 ∧ Cond.instanceMethod yX6_worthTo ∈ zq_T ∧ Cond.selects yX6_worthTo.cls yX6_worthTo yX6_worthTo ∈ zq_T := ⟨⟨zq_m3 230 rfl rfl, zq_m1 5 rfl rfl, ⟨by decide +kernel, by decide +kernel, by decide +kernel⟩, by decide +kernel, Nat.le_of_ble_eq_true rfl⟩, zq_m3 228 rfl rfl, zq_m3 229 rfl rfl⟩
theorem zd_X6_setFacts : zq_cd YX6_setFacts 4 ∧ Cond.instanceMethod yX6_setFacts ∈ zq_T ∧ Cond.selects yX6_setFacts.cls yX6_setFacts yX6_setFacts ∈ zq_T := ⟨⟨zq_m3 187 rfl rfl, zq_m1 5 rfl rfl, ⟨by decide +kernel, by decide +kernel, by decide +kernel⟩, by decide +kernel, Nat.le_of_ble_eq_true rfl⟩, zq_m3 186 rfl rfl, zq_m0 19 rfl rfl⟩
theorem zd_X6_tellComings : zq_cd YX6_tellComings 0 ∧ Cond.instanceMethod yX6_tellComings ∈ zq_T ∧ Cond.selects yX6_tellComings.cls yX6_tellComings yX6_tellComings ∈ zq_T := ⟨⟨zq_m4 4 rfl rfl, zq_m1 5 rfl rfl, ⟨by decide +kernel, by decide +kernel, by decide +kernel⟩, by decide +kernel, Nat.le_of_ble_eq_true rfl⟩, zq_m4 2 rfl rfl, zq_m4 3 rfl rfl⟩
theorem zd_X6_slotOf : zq_cd YX6_slotOf 3 ∧ Cond.static yX6_slotOf ∈ zq_T := ⟨⟨zq_m4 7 rfl rfl, zq_m1 5 rfl rfl, ⟨by decide +kernel, by decide +kernel, by decide +kernel⟩, by decide +kernel, Nat.le_of_ble_eq_true rfl⟩, zq_m4 6 rfl rfl⟩
theorem zd_X6_packedNow : zq_cd YX6_packedNow 0 ∧ Cond.instanceMethod yX6_packedNow ∈ zq_T ∧ Cond.selects yX6_packedNow.cls yX6_packedNow yX6_packedNow ∈ zq_T := ⟨⟨zq_m4 25 rfl rfl, zq_m1 5 rfl rfl, ⟨by decide +kernel, by decide +kernel, by decide +kernel⟩, by decide +kernel, Nat.le_of_ble_eq_true rfl⟩, zq_m4 23 rfl rfl, zq_m4 24 rfl rfl⟩
theorem zd_X6_moved : zq_cd YX6_moved 3 ∧ Cond.static yX6_moved ∈ zq_T := ⟨⟨zq_m4 61 rfl rfl, zq_m1 5 rfl rfl, ⟨by decide +kernel, by decide +kernel, by decide +kernel⟩, by decide +kernel, Nat.le_of_ble_eq_true rfl⟩, zq_m4 60 rfl rfl⟩
theorem zd_X6_whoIsAt : zq_cd YX6_whoIsAt 2 ∧ Cond.instanceMethod yX6_whoIsAt ∈ zq_T ∧ Cond.selects yX6_whoIsAt.cls yX6_whoIsAt yX6_whoIsAt ∈ zq_T := ⟨⟨zq_m4 42 rfl rfl, zq_m1 5 rfl rfl, ⟨by decide +kernel, by decide +kernel, by decide +kernel⟩, by decide +kernel, Nat.le_of_ble_eq_true rfl⟩, zq_m4 40 rfl rfl, zq_m4 41 rfl rfl⟩
theorem zd_X6_numberAt : zq_cd YX6_numberAt 2 ∧ Cond.instanceMethod yX6_numberAt ∈ zq_T ∧ Cond.selects yX6_numberAt.cls yX6_numberAt yX6_numberAt ∈ zq_T := ⟨⟨zq_m4 58 rfl rfl, zq_m1 5 rfl rfl, ⟨by decide +kernel, by decide +kernel, by decide +kernel⟩, by decide +kernel, Nat.le_of_ble_eq_true rfl⟩, zq_m4 57 rfl rfl, zq_m0 28 rfl rfl⟩
theorem zd_X6_mayCome : zq_cd YX6_mayCome 3 ∧ Cond.instanceMethod yX6_mayCome ∈ zq_T ∧ Cond.selects yX6_mayCome.cls yX6_mayCome yX6_mayCome ∈ zq_T := ⟨⟨zq_m4 54 rfl rfl, zq_m1 5 rfl rfl, ⟨by decide +kernel, by decide +kernel, by decide +kernel⟩, by decide +kernel, Nat.le_of_ble_eq_true rfl⟩, zq_m4 52 rfl rfl, zq_m4 53 rfl rfl⟩
theorem zd_X6_priceFrom : zq_cd YX6_priceFrom 3 ∧ Cond.instanceMethod yX6_priceFrom ∈ zq_T ∧ Cond.selects yX6_priceFrom.cls yX6_priceFrom yX6_priceFrom ∈ zq_T := ⟨⟨zq_m4 69 rfl rfl, zq_m1 5 rfl rfl, ⟨by decide +kernel, by decide +kernel, by decide +kernel⟩, by decide +kernel, Nat.le_of_ble_eq_true rfl⟩, zq_m4 67 rfl rfl, zq_m4 68 rfl rfl⟩
theorem zd_X6_speakers : zq_cd YX6_speakers 3 ∧ Cond.instanceMethod yX6_speakers ∈ zq_T ∧ Cond.selects yX6_speakers.cls yX6_speakers yX6_speakers ∈ zq_T := ⟨⟨zq_m2 181 rfl rfl, zq_m1 5 rfl rfl, ⟨by decide +kernel, by decide +kernel, by decide +kernel⟩, by decide +kernel, Nat.le_of_ble_eq_true rfl⟩, zq_m2 179 rfl rfl, zq_m2 180 rfl rfl⟩
theorem zd_X6_lineUp : zq_cd YX6_lineUp 2 ∧ Cond.instanceMethod yX6_lineUp ∈ zq_T ∧ Cond.selects yX6_lineUp.cls yX6_lineUp yX6_lineUp ∈ zq_T := ⟨⟨zq_m2 188 rfl rfl, zq_m1 5 rfl rfl, ⟨by decide +kernel, by decide +kernel, by decide +kernel⟩, by decide +kernel, Nat.le_of_ble_eq_true rfl⟩, zq_m2 187 rfl rfl, zq_m0 4 rfl rfl⟩
theorem zd_X6_placeInLine : zq_cd YX6_placeInLine 4 ∧ Cond.static yX6_placeInLine ∈ zq_T := ⟨⟨zq_m2 191 rfl rfl, zq_m1 5 rfl rfl, ⟨by decide +kernel, by decide +kernel, by decide +kernel⟩, by decide +kernel, Nat.le_of_ble_eq_true rfl⟩, zq_m2 190 rfl rfl⟩
theorem zd_X6_withoutNear : zq_cd YX6_withoutNear 3 ∧ Cond.instanceMethod yX6_withoutNear ∈ zq_T ∧ Cond.selects yX6_withoutNear.cls yX6_withoutNear yX6_withoutNear ∈ zq_T := ⟨⟨zq_m2 195 rfl rfl, zq_m1 5 rfl rfl, ⟨by decide +kernel, by decide +kernel, by decide +kernel⟩, by decide +kernel, Nat.le_of_ble_eq_true rfl⟩, zq_m2 194 rfl rfl, zq_m0 5 rfl rfl⟩
theorem zd_X6_isNearAnother : zq_cd YX6_isNearAnother 3 ∧ Cond.instanceMethod yX6_isNearAnother ∈ zq_T ∧ Cond.selects yX6_isNearAnother.cls yX6_isNearAnother yX6_isNearAnother ∈ zq_T := ⟨⟨zq_m2 199 rfl rfl, zq_m1 5 rfl rfl, ⟨by decide +kernel, by decide +kernel, by decide +kernel⟩, by decide +kernel, Nat.le_of_ble_eq_true rfl⟩, zq_m2 198 rfl rfl, zq_m0 6 rfl rfl⟩
theorem zd_X6_sayable : zq_cd YX6_sayable 0 ∧ Cond.instanceMethod yX6_sayable ∈ zq_T ∧ Cond.selects yX6_sayable.cls yX6_sayable yX6_sayable ∈ zq_T := ⟨⟨zq_m4 228 rfl rfl, zq_m1 5 rfl rfl, ⟨by decide +kernel, by decide +kernel, by decide +kernel⟩, by decide +kernel, Nat.le_of_ble_eq_true rfl⟩, zq_m4 226 rfl rfl, zq_m4 227 rfl rfl⟩
theorem zd_X6_isSaid : zq_cd YX6_isSaid 2 ∧ Cond.instanceMethod yX6_isSaid ∈ zq_T ∧ Cond.selects yX6_isSaid.cls yX6_isSaid yX6_isSaid ∈ zq_T := ⟨⟨zq_m4 233 rfl rfl, zq_m1 5 rfl rfl, ⟨by decide +kernel, by decide +kernel, by decide +kernel⟩, by decide +kernel, Nat.le_of_ble_eq_true rfl⟩, zq_m4 232 rfl rfl, zq_m0 44 rfl rfl⟩
theorem zd_X7_init : zq_cd YX7_init 0 ∧ Cond.instanceMethod yX7_init ∈ zq_T := ⟨⟨zq_m2 72 rfl rfl, zq_m1 11 rfl rfl, ⟨by decide +kernel, by decide +kernel, by decide +kernel⟩, by decide +kernel, Nat.le_of_ble_eq_true rfl⟩, zq_m2 71 rfl rfl⟩
theorem zd_X7_holdsRow : zq_cd YX7_holdsRow 0 ∧ Cond.instanceMethod yX7_holdsRow ∈ zq_T ∧ Cond.selects yX7_holdsRow.cls yX7_holdsRow yX7_holdsRow ∈ zq_T := ⟨⟨zq_m5 6 rfl rfl, zq_m1 11 rfl rfl, ⟨by decide +kernel, by decide +kernel, by decide +kernel⟩, by decide +kernel, Nat.le_of_ble_eq_true rfl⟩, zq_m5 4 rfl rfl, zq_m5 5 rfl rfl⟩
theorem zd_X7_holdNothing : zq_cd YX7_holdNothing 0 ∧ Cond.instanceMethod yX7_holdNothing ∈ zq_T ∧ Cond.selects yX7_holdNothing.cls yX7_holdNothing yX7_holdNothing ∈ zq_T := ⟨⟨zq_m5 84 rfl rfl, zq_m1 11 rfl rfl, ⟨by decide +kernel, by decide +kernel, by decide +kernel⟩, by decide +kernel, Nat.le_of_ble_eq_true rfl⟩, zq_m5 82 rfl rfl, zq_m5 83 rfl rfl⟩
theorem zd_X7_holdZeros : zq_cd YX7_holdZeros 2 ∧ Cond.instanceMethod yX7_holdZeros ∈ zq_T ∧ Cond.selects yX7_holdZeros.cls yX7_holdZeros yX7_holdZeros ∈ zq_T := ⟨⟨zq_m5 88 rfl rfl, zq_m1 11 rfl rfl, ⟨by decide +kernel, by decide +kernel, by decide +kernel⟩, by decide +kernel, Nat.le_of_ble_eq_true rfl⟩, zq_m5 86 rfl rfl, zq_m5 87 rfl rfl⟩
theorem zd_X7_hasPlace : zq_cd YX7_hasPlace 1 ∧ Cond.instanceMethod yX7_hasPlace ∈ zq_T ∧ Cond.selects yX7_hasPlace.cls yX7_hasPlace yX7_hasPlace ∈ zq_T := ⟨⟨zq_m5 14 rfl rfl, zq_m1 11 rfl rfl, ⟨by decide +kernel, by decide +kernel, by decide +kernel⟩, by decide +kernel, Nat.le_of_ble_eq_true rfl⟩, zq_m5 12 rfl rfl, zq_m5 13 rfl rfl⟩
theorem zd_X7_hasPart : zq_cd YX7_hasPart 2 ∧ Cond.instanceMethod yX7_hasPart ∈ zq_T ∧ Cond.selects yX7_hasPart.cls yX7_hasPart yX7_hasPart ∈ zq_T := ⟨⟨zq_m5 115 rfl rfl, zq_m1 11 rfl rfl, ⟨by decide +kernel, by decide +kernel, by decide +kernel⟩, by decide +kernel, Nat.le_of_ble_eq_true rfl⟩, zq_m5 113 rfl rfl, zq_m5 114 rfl rfl⟩
theorem zd_X7_put : zq_cd YX7_put 2 ∧ Cond.instanceMethod yX7_put ∈ zq_T ∧ Cond.selects yX7_put.cls yX7_put yX7_put ∈ zq_T := ⟨⟨zq_m5 99 rfl rfl, zq_m1 11 rfl rfl, ⟨by decide +kernel, by decide +kernel, by decide +kernel⟩, by decide +kernel, Nat.le_of_ble_eq_true rfl⟩, zq_m5 97 rfl rfl, zq_m5 98 rfl rfl⟩
theorem zd_X7_narrowed : zq_cd YX7_narrowed 1 ∧ Cond.instanceMethod yX7_narrowed ∈ zq_T ∧ Cond.selects yX7_narrowed.cls yX7_narrowed yX7_narrowed ∈ zq_T := ⟨⟨zq_m5 103 rfl rfl, zq_m1 11 rfl rfl, ⟨by decide +kernel, by decide +kernel, by decide +kernel⟩, by decide +kernel, Nat.le_of_ble_eq_true rfl⟩, zq_m5 102 rfl rfl, zq_m0 48 rfl rfl⟩
theorem zd_X8_init : zq_cd YX8_init 1 ∧ Cond.instanceMethod yX8_init ∈ zq_T := ⟨⟨zq_m2 25 rfl rfl, zq_m1 8 rfl rfl, ⟨by decide +kernel, by decide +kernel, by decide +kernel⟩, by decide +kernel, Nat.le_of_ble_eq_true rfl⟩, zq_m2 24 rfl rfl⟩
theorem zd_X8_canWin : zq_cd YX8_canWin 3 ∧ Cond.instanceMethod yX8_canWin ∈ zq_T ∧ Cond.selects yX8_canWin.cls yX8_canWin yX8_canWin ∈ zq_T := ⟨⟨zq_m4 157 rfl rfl, zq_m1 8 rfl rfl, ⟨by decide +kernel, by decide +kernel, by decide +kernel⟩, by decide +kernel, Nat.le_of_ble_eq_true rfl⟩, zq_m4 155 rfl rfl, zq_m4 156 rfl rfl⟩
theorem zd_X8_wins : zq_cd YX8_wins 6 ∧ Cond.instanceMethod yX8_wins ∈ zq_T ∧ Cond.selects yX8_wins.cls yX8_wins yX8_wins ∈ zq_T := ⟨⟨zq_m4 162 rfl rfl, zq_m1 8 rfl rfl, ⟨by decide +kernel, by decide +kernel, by decide +kernel⟩, by decide +kernel, Nat.le_of_ble_eq_true rfl⟩, zq_m4 161 rfl rfl, zq_m0 38 rfl rfl⟩
theorem zd_X8_oddsOfSpeaking : zq_cd YX8_oddsOfSpeaking 3 ∧ Cond.instanceMethod yX8_oddsOfSpeaking ∈ zq_T ∧ Cond.selects yX8_oddsOfSpeaking.cls yX8_oddsOfSpeaking yX8_oddsOfSpeaking ∈ zq_T := ⟨⟨zq_m4 204 rfl rfl, zq_m1 8 rfl rfl, ⟨by decide +kernel, by decide +kernel, by decide +kernel⟩, by decide +kernel, Nat.le_of_ble_eq_true rfl⟩, zq_m4 202 rfl rfl, zq_m4 203 rfl rfl⟩
theorem zd_X8_sharesSpeaking : zq_cd YX8_sharesSpeaking 5 ∧ Cond.instanceMethod yX8_sharesSpeaking ∈ zq_T ∧ Cond.selects yX8_sharesSpeaking.cls yX8_sharesSpeaking yX8_sharesSpeaking ∈ zq_T := ⟨⟨zq_m4 209 rfl rfl, zq_m1 8 rfl rfl, ⟨by decide +kernel, by decide +kernel, by decide +kernel⟩, by decide +kernel, Nat.le_of_ble_eq_true rfl⟩, zq_m4 208 rfl rfl, zq_m0 42 rfl rfl⟩
theorem zd_X8_waysOn : zq_cd YX8_waysOn 1 ∧ Cond.instanceMethod yX8_waysOn ∈ zq_T ∧ Cond.selects yX8_waysOn.cls yX8_waysOn yX8_waysOn ∈ zq_T := ⟨⟨zq_m4 213 rfl rfl, zq_m1 8 rfl rfl, ⟨by decide +kernel, by decide +kernel, by decide +kernel⟩, by decide +kernel, Nat.le_of_ble_eq_true rfl⟩, zq_m4 212 rfl rfl, zq_m0 43 rfl rfl⟩
theorem zd_X8_greatestDivisor : zq_cd YX8_greatestDivisor 2 ∧ Cond.static yX8_greatestDivisor ∈ zq_T := ⟨⟨zq_m4 216 rfl rfl, zq_m1 8 rfl rfl, ⟨by decide +kernel, by decide +kernel, by decide +kernel⟩, by decide +kernel, Nat.le_of_ble_eq_true rfl⟩, zq_m4 215 rfl rfl⟩
theorem zd_X9_init : zq_cd YX9_init 1 ∧ Cond.instanceMethod yX9_init ∈ zq_T := ⟨⟨zq_m1 206 rfl rfl, zq_m1 6 rfl rfl, ⟨by decide +kernel, by decide +kernel, by decide +kernel⟩, by decide +kernel, Nat.le_of_ble_eq_true rfl⟩, zq_m1 205 rfl rfl⟩
theorem zd_X9_fewestComings : zq_cd YX9_fewestComings 3 ∧ Cond.instanceMethod yX9_fewestComings ∈ zq_T ∧ Cond.selects yX9_fewestComings.cls yX9_fewestComings yX9_fewestComings ∈ zq_T := ⟨⟨zq_m4 13 rfl rfl, zq_m1 6 rfl rfl, ⟨by decide +kernel, by decide +kernel, by decide +kernel⟩, by decide +kernel, Nat.le_of_ble_eq_true rfl⟩, zq_m4 11 rfl rfl, zq_m4 12 rfl rfl⟩
theorem zd_X9_leastCost : zq_cd YX9_leastCost 3 ∧ Cond.instanceMethod yX9_leastCost ∈ zq_T ∧ Cond.selects yX9_leastCost.cls yX9_leastCost yX9_leastCost ∈ zq_T := ⟨⟨zq_m4 82 rfl rfl, zq_m1 6 rfl rfl, ⟨by decide +kernel, by decide +kernel, by decide +kernel⟩, by decide +kernel, Nat.le_of_ble_eq_true rfl⟩, zq_m4 80 rfl rfl, zq_m4 81 rfl rfl⟩
theorem zd_X9_whoNeverCan : zq_cd YX9_whoNeverCan 1 ∧ Cond.instanceMethod yX9_whoNeverCan ∈ zq_T ∧ Cond.selects yX9_whoNeverCan.cls yX9_whoNeverCan yX9_whoNeverCan ∈ zq_T := ⟨⟨zq_m4 90 rfl rfl, zq_m1 6 rfl rfl, ⟨by decide +kernel, by decide +kernel, by decide +kernel⟩, by decide +kernel, Nat.le_of_ble_eq_true rfl⟩, zq_m4 88 rfl rfl, zq_m4 89 rfl rfl⟩
theorem zd_X9_begin : zq_cd YX9_begin 1 ∧ Cond.instanceMethod yX9_begin ∈ zq_T ∧ Cond.selects yX9_begin.cls yX9_begin yX9_begin ∈ zq_T := ⟨⟨zq_m4 17 rfl rfl, zq_m1 6 rfl rfl, ⟨by decide +kernel, by decide +kernel, by decide +kernel⟩, by decide +kernel, Nat.le_of_ble_eq_true rfl⟩, zq_m4 16 rfl rfl, zq_m0 23 rfl rfl⟩
theorem zd_X9_goOn : zq_cd YX9_goOn 0 ∧ Cond.instanceMethod yX9_goOn ∈ zq_T ∧ Cond.selects yX9_goOn.cls yX9_goOn yX9_goOn ∈ zq_T := ⟨⟨zq_m4 46 rfl rfl, zq_m1 6 rfl rfl, ⟨by decide +kernel, by decide +kernel, by decide +kernel⟩, by decide +kernel, Nat.le_of_ble_eq_true rfl⟩, zq_m4 45 rfl rfl, zq_m0 26 rfl rfl⟩
theorem zd_X9_leave : zq_cd YX9_leave 1 ∧ Cond.instanceMethod yX9_leave ∈ zq_T ∧ Cond.selects yX9_leave.cls yX9_leave yX9_leave ∈ zq_T := ⟨⟨zq_m4 50 rfl rfl, zq_m1 6 rfl rfl, ⟨by decide +kernel, by decide +kernel, by decide +kernel⟩, by decide +kernel, Nat.le_of_ble_eq_true rfl⟩, zq_m4 49 rfl rfl, zq_m0 27 rfl rfl⟩
theorem zd_X9_carried : zq_cd YX9_carried 3 ∧ Cond.instanceMethod yX9_carried ∈ zq_T ∧ Cond.selects yX9_carried.cls yX9_carried yX9_carried ∈ zq_T := ⟨⟨zq_m4 65 rfl rfl, zq_m1 6 rfl rfl, ⟨by decide +kernel, by decide +kernel, by decide +kernel⟩, by decide +kernel, Nat.le_of_ble_eq_true rfl⟩, zq_m4 64 rfl rfl, zq_m0 29 rfl rfl⟩
theorem zd_X9_takeNext : zq_cd YX9_takeNext 0 ∧ Cond.instanceMethod yX9_takeNext ∈ zq_T ∧ Cond.selects yX9_takeNext.cls yX9_takeNext yX9_takeNext ∈ zq_T := ⟨⟨zq_m4 74 rfl rfl, zq_m1 6 rfl rfl, ⟨by decide +kernel, by decide +kernel, by decide +kernel⟩, by decide +kernel, Nat.le_of_ble_eq_true rfl⟩, zq_m4 73 rfl rfl, zq_m0 30 rfl rfl⟩
theorem zd_X9_tellSpeakers : zq_cd YX9_tellSpeakers 1 ∧ Cond.instanceMethod yX9_tellSpeakers ∈ zq_T ∧ Cond.selects yX9_tellSpeakers.cls yX9_tellSpeakers yX9_tellSpeakers ∈ zq_T := ⟨⟨zq_m4 33 rfl rfl, zq_m1 6 rfl rfl, ⟨by decide +kernel, by decide +kernel, by decide +kernel⟩, by decide +kernel, Nat.le_of_ble_eq_true rfl⟩, zq_m4 32 rfl rfl, zq_m0 25 rfl rfl⟩
theorem zd_X9_leastWith : zq_cd YX9_leastWith 2 ∧ Cond.instanceMethod yX9_leastWith ∈ zq_T ∧ Cond.selects yX9_leastWith.cls yX9_leastWith yX9_leastWith ∈ zq_T := ⟨⟨zq_m4 29 rfl rfl, zq_m1 6 rfl rfl, ⟨by decide +kernel, by decide +kernel, by decide +kernel⟩, by decide +kernel, Nat.le_of_ble_eq_true rfl⟩, zq_m4 28 rfl rfl, zq_m0 24 rfl rfl⟩
theorem zd_X9_whoCanSpeak : zq_cd YX9_whoCanSpeak 1 ∧ Cond.instanceMethod yX9_whoCanSpeak ∈ zq_T ∧ Cond.selects yX9_whoCanSpeak.cls yX9_whoCanSpeak yX9_whoCanSpeak ∈ zq_T := ⟨⟨zq_m4 94 rfl rfl, zq_m1 6 rfl rfl, ⟨by decide +kernel, by decide +kernel, by decide +kernel⟩, by decide +kernel, Nat.le_of_ble_eq_true rfl⟩, zq_m4 93 rfl rfl, zq_m0 31 rfl rfl⟩
theorem zd_X10_init : zq_cd YX10_init 0 ∧ Cond.instanceMethod yX10_init ∈ zq_T := ⟨⟨zq_m1 26 rfl rfl, zq_m1 1 rfl rfl, ⟨by decide +kernel, by decide +kernel, by decide +kernel⟩, by decide +kernel, Nat.le_of_ble_eq_true rfl⟩, zq_m1 25 rfl rfl⟩
theorem zd_X10_person : zq_cd YX10_person 3 ∧ Cond.instanceMethod yX10_person ∈ zq_T ∧ Cond.selects yX10_person.cls yX10_person yX10_person ∈ zq_T := ⟨⟨zq_m2 139 rfl rfl, zq_m1 1 rfl rfl, ⟨by decide +kernel, by decide +kernel, by decide +kernel⟩, by decide +kernel, Nat.le_of_ble_eq_true rfl⟩, zq_m2 137 rfl rfl, zq_m2 138 rfl rfl⟩
theorem zd_X10_of : zq_cd YX10_of 2 ∧ Cond.instanceMethod yX10_of ∈ zq_T ∧ Cond.selects yX10_of.cls yX10_of yX10_of ∈ zq_T := ⟨⟨zq_m2 153 rfl rfl, zq_m1 1 rfl rfl, ⟨by decide +kernel, by decide +kernel, by decide +kernel⟩, by decide +kernel, Nat.le_of_ble_eq_true rfl⟩, zq_m2 151 rfl rfl, zq_m2 152 rfl rfl⟩
theorem zd_X10_learn : zq_cd YX10_learn 2 ∧ Cond.instanceMethod yX10_learn ∈ zq_T ∧ Cond.selects yX10_learn.cls yX10_learn yX10_learn ∈ zq_T := ⟨⟨zq_m2 203 rfl rfl, zq_m1 1 rfl rfl, ⟨by decide +kernel, by decide +kernel, by decide +kernel⟩, by decide +kernel, Nat.le_of_ble_eq_true rfl⟩, zq_m2 201 rfl rfl, zq_m2 202 rfl rfl⟩
theorem zd_X10_room : zq_cd YX10_room 3 ∧ Cond.instanceMethod yX10_room ∈ zq_T ∧ Cond.selects yX10_room.cls yX10_room yX10_room ∈ zq_T := ⟨⟨zq_m2 207 rfl rfl, zq_m1 1 rfl rfl, ⟨by decide +kernel, by decide +kernel, by decide +kernel⟩, by decide +kernel, Nat.le_of_ble_eq_true rfl⟩, zq_m2 205 rfl rfl, zq_m2 206 rfl rfl⟩
theorem zd_X10_inside : zq_cd YX10_inside 2 ∧ Cond.instanceMethod yX10_inside ∈ zq_T ∧ Cond.selects yX10_inside.cls yX10_inside yX10_inside ∈ zq_T := ⟨⟨zq_m2 212 rfl rfl, zq_m1 1 rfl rfl, ⟨by decide +kernel, by decide +kernel, by decide +kernel⟩, by decide +kernel, Nat.le_of_ble_eq_true rfl⟩, zq_m2 210 rfl rfl, zq_m2 211 rfl rfl⟩
theorem zd_X10_feed : zq_cd YX10_feed 1 ∧ Cond.instanceMethod yX10_feed ∈ zq_T ∧ Cond.selects yX10_feed.cls yX10_feed yX10_feed ∈ zq_T := ⟨⟨zq_m2 216 rfl rfl, zq_m1 1 rfl rfl, ⟨by decide +kernel, by decide +kernel, by decide +kernel⟩, by decide +kernel, Nat.le_of_ble_eq_true rfl⟩, zq_m2 214 rfl rfl, zq_m2 215 rfl rfl⟩
theorem zd_X10_house : zq_cd YX10_house 0 ∧ Cond.instanceMethod yX10_house ∈ zq_T ∧ Cond.selects yX10_house.cls yX10_house yX10_house ∈ zq_T := ⟨⟨zq_m2 220 rfl rfl, zq_m1 1 rfl rfl, ⟨by decide +kernel, by decide +kernel, by decide +kernel⟩, by decide +kernel, Nat.le_of_ble_eq_true rfl⟩, zq_m2 218 rfl rfl, zq_m2 219 rfl rfl⟩
theorem zd_X10_told : zq_cd YX10_told 1 ∧ Cond.instanceMethod yX10_told ∈ zq_T ∧ Cond.selects yX10_told.cls yX10_told yX10_told ∈ zq_T := ⟨⟨zq_m3 161 rfl rfl, zq_m1 1 rfl rfl, ⟨by decide +kernel, by decide +kernel, by decide +kernel⟩, by decide +kernel, Nat.le_of_ble_eq_true rfl⟩, zq_m3 159 rfl rfl, zq_m3 160 rfl rfl⟩
theorem zd_X10_coming : zq_cd YX10_coming 3 ∧ Cond.instanceMethod yX10_coming ∈ zq_T ∧ Cond.selects yX10_coming.cls yX10_coming yX10_coming ∈ zq_T := ⟨⟨zq_m3 165 rfl rfl, zq_m1 1 rfl rfl, ⟨by decide +kernel, by decide +kernel, by decide +kernel⟩, by decide +kernel, Nat.le_of_ble_eq_true rfl⟩, zq_m3 163 rfl rfl, zq_m3 164 rfl rfl⟩
theorem zd_X10_come : zq_cd YX10_come 2 ∧ Cond.instanceMethod yX10_come ∈ zq_T ∧ Cond.selects yX10_come.cls yX10_come yX10_come ∈ zq_T := ⟨⟨zq_m3 214 rfl rfl, zq_m1 1 rfl rfl, ⟨by decide +kernel, by decide +kernel, by decide +kernel⟩, by decide +kernel, Nat.le_of_ble_eq_true rfl⟩, zq_m3 212 rfl rfl, zq_m3 213 rfl rfl⟩
theorem zd_X10_say : zq_cd YX10_say 2 ∧ Cond.instanceMethod yX10_say ∈ zq_T ∧ Cond.selects yX10_say.cls yX10_say yX10_say ∈ zq_T := ⟨⟨zq_m3 219 rfl rfl, zq_m1 1 rfl rfl, ⟨by decide +kernel, by decide +kernel, by decide +kernel⟩, by decide +kernel, Nat.le_of_ble_eq_true rfl⟩, zq_m3 217 rfl rfl, zq_m3 218 rfl rfl⟩
theorem zd_X10_soonest : zq_cd YX10_soonest 3 ∧ Cond.instanceMethod yX10_soonest ∈ zq_T ∧ Cond.selects yX10_soonest.cls yX10_soonest yX10_soonest ∈ zq_T := ⟨⟨zq_m3 236 rfl rfl, zq_m1 1 rfl rfl, ⟨by decide +kernel, by decide +kernel, by decide +kernel⟩, by decide +kernel, Nat.le_of_ble_eq_true rfl⟩, zq_m3 234 rfl rfl, zq_m3 235 rfl rfl⟩
theorem zd_X10_cheapest : zq_cd YX10_cheapest 3 ∧ Cond.instanceMethod yX10_cheapest ∈ zq_T ∧ Cond.selects yX10_cheapest.cls yX10_cheapest yX10_cheapest ∈ zq_T := ⟨⟨zq_m4 78 rfl rfl, zq_m1 1 rfl rfl, ⟨by decide +kernel, by decide +kernel, by decide +kernel⟩, by decide +kernel, Nat.le_of_ble_eq_true rfl⟩, zq_m4 76 rfl rfl, zq_m4 77 rfl rfl⟩
theorem zd_X10_never : zq_cd YX10_never 1 ∧ Cond.instanceMethod yX10_never ∈ zq_T ∧ Cond.selects yX10_never.cls yX10_never yX10_never ∈ zq_T := ⟨⟨zq_m4 86 rfl rfl, zq_m1 1 rfl rfl, ⟨by decide +kernel, by decide +kernel, by decide +kernel⟩, by decide +kernel, Nat.le_of_ble_eq_true rfl⟩, zq_m4 84 rfl rfl, zq_m4 85 rfl rfl⟩
theorem zd_X10_heard : zq_cd YX10_heard 1 ∧ Cond.instanceMethod yX10_heard ∈ zq_T ∧ Cond.selects yX10_heard.cls yX10_heard yX10_heard ∈ zq_T := ⟨⟨zq_m4 98 rfl rfl, zq_m1 1 rfl rfl, ⟨by decide +kernel, by decide +kernel, by decide +kernel⟩, by decide +kernel, Nat.le_of_ble_eq_true rfl⟩, zq_m4 96 rfl rfl, zq_m4 97 rfl rfl⟩
theorem zd_X10_secret : zq_cd YX10_secret 3 ∧ Cond.instanceMethod yX10_secret ∈ zq_T ∧ Cond.selects yX10_secret.cls yX10_secret yX10_secret ∈ zq_T := ⟨⟨zq_m4 146 rfl rfl, zq_m1 1 rfl rfl, ⟨by decide +kernel, by decide +kernel, by decide +kernel⟩, by decide +kernel, Nat.le_of_ble_eq_true rfl⟩, zq_m4 144 rfl rfl, zq_m4 145 rfl rfl⟩
theorem zd_X10_game : zq_cd YX10_game 3 ∧ Cond.instanceMethod yX10_game ∈ zq_T ∧ Cond.selects yX10_game.cls yX10_game yX10_game ∈ zq_T := ⟨⟨zq_m4 153 rfl rfl, zq_m1 1 rfl rfl, ⟨by decide +kernel, by decide +kernel, by decide +kernel⟩, by decide +kernel, Nat.le_of_ble_eq_true rfl⟩, zq_m4 151 rfl rfl, zq_m4 152 rfl rfl⟩
theorem zd_X10_votes : zq_cd YX10_votes 2 ∧ Cond.instanceMethod yX10_votes ∈ zq_T ∧ Cond.selects yX10_votes.cls yX10_votes yX10_votes ∈ zq_T := ⟨⟨zq_m4 170 rfl rfl, zq_m1 1 rfl rfl, ⟨by decide +kernel, by decide +kernel, by decide +kernel⟩, by decide +kernel, Nat.le_of_ble_eq_true rfl⟩, zq_m4 168 rfl rfl, zq_m4 169 rfl rfl⟩
theorem zd_X10_spoken : zq_cd YX10_spoken 2 ∧ Cond.instanceMethod yX10_spoken ∈ zq_T ∧ Cond.selects yX10_spoken.cls yX10_spoken yX10_spoken ∈ zq_T := ⟨⟨zq_m4 174 rfl rfl, zq_m1 1 rfl rfl, ⟨by decide +kernel, by decide +kernel, by decide +kernel⟩, by decide +kernel, Nat.le_of_ble_eq_true rfl⟩, zq_m4 172 rfl rfl, zq_m4 173 rfl rfl⟩
theorem zd_X10_fits : zq_cd YX10_fits 0 ∧ Cond.instanceMethod yX10_fits ∈ zq_T ∧ Cond.selects yX10_fits.cls yX10_fits yX10_fits ∈ zq_T := ⟨⟨zq_m4 178 rfl rfl, zq_m1 1 rfl rfl, ⟨by decide +kernel, by decide +kernel, by decide +kernel⟩, by decide +kernel, Nat.le_of_ble_eq_true rfl⟩, zq_m4 176 rfl rfl, zq_m4 177 rfl rfl⟩
theorem zd_X10_lot : zq_cd YX10_lot 3 ∧ Cond.instanceMethod yX10_lot ∈ zq_T ∧ Cond.selects yX10_lot.cls yX10_lot yX10_lot ∈ zq_T := ⟨⟨zq_m4 199 rfl rfl, zq_m1 1 rfl rfl, ⟨by decide +kernel, by decide +kernel, by decide +kernel⟩, by decide +kernel, Nat.le_of_ble_eq_true rfl⟩, zq_m4 197 rfl rfl, zq_m4 198 rfl rfl⟩
theorem zd_X10_book : zq_cd YX10_book 1 ∧ Cond.instanceMethod yX10_book ∈ zq_T ∧ Cond.selects yX10_book.cls yX10_book yX10_book ∈ zq_T := ⟨⟨zq_m4 220 rfl rfl, zq_m1 1 rfl rfl, ⟨by decide +kernel, by decide +kernel, by decide +kernel⟩, by decide +kernel, Nat.le_of_ble_eq_true rfl⟩, zq_m4 218 rfl rfl, zq_m4 219 rfl rfl⟩
theorem zd_X10_readBook : zq_cd YX10_readBook 0 ∧ Cond.instanceMethod yX10_readBook ∈ zq_T ∧ Cond.selects yX10_readBook.cls yX10_readBook yX10_readBook ∈ zq_T := ⟨⟨zq_m4 224 rfl rfl, zq_m1 1 rfl rfl, ⟨by decide +kernel, by decide +kernel, by decide +kernel⟩, by decide +kernel, Nat.le_of_ble_eq_true rfl⟩, zq_m4 222 rfl rfl, zq_m4 223 rfl rfl⟩
theorem zd_X10_judge : zq_cd YX10_judge 2 ∧ Cond.instanceMethod yX10_judge ∈ zq_T ∧ Cond.selects yX10_judge.cls yX10_judge yX10_judge ∈ zq_T := ⟨⟨zq_m4 239 rfl rfl, zq_m1 1 rfl rfl, ⟨by decide +kernel, by decide +kernel, by decide +kernel⟩, by decide +kernel, Nat.le_of_ble_eq_true rfl⟩, zq_m4 237 rfl rfl, zq_m4 238 rfl rfl⟩
theorem zd_X10_image : zq_cd YX10_image 0 ∧ Cond.instanceMethod yX10_image ∈ zq_T ∧ Cond.selects yX10_image.cls yX10_image yX10_image ∈ zq_T := ⟨⟨zq_m5 18 rfl rfl, zq_m1 1 rfl rfl, ⟨by decide +kernel, by decide +kernel, by decide +kernel⟩, by decide +kernel, Nat.le_of_ble_eq_true rfl⟩, zq_m5 16 rfl rfl, zq_m5 17 rfl rfl⟩
theorem zd_X10_undo : zq_cd YX10_undo 0 ∧ Cond.instanceMethod yX10_undo ∈ zq_T ∧ Cond.selects yX10_undo.cls yX10_undo yX10_undo ∈ zq_T := ⟨⟨zq_m5 27 rfl rfl, zq_m1 1 rfl rfl, ⟨by decide +kernel, by decide +kernel, by decide +kernel⟩, by decide +kernel, Nat.le_of_ble_eq_true rfl⟩, zq_m5 25 rfl rfl, zq_m5 26 rfl rfl⟩
theorem zd_X10_act : zq_cd YX10_act 3 ∧ Cond.instanceMethod yX10_act ∈ zq_T ∧ Cond.selects yX10_act.cls yX10_act yX10_act ∈ zq_T := ⟨⟨zq_m5 31 rfl rfl, zq_m1 1 rfl rfl, ⟨by decide +kernel, by decide +kernel, by decide +kernel⟩, by decide +kernel, Nat.le_of_ble_eq_true rfl⟩, zq_m5 29 rfl rfl, zq_m5 30 rfl rfl⟩
theorem zd_X10_trace : zq_cd YX10_trace 1 ∧ Cond.instanceMethod yX10_trace ∈ zq_T ∧ Cond.selects yX10_trace.cls yX10_trace yX10_trace ∈ zq_T := ⟨⟨zq_m5 58 rfl rfl, zq_m1 1 rfl rfl, ⟨by decide +kernel, by decide +kernel, by decide +kernel⟩, by decide +kernel, Nat.le_of_ble_eq_true rfl⟩, zq_m5 56 rfl rfl, zq_m5 57 rfl rfl⟩
theorem zd_X10_taken : zq_cd YX10_taken 2 ∧ Cond.instanceMethod yX10_taken ∈ zq_T ∧ Cond.selects yX10_taken.cls yX10_taken yX10_taken ∈ zq_T := ⟨⟨zq_m5 68 rfl rfl, zq_m1 1 rfl rfl, ⟨by decide +kernel, by decide +kernel, by decide +kernel⟩, by decide +kernel, Nat.le_of_ble_eq_true rfl⟩, zq_m5 66 rfl rfl, zq_m5 67 rfl rfl⟩
theorem zd_X10_count : zq_cd YX10_count 1 ∧ Cond.instanceMethod yX10_count ∈ zq_T ∧ Cond.selects yX10_count.cls yX10_count yX10_count ∈ zq_T := ⟨⟨zq_m5 76 rfl rfl, zq_m1 1 rfl rfl, ⟨by decide +kernel, by decide +kernel, by decide +kernel⟩, by decide +kernel, Nat.le_of_ble_eq_true rfl⟩, zq_m5 74 rfl rfl, zq_m5 75 rfl rfl⟩
theorem zd_X10_tape : zq_cd YX10_tape 3 ∧ Cond.instanceMethod yX10_tape ∈ zq_T ∧ Cond.selects yX10_tape.cls yX10_tape yX10_tape ∈ zq_T := ⟨⟨zq_m5 80 rfl rfl, zq_m1 1 rfl rfl, ⟨by decide +kernel, by decide +kernel, by decide +kernel⟩, by decide +kernel, Nat.le_of_ble_eq_true rfl⟩, zq_m5 78 rfl rfl, zq_m5 79 rfl rfl⟩
theorem zd_X10_item : zq_cd YX10_item 3 ∧ Cond.instanceMethod yX10_item ∈ zq_T ∧ Cond.selects yX10_item.cls yX10_item yX10_item ∈ zq_T := ⟨⟨zq_m5 95 rfl rfl, zq_m1 1 rfl rfl, ⟨by decide +kernel, by decide +kernel, by decide +kernel⟩, by decide +kernel, Nat.le_of_ble_eq_true rfl⟩, zq_m5 93 rfl rfl, zq_m5 94 rfl rfl⟩
theorem zd_X10_read : zq_cd YX10_read 2 ∧ Cond.instanceMethod yX10_read ∈ zq_T ∧ Cond.selects yX10_read.cls yX10_read yX10_read ∈ zq_T := ⟨⟨zq_m5 107 rfl rfl, zq_m1 1 rfl rfl, ⟨by decide +kernel, by decide +kernel, by decide +kernel⟩, by decide +kernel, Nat.le_of_ble_eq_true rfl⟩, zq_m5 105 rfl rfl, zq_m5 106 rfl rfl⟩
theorem zd_X10_shift : zq_cd YX10_shift 5 ∧ Cond.instanceMethod yX10_shift ∈ zq_T ∧ Cond.selects yX10_shift.cls yX10_shift yX10_shift ∈ zq_T := ⟨⟨zq_m5 111 rfl rfl, zq_m1 1 rfl rfl, ⟨by decide +kernel, by decide +kernel, by decide +kernel⟩, by decide +kernel, Nat.le_of_ble_eq_true rfl⟩, zq_m5 109 rfl rfl, zq_m5 110 rfl rfl⟩
theorem zd_X10_isFromTo : zq_cd YX10_isFromTo 3 ∧ Cond.static yX10_isFromTo ∈ zq_T := ⟨⟨zq_m2 142 rfl rfl, zq_m1 1 rfl rfl, ⟨by decide +kernel, by decide +kernel, by decide +kernel⟩, by decide +kernel, Nat.le_of_ble_eq_true rfl⟩, zq_m2 141 rfl rfl⟩
theorem zd_X10_isRoom : zq_cd YX10_isRoom 1 ∧ Cond.static yX10_isRoom ∈ zq_T := ⟨⟨zq_m2 184 rfl rfl, zq_m1 1 rfl rfl, ⟨by decide +kernel, by decide +kernel, by decide +kernel⟩, by decide +kernel, Nat.le_of_ble_eq_true rfl⟩, zq_m2 183 rfl rfl⟩
theorem zd_X10_isPlace : zq_cd YX10_isPlace 1 ∧ Cond.static yX10_isPlace ∈ zq_T := ⟨⟨zq_m2 145 rfl rfl, zq_m1 1 rfl rfl, ⟨by decide +kernel, by decide +kernel, by decide +kernel⟩, by decide +kernel, Nat.le_of_ble_eq_true rfl⟩, zq_m2 144 rfl rfl⟩
theorem zd_X10_isThing : zq_cd YX10_isThing 1 ∧ Cond.static yX10_isThing ∈ zq_T := ⟨⟨zq_m3 222 rfl rfl, zq_m1 1 rfl rfl, ⟨by decide +kernel, by decide +kernel, by decide +kernel⟩, by decide +kernel, Nat.le_of_ble_eq_true rfl⟩, zq_m3 221 rfl rfl⟩
theorem zd_X10_isTape : zq_cd YX10_isTape 1 ∧ Cond.static yX10_isTape ∈ zq_T := ⟨⟨zq_m5 2 rfl rfl, zq_m1 1 rfl rfl, ⟨by decide +kernel, by decide +kernel, by decide +kernel⟩, by decide +kernel, Nat.le_of_ble_eq_true rfl⟩, zq_m5 1 rfl rfl⟩
theorem zd_X10_isPerson : zq_cd YX10_isPerson 1 ∧ Cond.instanceMethod yX10_isPerson ∈ zq_T ∧ Cond.selects yX10_isPerson.cls yX10_isPerson yX10_isPerson ∈ zq_T := ⟨⟨zq_m2 157 rfl rfl, zq_m1 1 rfl rfl, ⟨by decide +kernel, by decide +kernel, by decide +kernel⟩, by decide +kernel, Nat.le_of_ble_eq_true rfl⟩, zq_m2 156 rfl rfl, zq_m0 0 rfl rfl⟩
theorem zd_X10_isKindOrUnder : zq_cd YX10_isKindOrUnder 2 ∧ Cond.static yX10_isKindOrUnder ∈ zq_T := ⟨⟨zq_m5 71 rfl rfl, zq_m1 1 rfl rfl, ⟨by decide +kernel, by decide +kernel, by decide +kernel⟩, by decide +kernel, Nat.le_of_ble_eq_true rfl⟩, zq_m5 70 rfl rfl⟩
theorem zd_X10_holding : zq_cd YX10_holding 0 ∧ Cond.instanceMethod yX10_holding ∈ zq_T ∧ Cond.selects yX10_holding.cls yX10_holding yX10_holding ∈ zq_T := ⟨⟨zq_m2 169 rfl rfl, zq_m1 1 rfl rfl, ⟨by decide +kernel, by decide +kernel, by decide +kernel⟩, by decide +kernel, Nat.le_of_ble_eq_true rfl⟩, zq_m2 168 rfl rfl, zq_m0 3 rfl rfl⟩
theorem zd_X10_lookAhead : zq_cd YX10_lookAhead 0 ∧ Cond.instanceMethod yX10_lookAhead ∈ zq_T ∧ Cond.selects yX10_lookAhead.cls yX10_lookAhead yX10_lookAhead ∈ zq_T := ⟨⟨zq_m4 0 rfl rfl, zq_m1 1 rfl rfl, ⟨by decide +kernel, by decide +kernel, by decide +kernel⟩, by decide +kernel, Nat.le_of_ble_eq_true rfl⟩, zq_m3 239 rfl rfl, zq_m0 22 rfl rfl⟩
theorem zd_X10_speakersNow : zq_cd YX10_speakersNow 1 ∧ Cond.instanceMethod yX10_speakersNow ∈ zq_T ∧ Cond.selects yX10_speakersNow.cls yX10_speakersNow yX10_speakersNow ∈ zq_T := ⟨⟨zq_m2 165 rfl rfl, zq_m1 1 rfl rfl, ⟨by decide +kernel, by decide +kernel, by decide +kernel⟩, by decide +kernel, Nat.le_of_ble_eq_true rfl⟩, zq_m2 164 rfl rfl, zq_m0 2 rfl rfl⟩
theorem zd_X10_maySpeakNow : zq_cd YX10_maySpeakNow 1 ∧ Cond.instanceMethod yX10_maySpeakNow ∈ zq_T ∧ Cond.selects yX10_maySpeakNow.cls yX10_maySpeakNow yX10_maySpeakNow ∈ zq_T := ⟨⟨zq_m2 161 rfl rfl, zq_m1 1 rfl rfl, ⟨by decide +kernel, by decide +kernel, by decide +kernel⟩, by decide +kernel, Nat.le_of_ble_eq_true rfl⟩, zq_m2 160 rfl rfl, zq_m0 1 rfl rfl⟩
theorem zd_X10_priceNow : zq_cd YX10_priceNow 2 ∧ Cond.instanceMethod yX10_priceNow ∈ zq_T ∧ Cond.selects yX10_priceNow.cls yX10_priceNow yX10_priceNow ∈ zq_T := ⟨⟨zq_m3 169 rfl rfl, zq_m1 1 rfl rfl, ⟨by decide +kernel, by decide +kernel, by decide +kernel⟩, by decide +kernel, Nat.le_of_ble_eq_true rfl⟩, zq_m3 168 rfl rfl, zq_m0 17 rfl rfl⟩
theorem zd_X10_isBarredNow : zq_cd YX10_isBarredNow 2 ∧ Cond.instanceMethod yX10_isBarredNow ∈ zq_T ∧ Cond.selects yX10_isBarredNow.cls yX10_isBarredNow yX10_isBarredNow ∈ zq_T := ⟨⟨zq_m3 202 rfl rfl, zq_m1 1 rfl rfl, ⟨by decide +kernel, by decide +kernel, by decide +kernel⟩, by decide +kernel, Nat.le_of_ble_eq_true rfl⟩, zq_m3 201 rfl rfl, zq_m0 21 rfl rfl⟩
theorem zd_X10_numberWith : zq_cd YX10_numberWith 1 ∧ Cond.instanceMethod yX10_numberWith ∈ zq_T ∧ Cond.selects yX10_numberWith.cls yX10_numberWith yX10_numberWith ∈ zq_T := ⟨⟨zq_m3 173 rfl rfl, zq_m1 1 rfl rfl, ⟨by decide +kernel, by decide +kernel, by decide +kernel⟩, by decide +kernel, Nat.le_of_ble_eq_true rfl⟩, zq_m3 172 rfl rfl, zq_m0 18 rfl rfl⟩
theorem zd_X10_firstOtherwise : zq_cd YX10_firstOtherwise 2 ∧ Cond.instanceMethod yX10_firstOtherwise ∈ zq_T ∧ Cond.selects yX10_firstOtherwise.cls yX10_firstOtherwise yX10_firstOtherwise ∈ zq_T := ⟨⟨zq_m5 10 rfl rfl, zq_m1 1 rfl rfl, ⟨by decide +kernel, by decide +kernel, by decide +kernel⟩, by decide +kernel, Nat.le_of_ble_eq_true rfl⟩, zq_m5 9 rfl rfl, zq_m0 45 rfl rfl⟩
theorem zd_X11_init : zq_cd YX11_init 0 ∧ Cond.instanceMethod yX11_init ∈ zq_T := ⟨⟨zq_m5 121 rfl rfl, zq_m1 12 rfl rfl, ⟨by decide +kernel, by decide +kernel, by decide +kernel⟩, by decide +kernel, Nat.le_of_ble_eq_true rfl⟩, zq_m5 120 rfl rfl⟩
theorem zd_X11_within : zq_cd YX11_within 3 ∧ Cond.instanceMethod yX11_within ∈ zq_T ∧ Cond.selects yX11_within.cls yX11_within yX11_within ∈ zq_T := ⟨⟨zq_m6 93 rfl rfl, zq_m1 12 rfl rfl, ⟨by decide +kernel, by decide +kernel, by decide +kernel⟩, by decide +kernel, Nat.le_of_ble_eq_true rfl⟩, zq_m6 92 rfl rfl, zq_m0 49 rfl rfl⟩
theorem zd_X11_has : zq_cd YX11_has 2 ∧ Cond.instanceMethod yX11_has ∈ zq_T ∧ Cond.selects yX11_has.cls yX11_has yX11_has ∈ zq_T := ⟨⟨zq_m7 29 rfl rfl, zq_m1 12 rfl rfl, ⟨by decide +kernel, by decide +kernel, by decide +kernel⟩, by decide +kernel, Nat.le_of_ble_eq_true rfl⟩, zq_m7 28 rfl rfl, zq_m0 83 rfl rfl⟩
theorem zd_X11_ones : zq_cd YX11_ones 1 ∧ Cond.instanceMethod yX11_ones ∈ zq_T ∧ Cond.selects yX11_ones.cls yX11_ones yX11_ones ∈ zq_T := ⟨⟨zq_m7 145 rfl rfl, zq_m1 12 rfl rfl, ⟨by decide +kernel, by decide +kernel, by decide +kernel⟩, by decide +kernel, Nat.le_of_ble_eq_true rfl⟩, zq_m7 144 rfl rfl, zq_m0 104 rfl rfl⟩
theorem zd_X11_isPerson : zq_cd YX11_isPerson 1 ∧ Cond.instanceMethod yX11_isPerson ∈ zq_T ∧ Cond.selects yX11_isPerson.cls yX11_isPerson yX11_isPerson ∈ zq_T := ⟨⟨zq_m6 109 rfl rfl, zq_m1 12 rfl rfl, ⟨by decide +kernel, by decide +kernel, by decide +kernel⟩, by decide +kernel, Nat.le_of_ble_eq_true rfl⟩, zq_m6 108 rfl rfl, zq_m0 52 rfl rfl⟩
theorem zd_X11_isRoom : zq_cd YX11_isRoom 1 ∧ Cond.instanceMethod yX11_isRoom ∈ zq_T ∧ Cond.selects yX11_isRoom.cls yX11_isRoom yX11_isRoom ∈ zq_T := ⟨⟨zq_m6 161 rfl rfl, zq_m1 12 rfl rfl, ⟨by decide +kernel, by decide +kernel, by decide +kernel⟩, by decide +kernel, Nat.le_of_ble_eq_true rfl⟩, zq_m6 160 rfl rfl, zq_m0 63 rfl rfl⟩
theorem zd_X11_isPlace : zq_cd YX11_isPlace 1 ∧ Cond.instanceMethod yX11_isPlace ∈ zq_T ∧ Cond.selects yX11_isPlace.cls yX11_isPlace yX11_isPlace ∈ zq_T := ⟨⟨zq_m6 97 rfl rfl, zq_m1 12 rfl rfl, ⟨by decide +kernel, by decide +kernel, by decide +kernel⟩, by decide +kernel, Nat.le_of_ble_eq_true rfl⟩, zq_m6 96 rfl rfl, zq_m0 50 rfl rfl⟩
theorem zd_X11_isThing : zq_cd YX11_isThing 1 ∧ Cond.instanceMethod yX11_isThing ∈ zq_T ∧ Cond.selects yX11_isThing.cls yX11_isThing yX11_isThing ∈ zq_T := ⟨⟨zq_m7 25 rfl rfl, zq_m1 12 rfl rfl, ⟨by decide +kernel, by decide +kernel, by decide +kernel⟩, by decide +kernel, Nat.le_of_ble_eq_true rfl⟩, zq_m7 24 rfl rfl, zq_m0 82 rfl rfl⟩
theorem zd_X11_placeOf : zq_cd YX11_placeOf 2 ∧ Cond.instanceMethod yX11_placeOf ∈ zq_T ∧ Cond.selects yX11_placeOf.cls yX11_placeOf yX11_placeOf ∈ zq_T := ⟨⟨zq_m6 125 rfl rfl, zq_m1 12 rfl rfl, ⟨by decide +kernel, by decide +kernel, by decide +kernel⟩, by decide +kernel, Nat.le_of_ble_eq_true rfl⟩, zq_m6 124 rfl rfl, zq_m0 56 rfl rfl⟩
theorem zd_X11_moved : zq_cd YX11_moved 3 ∧ Cond.instanceMethod yX11_moved ∈ zq_T ∧ Cond.selects yX11_moved.cls yX11_moved yX11_moved ∈ zq_T := ⟨⟨zq_m6 101 rfl rfl, zq_m1 12 rfl rfl, ⟨by decide +kernel, by decide +kernel, by decide +kernel⟩, by decide +kernel, Nat.le_of_ble_eq_true rfl⟩, zq_m6 100 rfl rfl, zq_m0 51 rfl rfl⟩
theorem zd_X11_manyIn : zq_cd YX11_manyIn 2 ∧ Cond.instanceMethod yX11_manyIn ∈ zq_T ∧ Cond.selects yX11_manyIn.cls yX11_manyIn yX11_manyIn ∈ zq_T := ⟨⟨zq_m6 145 rfl rfl, zq_m1 12 rfl rfl, ⟨by decide +kernel, by decide +kernel, by decide +kernel⟩, by decide +kernel, Nat.le_of_ble_eq_true rfl⟩, zq_m6 144 rfl rfl, zq_m0 61 rfl rfl⟩
theorem zd_X11_person : zq_cd YX11_person 3 ∧ Cond.instanceMethod yX11_person ∈ zq_T ∧ Cond.selects yX11_person.cls yX11_person yX11_person ∈ zq_T := ⟨⟨zq_m6 89 rfl rfl, zq_m1 12 rfl rfl, ⟨by decide +kernel, by decide +kernel, by decide +kernel⟩, by decide +kernel, Nat.le_of_ble_eq_true rfl⟩, zq_m6 87 rfl rfl, zq_m6 88 rfl rfl⟩
theorem zd_X11_measure : zq_cd YX11_measure 2 ∧ Cond.instanceMethod yX11_measure ∈ zq_T ∧ Cond.selects yX11_measure.cls yX11_measure yX11_measure ∈ zq_T := ⟨⟨zq_m6 137 rfl rfl, zq_m1 12 rfl rfl, ⟨by decide +kernel, by decide +kernel, by decide +kernel⟩, by decide +kernel, Nat.le_of_ble_eq_true rfl⟩, zq_m6 136 rfl rfl, zq_m0 59 rfl rfl⟩
theorem zd_X11_placeInLine : zq_cd YX11_placeInLine 3 ∧ Cond.instanceMethod yX11_placeInLine ∈ zq_T ∧ Cond.selects yX11_placeInLine.cls yX11_placeInLine yX11_placeInLine ∈ zq_T := ⟨⟨zq_m6 141 rfl rfl, zq_m1 12 rfl rfl, ⟨by decide +kernel, by decide +kernel, by decide +kernel⟩, by decide +kernel, Nat.le_of_ble_eq_true rfl⟩, zq_m6 140 rfl rfl, zq_m0 60 rfl rfl⟩
theorem zd_X11_hasLike : zq_cd YX11_hasLike 4 ∧ Cond.instanceMethod yX11_hasLike ∈ zq_T ∧ Cond.selects yX11_hasLike.cls yX11_hasLike yX11_hasLike ∈ zq_T := ⟨⟨zq_m6 133 rfl rfl, zq_m1 12 rfl rfl, ⟨by decide +kernel, by decide +kernel, by decide +kernel⟩, by decide +kernel, Nat.le_of_ble_eq_true rfl⟩, zq_m6 132 rfl rfl, zq_m0 58 rfl rfl⟩
theorem zd_X11_isMiddle : zq_cd YX11_isMiddle 4 ∧ Cond.instanceMethod yX11_isMiddle ∈ zq_T ∧ Cond.selects yX11_isMiddle.cls yX11_isMiddle yX11_isMiddle ∈ zq_T := ⟨⟨zq_m6 149 rfl rfl, zq_m1 12 rfl rfl, ⟨by decide +kernel, by decide +kernel, by decide +kernel⟩, by decide +kernel, Nat.le_of_ble_eq_true rfl⟩, zq_m6 148 rfl rfl, zq_m0 62 rfl rfl⟩
theorem zd_X11_maySpeak : zq_cd YX11_maySpeak 3 ∧ Cond.instanceMethod yX11_maySpeak ∈ zq_T ∧ Cond.selects yX11_maySpeak.cls yX11_maySpeak yX11_maySpeak ∈ zq_T := ⟨⟨zq_m6 129 rfl rfl, zq_m1 12 rfl rfl, ⟨by decide +kernel, by decide +kernel, by decide +kernel⟩, by decide +kernel, Nat.le_of_ble_eq_true rfl⟩, zq_m6 128 rfl rfl, zq_m0 57 rfl rfl⟩
theorem zd_X11_of : zq_cd YX11_of 2 ∧ Cond.instanceMethod yX11_of ∈ zq_T ∧ Cond.selects yX11_of.cls yX11_of yX11_of ∈ zq_T := ⟨⟨zq_m6 105 rfl rfl, zq_m1 12 rfl rfl, ⟨by decide +kernel, by decide +kernel, by decide +kernel⟩, by decide +kernel, Nat.le_of_ble_eq_true rfl⟩, zq_m6 103 rfl rfl, zq_m6 104 rfl rfl⟩
theorem zd_X11_learn : zq_cd YX11_learn 2 ∧ Cond.instanceMethod yX11_learn ∈ zq_T ∧ Cond.selects yX11_learn.cls yX11_learn yX11_learn ∈ zq_T := ⟨⟨zq_m6 153 rfl rfl, zq_m1 12 rfl rfl, ⟨by decide +kernel, by decide +kernel, by decide +kernel⟩, by decide +kernel, Nat.le_of_ble_eq_true rfl⟩, zq_m6 151 rfl rfl, zq_m6 152 rfl rfl⟩
theorem zd_X11_room : zq_cd YX11_room 3 ∧ Cond.instanceMethod yX11_room ∈ zq_T ∧ Cond.selects yX11_room.cls yX11_room yX11_room ∈ zq_T := ⟨⟨zq_m6 157 rfl rfl, zq_m1 12 rfl rfl, ⟨by decide +kernel, by decide +kernel, by decide +kernel⟩, by decide +kernel, Nat.le_of_ble_eq_true rfl⟩, zq_m6 155 rfl rfl, zq_m6 156 rfl rfl⟩
theorem zd_X11_inside : zq_cd YX11_inside 2 ∧ Cond.instanceMethod yX11_inside ∈ zq_T ∧ Cond.selects yX11_inside.cls yX11_inside yX11_inside ∈ zq_T := ⟨⟨zq_m6 165 rfl rfl, zq_m1 12 rfl rfl, ⟨by decide +kernel, by decide +kernel, by decide +kernel⟩, by decide +kernel, Nat.le_of_ble_eq_true rfl⟩, zq_m6 163 rfl rfl, zq_m6 164 rfl rfl⟩
theorem zd_X11_feed : zq_cd YX11_feed 1 ∧ Cond.instanceMethod yX11_feed ∈ zq_T ∧ Cond.selects yX11_feed.cls yX11_feed yX11_feed ∈ zq_T := ⟨⟨zq_m6 169 rfl rfl, zq_m1 12 rfl rfl, ⟨by decide +kernel, by decide +kernel, by decide +kernel⟩, by decide +kernel, Nat.le_of_ble_eq_true rfl⟩, zq_m6 167 rfl rfl, zq_m6 168 rfl rfl⟩
theorem zd_X11_next : zq_cd YX11_next 0 ∧ Cond.instanceMethod yX11_next ∈ zq_T ∧ Cond.selects yX11_next.cls yX11_next yX11_next ∈ zq_T := ⟨⟨zq_m6 189 rfl rfl, zq_m1 12 rfl rfl, ⟨by decide +kernel, by decide +kernel, by decide +kernel⟩, by decide +kernel, Nat.le_of_ble_eq_true rfl⟩, zq_m6 188 rfl rfl, zq_m0 67 rfl rfl⟩
theorem zd_X11_takes : zq_cd YX11_takes 1 ∧ Cond.instanceMethod yX11_takes ∈ zq_T ∧ Cond.selects yX11_takes.cls yX11_takes yX11_takes ∈ zq_T := ⟨⟨zq_m6 197 rfl rfl, zq_m1 12 rfl rfl, ⟨by decide +kernel, by decide +kernel, by decide +kernel⟩, by decide +kernel, Nat.le_of_ble_eq_true rfl⟩, zq_m6 196 rfl rfl, zq_m0 69 rfl rfl⟩
theorem zd_X11_takesWord : zq_cd YX11_takesWord 2 ∧ Cond.instanceMethod yX11_takesWord ∈ zq_T ∧ Cond.selects yX11_takesWord.cls yX11_takesWord yX11_takesWord ∈ zq_T := ⟨⟨zq_m6 193 rfl rfl, zq_m1 12 rfl rfl, ⟨by decide +kernel, by decide +kernel, by decide +kernel⟩, by decide +kernel, Nat.le_of_ble_eq_true rfl⟩, zq_m6 192 rfl rfl, zq_m0 68 rfl rfl⟩
theorem zd_X11_isDigit : zq_cd YX11_isDigit 0 ∧ Cond.instanceMethod yX11_isDigit ∈ zq_T ∧ Cond.selects yX11_isDigit.cls yX11_isDigit yX11_isDigit ∈ zq_T := ⟨⟨zq_m6 217 rfl rfl, zq_m1 12 rfl rfl, ⟨by decide +kernel, by decide +kernel, by decide +kernel⟩, by decide +kernel, Nat.le_of_ble_eq_true rfl⟩, zq_m6 216 rfl rfl, zq_m0 74 rfl rfl⟩
theorem zd_X11_takesNumber : zq_cd YX11_takesNumber 0 ∧ Cond.instanceMethod yX11_takesNumber ∈ zq_T ∧ Cond.selects yX11_takesNumber.cls yX11_takesNumber yX11_takesNumber ∈ zq_T := ⟨⟨zq_m6 213 rfl rfl, zq_m1 12 rfl rfl, ⟨by decide +kernel, by decide +kernel, by decide +kernel⟩, by decide +kernel, Nat.le_of_ble_eq_true rfl⟩, zq_m6 212 rfl rfl, zq_m0 73 rfl rfl⟩
theorem zd_X11_put : zq_cd YX11_put 1 ∧ Cond.instanceMethod yX11_put ∈ zq_T ∧ Cond.selects yX11_put.cls yX11_put yX11_put ∈ zq_T := ⟨⟨zq_m6 221 rfl rfl, zq_m1 12 rfl rfl, ⟨by decide +kernel, by decide +kernel, by decide +kernel⟩, by decide +kernel, Nat.le_of_ble_eq_true rfl⟩, zq_m6 220 rfl rfl, zq_m0 75 rfl rfl⟩
theorem zd_X11_whole : zq_cd YX11_whole 0 ∧ Cond.instanceMethod yX11_whole ∈ zq_T ∧ Cond.selects yX11_whole.cls yX11_whole yX11_whole ∈ zq_T := ⟨⟨zq_m6 225 rfl rfl, zq_m1 12 rfl rfl, ⟨by decide +kernel, by decide +kernel, by decide +kernel⟩, by decide +kernel, Nat.le_of_ble_eq_true rfl⟩, zq_m6 224 rfl rfl, zq_m0 76 rfl rfl⟩
theorem zd_X11_settle : zq_cd YX11_settle 1 ∧ Cond.instanceMethod yX11_settle ∈ zq_T ∧ Cond.selects yX11_settle.cls yX11_settle yX11_settle ∈ zq_T := ⟨⟨zq_m6 229 rfl rfl, zq_m1 12 rfl rfl, ⟨by decide +kernel, by decide +kernel, by decide +kernel⟩, by decide +kernel, Nat.le_of_ble_eq_true rfl⟩, zq_m6 228 rfl rfl, zq_m0 77 rfl rfl⟩
theorem zd_X11_place : zq_cd YX11_place 1 ∧ Cond.instanceMethod yX11_place ∈ zq_T ∧ Cond.selects yX11_place.cls yX11_place yX11_place ∈ zq_T := ⟨⟨zq_m6 209 rfl rfl, zq_m1 12 rfl rfl, ⟨by decide +kernel, by decide +kernel, by decide +kernel⟩, by decide +kernel, Nat.le_of_ble_eq_true rfl⟩, zq_m6 208 rfl rfl, zq_m0 72 rfl rfl⟩
theorem zd_X11_takesTest : zq_cd YX11_takesTest 0 ∧ Cond.instanceMethod yX11_takesTest ∈ zq_T ∧ Cond.selects yX11_takesTest.cls yX11_takesTest yX11_takesTest ∈ zq_T := ⟨⟨zq_m6 205 rfl rfl, zq_m1 12 rfl rfl, ⟨by decide +kernel, by decide +kernel, by decide +kernel⟩, by decide +kernel, Nat.le_of_ble_eq_true rfl⟩, zq_m6 204 rfl rfl, zq_m0 71 rfl rfl⟩
theorem zd_X11_takesE : zq_cd YX11_takesE 1 ∧ Cond.instanceMethod yX11_takesE ∈ zq_T ∧ Cond.selects yX11_takesE.cls yX11_takesE yX11_takesE ∈ zq_T := ⟨⟨zq_m6 201 rfl rfl, zq_m1 12 rfl rfl, ⟨by decide +kernel, by decide +kernel, by decide +kernel⟩, by decide +kernel, Nat.le_of_ble_eq_true rfl⟩, zq_m6 200 rfl rfl, zq_m0 70 rfl rfl⟩
theorem zd_X11_takesHead : zq_cd YX11_takesHead 1 ∧ Cond.instanceMethod yX11_takesHead ∈ zq_T ∧ Cond.selects yX11_takesHead.cls yX11_takesHead yX11_takesHead ∈ zq_T := ⟨⟨zq_m6 185 rfl rfl, zq_m1 12 rfl rfl, ⟨by decide +kernel, by decide +kernel, by decide +kernel⟩, by decide +kernel, Nat.le_of_ble_eq_true rfl⟩, zq_m6 184 rfl rfl, zq_m0 66 rfl rfl⟩
theorem zd_X11_takesClause : zq_cd YX11_takesClause 1 ∧ Cond.instanceMethod yX11_takesClause ∈ zq_T ∧ Cond.selects yX11_takesClause.cls yX11_takesClause yX11_takesClause ∈ zq_T := ⟨⟨zq_m6 181 rfl rfl, zq_m1 12 rfl rfl, ⟨by decide +kernel, by decide +kernel, by decide +kernel⟩, by decide +kernel, Nat.le_of_ble_eq_true rfl⟩, zq_m6 180 rfl rfl, zq_m0 65 rfl rfl⟩
theorem zd_X11_goesText : zq_cd YX11_goesText 1 ∧ Cond.instanceMethod yX11_goesText ∈ zq_T ∧ Cond.selects yX11_goesText.cls yX11_goesText yX11_goesText ∈ zq_T := ⟨⟨zq_m6 177 rfl rfl, zq_m1 12 rfl rfl, ⟨by decide +kernel, by decide +kernel, by decide +kernel⟩, by decide +kernel, Nat.le_of_ble_eq_true rfl⟩, zq_m6 176 rfl rfl, zq_m0 64 rfl rfl⟩
theorem zd_X11_house : zq_cd YX11_house 0 ∧ Cond.instanceMethod yX11_house ∈ zq_T ∧ Cond.selects yX11_house.cls yX11_house yX11_house ∈ zq_T := ⟨⟨zq_m6 173 rfl rfl, zq_m1 12 rfl rfl, ⟨by decide +kernel, by decide +kernel, by decide +kernel⟩, by decide +kernel, Nat.le_of_ble_eq_true rfl⟩, zq_m6 171 rfl rfl, zq_m6 172 rfl rfl⟩
theorem zd_X11_first : zq_cd YX11_first 0 ∧ Cond.instanceMethod yX11_first ∈ zq_T ∧ Cond.selects yX11_first.cls yX11_first yX11_first ∈ zq_T := ⟨⟨zq_m6 117 rfl rfl, zq_m1 12 rfl rfl, ⟨by decide +kernel, by decide +kernel, by decide +kernel⟩, by decide +kernel, Nat.le_of_ble_eq_true rfl⟩, zq_m6 116 rfl rfl, zq_m0 54 rfl rfl⟩
theorem zd_X11_behind : zq_cd YX11_behind 0 ∧ Cond.instanceMethod yX11_behind ∈ zq_T ∧ Cond.selects yX11_behind.cls yX11_behind yX11_behind ∈ zq_T := ⟨⟨zq_m6 121 rfl rfl, zq_m1 12 rfl rfl, ⟨by decide +kernel, by decide +kernel, by decide +kernel⟩, by decide +kernel, Nat.le_of_ble_eq_true rfl⟩, zq_m6 120 rfl rfl, zq_m0 55 rfl rfl⟩
theorem zd_X11_sameNow : zq_cd YX11_sameNow 0 ∧ Cond.instanceMethod yX11_sameNow ∈ zq_T ∧ Cond.selects yX11_sameNow.cls yX11_sameNow yX11_sameNow ∈ zq_T := ⟨⟨zq_m6 113 rfl rfl, zq_m1 12 rfl rfl, ⟨by decide +kernel, by decide +kernel, by decide +kernel⟩, by decide +kernel, Nat.le_of_ble_eq_true rfl⟩, zq_m6 112 rfl rfl, zq_m0 53 rfl rfl⟩
theorem zd_X11_told : zq_cd YX11_told 1 ∧ Cond.instanceMethod yX11_told ∈ zq_T ∧ Cond.selects yX11_told.cls yX11_told yX11_told ∈ zq_T := ⟨⟨zq_m6 233 rfl rfl, zq_m1 12 rfl rfl, ⟨by decide +kernel, by decide +kernel, by decide +kernel⟩, by decide +kernel, Nat.le_of_ble_eq_true rfl⟩, zq_m6 231 rfl rfl, zq_m6 232 rfl rfl⟩
theorem zd_X11_factOf : zq_cd YX11_factOf 5 ∧ Cond.instanceMethod yX11_factOf ∈ zq_T ∧ Cond.selects yX11_factOf.cls yX11_factOf yX11_factOf ∈ zq_T := ⟨⟨zq_m7 9 rfl rfl, zq_m1 12 rfl rfl, ⟨by decide +kernel, by decide +kernel, by decide +kernel⟩, by decide +kernel, Nat.le_of_ble_eq_true rfl⟩, zq_m7 8 rfl rfl, zq_m0 80 rfl rfl⟩
theorem zd_X11_holds : zq_cd YX11_holds 5 ∧ Cond.instanceMethod yX11_holds ∈ zq_T ∧ Cond.selects yX11_holds.cls yX11_holds yX11_holds ∈ zq_T := ⟨⟨zq_m7 5 rfl rfl, zq_m1 12 rfl rfl, ⟨by decide +kernel, by decide +kernel, by decide +kernel⟩, by decide +kernel, Nat.le_of_ble_eq_true rfl⟩, zq_m7 4 rfl rfl, zq_m0 79 rfl rfl⟩
theorem zd_X11_sumOf : zq_cd YX11_sumOf 5 ∧ Cond.instanceMethod yX11_sumOf ∈ zq_T ∧ Cond.selects yX11_sumOf.cls yX11_sumOf yX11_sumOf ∈ zq_T := ⟨⟨zq_m7 1 rfl rfl, zq_m1 12 rfl rfl, ⟨by decide +kernel, by decide +kernel, by decide +kernel⟩, by decide +kernel, Nat.le_of_ble_eq_true rfl⟩, zq_m7 0 rfl rfl, zq_m0 78 rfl rfl⟩
theorem zd_X11_isBarred : zq_cd YX11_isBarred 3 ∧ Cond.instanceMethod yX11_isBarred ∈ zq_T ∧ Cond.selects yX11_isBarred.cls yX11_isBarred yX11_isBarred ∈ zq_T := ⟨⟨zq_m7 13 rfl rfl, zq_m1 12 rfl rfl, ⟨by decide +kernel, by decide +kernel, by decide +kernel⟩, by decide +kernel, Nat.le_of_ble_eq_true rfl⟩, zq_m7 12 rfl rfl, zq_m0 81 rfl rfl⟩
theorem zd_X11_layComings : zq_cd YX11_layComings 0 ∧ Cond.instanceMethod yX11_layComings ∈ zq_T ∧ Cond.selects yX11_layComings.cls yX11_layComings yX11_layComings ∈ zq_T := ⟨⟨zq_m7 41 rfl rfl, zq_m1 12 rfl rfl, ⟨by decide +kernel, by decide +kernel, by decide +kernel⟩, by decide +kernel, Nat.le_of_ble_eq_true rfl⟩, zq_m7 40 rfl rfl, zq_m0 85 rfl rfl⟩
theorem zd_X11_comingOf : zq_cd YX11_comingOf 3 ∧ Cond.instanceMethod yX11_comingOf ∈ zq_T ∧ Cond.selects yX11_comingOf.cls yX11_comingOf yX11_comingOf ∈ zq_T := ⟨⟨zq_m7 69 rfl rfl, zq_m1 12 rfl rfl, ⟨by decide +kernel, by decide +kernel, by decide +kernel⟩, by decide +kernel, Nat.le_of_ble_eq_true rfl⟩, zq_m7 68 rfl rfl, zq_m0 92 rfl rfl⟩
theorem zd_X11_mayCome : zq_cd YX11_mayCome 3 ∧ Cond.instanceMethod yX11_mayCome ∈ zq_T ∧ Cond.selects yX11_mayCome.cls yX11_mayCome yX11_mayCome ∈ zq_T := ⟨⟨zq_m7 65 rfl rfl, zq_m1 12 rfl rfl, ⟨by decide +kernel, by decide +kernel, by decide +kernel⟩, by decide +kernel, Nat.le_of_ble_eq_true rfl⟩, zq_m7 64 rfl rfl, zq_m0 91 rfl rfl⟩
theorem zd_X11_coming : zq_cd YX11_coming 3 ∧ Cond.instanceMethod yX11_coming ∈ zq_T ∧ Cond.selects yX11_coming.cls yX11_coming yX11_coming ∈ zq_T := ⟨⟨zq_m6 237 rfl rfl, zq_m1 12 rfl rfl, ⟨by decide +kernel, by decide +kernel, by decide +kernel⟩, by decide +kernel, Nat.le_of_ble_eq_true rfl⟩, zq_m6 235 rfl rfl, zq_m6 236 rfl rfl⟩
theorem zd_X11_come : zq_cd YX11_come 2 ∧ Cond.instanceMethod yX11_come ∈ zq_T ∧ Cond.selects yX11_come.cls yX11_come yX11_come ∈ zq_T := ⟨⟨zq_m7 17 rfl rfl, zq_m1 12 rfl rfl, ⟨by decide +kernel, by decide +kernel, by decide +kernel⟩, by decide +kernel, Nat.le_of_ble_eq_true rfl⟩, zq_m7 15 rfl rfl, zq_m7 16 rfl rfl⟩
theorem zd_X11_said : zq_cd YX11_said 2 ∧ Cond.instanceMethod yX11_said ∈ zq_T ∧ Cond.selects yX11_said.cls yX11_said yX11_said ∈ zq_T := ⟨⟨zq_m7 33 rfl rfl, zq_m1 12 rfl rfl, ⟨by decide +kernel, by decide +kernel, by decide +kernel⟩, by decide +kernel, Nat.le_of_ble_eq_true rfl⟩, zq_m7 32 rfl rfl, zq_m0 84 rfl rfl⟩
theorem zd_X11_say : zq_cd YX11_say 2 ∧ Cond.instanceMethod yX11_say ∈ zq_T ∧ Cond.selects yX11_say.cls yX11_say yX11_say ∈ zq_T := ⟨⟨zq_m7 21 rfl rfl, zq_m1 12 rfl rfl, ⟨by decide +kernel, by decide +kernel, by decide +kernel⟩, by decide +kernel, Nat.le_of_ble_eq_true rfl⟩, zq_m7 19 rfl rfl, zq_m7 20 rfl rfl⟩
theorem zd_X11_places : zq_cd YX11_places 0 ∧ Cond.instanceMethod yX11_places ∈ zq_T ∧ Cond.selects yX11_places.cls yX11_places yX11_places ∈ zq_T := ⟨⟨zq_m7 53 rfl rfl, zq_m1 12 rfl rfl, ⟨by decide +kernel, by decide +kernel, by decide +kernel⟩, by decide +kernel, Nat.le_of_ble_eq_true rfl⟩, zq_m7 52 rfl rfl, zq_m0 88 rfl rfl⟩
theorem zd_X11_beginAt : zq_cd YX11_beginAt 1 ∧ Cond.instanceMethod yX11_beginAt ∈ zq_T ∧ Cond.selects yX11_beginAt.cls yX11_beginAt yX11_beginAt ∈ zq_T := ⟨⟨zq_m7 49 rfl rfl, zq_m1 12 rfl rfl, ⟨by decide +kernel, by decide +kernel, by decide +kernel⟩, by decide +kernel, Nat.le_of_ble_eq_true rfl⟩, zq_m7 48 rfl rfl, zq_m0 87 rfl rfl⟩
theorem zd_X11_goOn : zq_cd YX11_goOn 0 ∧ Cond.instanceMethod yX11_goOn ∈ zq_T ∧ Cond.selects yX11_goOn.cls yX11_goOn yX11_goOn ∈ zq_T := ⟨⟨zq_m7 61 rfl rfl, zq_m1 12 rfl rfl, ⟨by decide +kernel, by decide +kernel, by decide +kernel⟩, by decide +kernel, Nat.le_of_ble_eq_true rfl⟩, zq_m7 60 rfl rfl, zq_m0 90 rfl rfl⟩
theorem zd_X11_canSpeak : zq_cd YX11_canSpeak 3 ∧ Cond.instanceMethod yX11_canSpeak ∈ zq_T ∧ Cond.selects yX11_canSpeak.cls yX11_canSpeak yX11_canSpeak ∈ zq_T := ⟨⟨zq_m7 57 rfl rfl, zq_m1 12 rfl rfl, ⟨by decide +kernel, by decide +kernel, by decide +kernel⟩, by decide +kernel, Nat.le_of_ble_eq_true rfl⟩, zq_m7 56 rfl rfl, zq_m0 89 rfl rfl⟩
theorem zd_X11_soonestOf : zq_cd YX11_soonestOf 2 ∧ Cond.instanceMethod yX11_soonestOf ∈ zq_T ∧ Cond.selects yX11_soonestOf.cls yX11_soonestOf yX11_soonestOf ∈ zq_T := ⟨⟨zq_m7 45 rfl rfl, zq_m1 12 rfl rfl, ⟨by decide +kernel, by decide +kernel, by decide +kernel⟩, by decide +kernel, Nat.le_of_ble_eq_true rfl⟩, zq_m7 44 rfl rfl, zq_m0 86 rfl rfl⟩
theorem zd_X11_leadsBy : zq_cd YX11_leadsBy 4 ∧ Cond.instanceMethod yX11_leadsBy ∈ zq_T ∧ Cond.selects yX11_leadsBy.cls yX11_leadsBy yX11_leadsBy ∈ zq_T := ⟨⟨zq_m7 73 rfl rfl, zq_m1 12 rfl rfl, ⟨by decide +kernel, by decide +kernel, by decide +kernel⟩, by decide +kernel, Nat.le_of_ble_eq_true rfl⟩, zq_m7 72 rfl rfl, zq_m0 93 rfl rfl⟩
theorem zd_X11_soonest : zq_cd YX11_soonest 3 ∧ Cond.instanceMethod yX11_soonest ∈ zq_T ∧ Cond.selects yX11_soonest.cls yX11_soonest yX11_soonest ∈ zq_T := ⟨⟨zq_m7 37 rfl rfl, zq_m1 12 rfl rfl, ⟨by decide +kernel, by decide +kernel, by decide +kernel⟩, by decide +kernel, Nat.le_of_ble_eq_true rfl⟩, zq_m7 35 rfl rfl, zq_m7 36 rfl rfl⟩
theorem zd_X11_goOnCheap : zq_cd YX11_goOnCheap 0 ∧ Cond.instanceMethod yX11_goOnCheap ∈ zq_T ∧ Cond.selects yX11_goOnCheap.cls yX11_goOnCheap yX11_goOnCheap ∈ zq_T := ⟨⟨zq_m7 81 rfl rfl, zq_m1 12 rfl rfl, ⟨by decide +kernel, by decide +kernel, by decide +kernel⟩, by decide +kernel, Nat.le_of_ble_eq_true rfl⟩, zq_m7 80 rfl rfl, zq_m0 94 rfl rfl⟩
theorem zd_X11_cheapest : zq_cd YX11_cheapest 3 ∧ Cond.instanceMethod yX11_cheapest ∈ zq_T ∧ Cond.selects yX11_cheapest.cls yX11_cheapest yX11_cheapest ∈ zq_T := ⟨⟨zq_m7 77 rfl rfl, zq_m1 12 rfl rfl, ⟨by decide +kernel, by decide +kernel, by decide +kernel⟩, by decide +kernel, Nat.le_of_ble_eq_true rfl⟩, zq_m7 75 rfl rfl, zq_m7 76 rfl rfl⟩
theorem zd_X11_never : zq_cd YX11_never 1 ∧ Cond.instanceMethod yX11_never ∈ zq_T ∧ Cond.selects yX11_never.cls yX11_never yX11_never ∈ zq_T := ⟨⟨zq_m7 85 rfl rfl, zq_m1 12 rfl rfl, ⟨by decide +kernel, by decide +kernel, by decide +kernel⟩, by decide +kernel, Nat.le_of_ble_eq_true rfl⟩, zq_m7 83 rfl rfl, zq_m7 84 rfl rfl⟩
theorem zd_X11_spread : zq_cd YX11_spread 3 ∧ Cond.instanceMethod yX11_spread ∈ zq_T ∧ Cond.selects yX11_spread.cls yX11_spread yX11_spread ∈ zq_T := ⟨⟨zq_m7 97 rfl rfl, zq_m1 12 rfl rfl, ⟨by decide +kernel, by decide +kernel, by decide +kernel⟩, by decide +kernel, Nat.le_of_ble_eq_true rfl⟩, zq_m7 96 rfl rfl, zq_m0 96 rfl rfl⟩
theorem zd_X11_goOnKnown : zq_cd YX11_goOnKnown 1 ∧ Cond.instanceMethod yX11_goOnKnown ∈ zq_T ∧ Cond.selects yX11_goOnKnown.cls yX11_goOnKnown yX11_goOnKnown ∈ zq_T := ⟨⟨zq_m7 101 rfl rfl, zq_m1 12 rfl rfl, ⟨by decide +kernel, by decide +kernel, by decide +kernel⟩, by decide +kernel, Nat.le_of_ble_eq_true rfl⟩, zq_m7 100 rfl rfl, zq_m0 97 rfl rfl⟩
theorem zd_X11_fewestBy : zq_cd YX11_fewestBy 3 ∧ Cond.instanceMethod yX11_fewestBy ∈ zq_T ∧ Cond.selects yX11_fewestBy.cls yX11_fewestBy yX11_fewestBy ∈ zq_T := ⟨⟨zq_m7 93 rfl rfl, zq_m1 12 rfl rfl, ⟨by decide +kernel, by decide +kernel, by decide +kernel⟩, by decide +kernel, Nat.le_of_ble_eq_true rfl⟩, zq_m7 92 rfl rfl, zq_m0 95 rfl rfl⟩
theorem zd_X11_heard : zq_cd YX11_heard 1 ∧ Cond.instanceMethod yX11_heard ∈ zq_T ∧ Cond.selects yX11_heard.cls yX11_heard yX11_heard ∈ zq_T := ⟨⟨zq_m7 89 rfl rfl, zq_m1 12 rfl rfl, ⟨by decide +kernel, by decide +kernel, by decide +kernel⟩, by decide +kernel, Nat.le_of_ble_eq_true rfl⟩, zq_m7 87 rfl rfl, zq_m7 88 rfl rfl⟩
theorem zd_X11_secret : zq_cd YX11_secret 3 ∧ Cond.instanceMethod yX11_secret ∈ zq_T ∧ Cond.selects yX11_secret.cls yX11_secret yX11_secret ∈ zq_T := ⟨⟨zq_m7 105 rfl rfl, zq_m1 12 rfl rfl, ⟨by decide +kernel, by decide +kernel, by decide +kernel⟩, by decide +kernel, Nat.le_of_ble_eq_true rfl⟩, zq_m7 103 rfl rfl, zq_m7 104 rfl rfl⟩
theorem zd_X11_isWon : zq_cd YX11_isWon 4 ∧ Cond.instanceMethod yX11_isWon ∈ zq_T ∧ Cond.selects yX11_isWon.cls yX11_isWon yX11_isWon ∈ zq_T := ⟨⟨zq_m7 129 rfl rfl, zq_m1 12 rfl rfl, ⟨by decide +kernel, by decide +kernel, by decide +kernel⟩, by decide +kernel, Nat.le_of_ble_eq_true rfl⟩, zq_m7 128 rfl rfl, zq_m0 102 rfl rfl⟩
theorem zd_X11_mayTurn : zq_cd YX11_mayTurn 2 ∧ Cond.instanceMethod yX11_mayTurn ∈ zq_T ∧ Cond.selects yX11_mayTurn.cls yX11_mayTurn yX11_mayTurn ∈ zq_T := ⟨⟨zq_m7 117 rfl rfl, zq_m1 12 rfl rfl, ⟨by decide +kernel, by decide +kernel, by decide +kernel⟩, by decide +kernel, Nat.le_of_ble_eq_true rfl⟩, zq_m7 116 rfl rfl, zq_m0 99 rfl rfl⟩
theorem zd_X11_behindTurn : zq_cd YX11_behindTurn 2 ∧ Cond.instanceMethod yX11_behindTurn ∈ zq_T ∧ Cond.selects yX11_behindTurn.cls yX11_behindTurn yX11_behindTurn ∈ zq_T := ⟨⟨zq_m7 121 rfl rfl, zq_m1 12 rfl rfl, ⟨by decide +kernel, by decide +kernel, by decide +kernel⟩, by decide +kernel, Nat.le_of_ble_eq_true rfl⟩, zq_m7 120 rfl rfl, zq_m0 100 rfl rfl⟩
theorem zd_X11_turns : zq_cd YX11_turns 0 ∧ Cond.instanceMethod yX11_turns ∈ zq_T ∧ Cond.selects yX11_turns.cls yX11_turns yX11_turns ∈ zq_T := ⟨⟨zq_m7 113 rfl rfl, zq_m1 12 rfl rfl, ⟨by decide +kernel, by decide +kernel, by decide +kernel⟩, by decide +kernel, Nat.le_of_ble_eq_true rfl⟩, zq_m7 112 rfl rfl, zq_m0 98 rfl rfl⟩
theorem zd_X11_winsThird : zq_cd YX11_winsThird 5 ∧ Cond.instanceMethod yX11_winsThird ∈ zq_T ∧ Cond.selects yX11_winsThird.cls yX11_winsThird yX11_winsThird ∈ zq_T := ⟨⟨zq_m7 133 rfl rfl, zq_m1 12 rfl rfl, ⟨by decide +kernel, by decide +kernel, by decide +kernel⟩, by decide +kernel, Nat.le_of_ble_eq_true rfl⟩, zq_m7 132 rfl rfl, zq_m0 103 rfl rfl⟩
theorem zd_X11_winsSecond : zq_cd YX11_winsSecond 5 ∧ Cond.instanceMethod yX11_winsSecond ∈ zq_T ∧ Cond.selects yX11_winsSecond.cls yX11_winsSecond yX11_winsSecond ∈ zq_T := ⟨⟨zq_m7 125 rfl rfl, zq_m1 12 rfl rfl, ⟨by decide +kernel, by decide +kernel, by decide +kernel⟩, by decide +kernel, Nat.le_of_ble_eq_true rfl⟩, zq_m7 124 rfl rfl, zq_m0 101 rfl rfl⟩
theorem zd_X11_game : zq_cd YX11_game 3 ∧ Cond.instanceMethod yX11_game ∈ zq_T ∧ Cond.selects yX11_game.cls yX11_game yX11_game ∈ zq_T := ⟨⟨zq_m7 109 rfl rfl, zq_m1 12 rfl rfl, ⟨by decide +kernel, by decide +kernel, by decide +kernel⟩, by decide +kernel, Nat.le_of_ble_eq_true rfl⟩, zq_m7 107 rfl rfl, zq_m7 108 rfl rfl⟩
theorem zd_X11_votes : zq_cd YX11_votes 2 ∧ Cond.instanceMethod yX11_votes ∈ zq_T ∧ Cond.selects yX11_votes.cls yX11_votes yX11_votes ∈ zq_T := ⟨⟨zq_m7 137 rfl rfl, zq_m1 12 rfl rfl, ⟨by decide +kernel, by decide +kernel, by decide +kernel⟩, by decide +kernel, Nat.le_of_ble_eq_true rfl⟩, zq_m7 135 rfl rfl, zq_m7 136 rfl rfl⟩
theorem zd_X11_spoken : zq_cd YX11_spoken 2 ∧ Cond.instanceMethod yX11_spoken ∈ zq_T ∧ Cond.selects yX11_spoken.cls yX11_spoken yX11_spoken ∈ zq_T := ⟨⟨zq_m7 141 rfl rfl, zq_m1 12 rfl rfl, ⟨by decide +kernel, by decide +kernel, by decide +kernel⟩, by decide +kernel, Nat.le_of_ble_eq_true rfl⟩, zq_m7 139 rfl rfl, zq_m7 140 rfl rfl⟩
theorem zd_X11_layOrder : zq_cd YX11_layOrder 1 ∧ Cond.instanceMethod yX11_layOrder ∈ zq_T ∧ Cond.selects yX11_layOrder.cls yX11_layOrder yX11_layOrder ∈ zq_T := ⟨⟨zq_m7 153 rfl rfl, zq_m1 12 rfl rfl, ⟨by decide +kernel, by decide +kernel, by decide +kernel⟩, by decide +kernel, Nat.le_of_ble_eq_true rfl⟩, zq_m7 152 rfl rfl, zq_m0 105 rfl rfl⟩
theorem zd_X11_goesWithRows : zq_cd YX11_goesWithRows 0 ∧ Cond.instanceMethod yX11_goesWithRows ∈ zq_T ∧ Cond.selects yX11_goesWithRows.cls yX11_goesWithRows yX11_goesWithRows ∈ zq_T := ⟨⟨zq_m7 157 rfl rfl, zq_m1 12 rfl rfl, ⟨by decide +kernel, by decide +kernel, by decide +kernel⟩, by decide +kernel, Nat.le_of_ble_eq_true rfl⟩, zq_m7 156 rfl rfl, zq_m0 106 rfl rfl⟩
theorem zd_X11_fits : zq_cd YX11_fits 0 ∧ Cond.instanceMethod yX11_fits ∈ zq_T ∧ Cond.selects yX11_fits.cls yX11_fits yX11_fits ∈ zq_T := ⟨⟨zq_m7 149 rfl rfl, zq_m1 12 rfl rfl, ⟨by decide +kernel, by decide +kernel, by decide +kernel⟩, by decide +kernel, Nat.le_of_ble_eq_true rfl⟩, zq_m7 147 rfl rfl, zq_m7 148 rfl rfl⟩
theorem zd_X11_divisor : zq_cd YX11_divisor 2 ∧ Cond.instanceMethod yX11_divisor ∈ zq_T ∧ Cond.selects yX11_divisor.cls yX11_divisor yX11_divisor ∈ zq_T := ⟨⟨zq_m7 178 rfl rfl, zq_m1 12 rfl rfl, ⟨by decide +kernel, by decide +kernel, by decide +kernel⟩, by decide +kernel, Nat.le_of_ble_eq_true rfl⟩, zq_m7 177 rfl rfl, zq_m0 110 rfl rfl⟩
theorem zd_X11_waysFrom : zq_cd YX11_waysFrom 1 ∧ Cond.instanceMethod yX11_waysFrom ∈ zq_T ∧ Cond.selects yX11_waysFrom.cls yX11_waysFrom yX11_waysFrom ∈ zq_T := ⟨⟨zq_m7 170 rfl rfl, zq_m1 12 rfl rfl, ⟨by decide +kernel, by decide +kernel, by decide +kernel⟩, by decide +kernel, Nat.le_of_ble_eq_true rfl⟩, zq_m7 169 rfl rfl, zq_m0 108 rfl rfl⟩
theorem zd_X11_speaksBehind : zq_cd YX11_speaksBehind 3 ∧ Cond.instanceMethod yX11_speaksBehind ∈ zq_T ∧ Cond.selects yX11_speaksBehind.cls yX11_speaksBehind yX11_speaksBehind ∈ zq_T := ⟨⟨zq_m7 186 rfl rfl, zq_m1 12 rfl rfl, ⟨by decide +kernel, by decide +kernel, by decide +kernel⟩, by decide +kernel, Nat.le_of_ble_eq_true rfl⟩, zq_m7 185 rfl rfl, zq_m0 112 rfl rfl⟩
theorem zd_X11_addLot : zq_cd YX11_addLot 2 ∧ Cond.instanceMethod yX11_addLot ∈ zq_T ∧ Cond.selects yX11_addLot.cls yX11_addLot yX11_addLot ∈ zq_T := ⟨⟨zq_m7 174 rfl rfl, zq_m1 12 rfl rfl, ⟨by decide +kernel, by decide +kernel, by decide +kernel⟩, by decide +kernel, Nat.le_of_ble_eq_true rfl⟩, zq_m7 173 rfl rfl, zq_m0 109 rfl rfl⟩
theorem zd_X11_addFrom : zq_cd YX11_addFrom 4 ∧ Cond.instanceMethod yX11_addFrom ∈ zq_T ∧ Cond.selects yX11_addFrom.cls yX11_addFrom yX11_addFrom ∈ zq_T := ⟨⟨zq_m7 182 rfl rfl, zq_m1 12 rfl rfl, ⟨by decide +kernel, by decide +kernel, by decide +kernel⟩, by decide +kernel, Nat.le_of_ble_eq_true rfl⟩, zq_m7 181 rfl rfl, zq_m0 111 rfl rfl⟩
theorem zd_X11_layLot : zq_cd YX11_layLot 2 ∧ Cond.instanceMethod yX11_layLot ∈ zq_T ∧ Cond.selects yX11_layLot.cls yX11_layLot yX11_layLot ∈ zq_T := ⟨⟨zq_m7 166 rfl rfl, zq_m1 12 rfl rfl, ⟨by decide +kernel, by decide +kernel, by decide +kernel⟩, by decide +kernel, Nat.le_of_ble_eq_true rfl⟩, zq_m7 165 rfl rfl, zq_m0 107 rfl rfl⟩
theorem zd_X11_lot : zq_cd YX11_lot 3 ∧ Cond.instanceMethod yX11_lot ∈ zq_T ∧ Cond.selects yX11_lot.cls yX11_lot yX11_lot ∈ zq_T := ⟨⟨zq_m7 161 rfl rfl, zq_m1 12 rfl rfl, ⟨by decide +kernel, by decide +kernel, by decide +kernel⟩, by decide +kernel, Nat.le_of_ble_eq_true rfl⟩, zq_m7 159 rfl rfl, zq_m7 160 rfl rfl⟩
theorem zd_X11_book : zq_cd YX11_book 1 ∧ Cond.instanceMethod yX11_book ∈ zq_T ∧ Cond.selects yX11_book.cls yX11_book yX11_book ∈ zq_T := ⟨⟨zq_m7 190 rfl rfl, zq_m1 12 rfl rfl, ⟨by decide +kernel, by decide +kernel, by decide +kernel⟩, by decide +kernel, Nat.le_of_ble_eq_true rfl⟩, zq_m7 188 rfl rfl, zq_m7 189 rfl rfl⟩
theorem zd_X11_readBook : zq_cd YX11_readBook 0 ∧ Cond.instanceMethod yX11_readBook ∈ zq_T ∧ Cond.selects yX11_readBook.cls yX11_readBook yX11_readBook ∈ zq_T := ⟨⟨zq_m7 194 rfl rfl, zq_m1 12 rfl rfl, ⟨by decide +kernel, by decide +kernel, by decide +kernel⟩, by decide +kernel, Nat.le_of_ble_eq_true rfl⟩, zq_m7 192 rfl rfl, zq_m7 193 rfl rfl⟩
theorem zd_X11_judge : zq_cd YX11_judge 2 ∧ Cond.instanceMethod yX11_judge ∈ zq_T ∧ Cond.selects yX11_judge.cls yX11_judge yX11_judge ∈ zq_T := ⟨⟨zq_m7 198 rfl rfl, zq_m1 12 rfl rfl, ⟨by decide +kernel, by decide +kernel, by decide +kernel⟩, by decide +kernel, Nat.le_of_ble_eq_true rfl⟩, zq_m7 196 rfl rfl, zq_m7 197 rfl rfl⟩
theorem zd_X11_image : zq_cd YX11_image 0 ∧ Cond.instanceMethod yX11_image ∈ zq_T ∧ Cond.selects yX11_image.cls yX11_image yX11_image ∈ zq_T := ⟨⟨zq_m7 206 rfl rfl, zq_m1 12 rfl rfl, ⟨by decide +kernel, by decide +kernel, by decide +kernel⟩, by decide +kernel, Nat.le_of_ble_eq_true rfl⟩, zq_m7 204 rfl rfl, zq_m7 205 rfl rfl⟩
theorem zd_X11_undo : zq_cd YX11_undo 0 ∧ Cond.instanceMethod yX11_undo ∈ zq_T ∧ Cond.selects yX11_undo.cls yX11_undo yX11_undo ∈ zq_T := ⟨⟨zq_m7 210 rfl rfl, zq_m1 12 rfl rfl, ⟨by decide +kernel, by decide +kernel, by decide +kernel⟩, by decide +kernel, Nat.le_of_ble_eq_true rfl⟩, zq_m7 208 rfl rfl, zq_m7 209 rfl rfl⟩
theorem zd_X11_body : zq_cd YX11_body 1 ∧ Cond.instanceMethod yX11_body ∈ zq_T ∧ Cond.selects yX11_body.cls yX11_body yX11_body ∈ zq_T := ⟨⟨zq_m7 222 rfl rfl, zq_m1 12 rfl rfl, ⟨by decide +kernel, by decide +kernel, by decide +kernel⟩, by decide +kernel, Nat.le_of_ble_eq_true rfl⟩, zq_m7 221 rfl rfl, zq_m0 115 rfl rfl⟩
theorem zd_X11_roomHears : zq_cd YX11_roomHears 2 ∧ Cond.instanceMethod yX11_roomHears ∈ zq_T ∧ Cond.selects yX11_roomHears.cls yX11_roomHears yX11_roomHears ∈ zq_T := ⟨⟨zq_m7 226 rfl rfl, zq_m1 12 rfl rfl, ⟨by decide +kernel, by decide +kernel, by decide +kernel⟩, by decide +kernel, Nat.le_of_ble_eq_true rfl⟩, zq_m7 225 rfl rfl, zq_m0 116 rfl rfl⟩
theorem zd_X11_hearsAct : zq_cd YX11_hearsAct 2 ∧ Cond.instanceMethod yX11_hearsAct ∈ zq_T ∧ Cond.selects yX11_hearsAct.cls yX11_hearsAct yX11_hearsAct ∈ zq_T := ⟨⟨zq_m7 218 rfl rfl, zq_m1 12 rfl rfl, ⟨by decide +kernel, by decide +kernel, by decide +kernel⟩, by decide +kernel, Nat.le_of_ble_eq_true rfl⟩, zq_m7 217 rfl rfl, zq_m0 114 rfl rfl⟩
theorem zd_X11_roomSpeaks : zq_cd YX11_roomSpeaks 2 ∧ Cond.instanceMethod yX11_roomSpeaks ∈ zq_T ∧ Cond.selects yX11_roomSpeaks.cls yX11_roomSpeaks yX11_roomSpeaks ∈ zq_T := ⟨⟨zq_m7 238 rfl rfl, zq_m1 12 rfl rfl, ⟨by decide +kernel, by decide +kernel, by decide +kernel⟩, by decide +kernel, Nat.le_of_ble_eq_true rfl⟩, zq_m7 237 rfl rfl, zq_m0 119 rfl rfl⟩
theorem zd_X11_lowerSpeaks : zq_cd YX11_lowerSpeaks 2 ∧ Cond.instanceMethod yX11_lowerSpeaks ∈ zq_T ∧ Cond.selects yX11_lowerSpeaks.cls yX11_lowerSpeaks yX11_lowerSpeaks ∈ zq_T := ⟨⟨zq_m7 234 rfl rfl, zq_m1 12 rfl rfl, ⟨by decide +kernel, by decide +kernel, by decide +kernel⟩, by decide +kernel, Nat.le_of_ble_eq_true rfl⟩, zq_m7 233 rfl rfl, zq_m0 118 rfl rfl⟩
theorem zd_X11_speaksAct : zq_cd YX11_speaksAct 2 ∧ Cond.instanceMethod yX11_speaksAct ∈ zq_T ∧ Cond.selects yX11_speaksAct.cls yX11_speaksAct yX11_speaksAct ∈ zq_T := ⟨⟨zq_m7 230 rfl rfl, zq_m1 12 rfl rfl, ⟨by decide +kernel, by decide +kernel, by decide +kernel⟩, by decide +kernel, Nat.le_of_ble_eq_true rfl⟩, zq_m7 229 rfl rfl, zq_m0 117 rfl rfl⟩
theorem zd_X11_roomTells : zq_cd YX11_roomTells 2 ∧ Cond.instanceMethod yX11_roomTells ∈ zq_T ∧ Cond.selects yX11_roomTells.cls yX11_roomTells yX11_roomTells ∈ zq_T := ⟨⟨zq_m8 6 rfl rfl, zq_m1 12 rfl rfl, ⟨by decide +kernel, by decide +kernel, by decide +kernel⟩, by decide +kernel, Nat.le_of_ble_eq_true rfl⟩, zq_m8 5 rfl rfl, zq_m0 121 rfl rfl⟩
theorem zd_X11_tellsAct : zq_cd YX11_tellsAct 2 ∧ Cond.instanceMethod yX11_tellsAct ∈ zq_T ∧ Cond.selects yX11_tellsAct.cls yX11_tellsAct yX11_tellsAct ∈ zq_T := ⟨⟨zq_m8 2 rfl rfl, zq_m1 12 rfl rfl, ⟨by decide +kernel, by decide +kernel, by decide +kernel⟩, by decide +kernel, Nat.le_of_ble_eq_true rfl⟩, zq_m8 1 rfl rfl, zq_m0 120 rfl rfl⟩
theorem zd_X11_act : zq_cd YX11_act 3 ∧ Cond.instanceMethod yX11_act ∈ zq_T ∧ Cond.selects yX11_act.cls yX11_act yX11_act ∈ zq_T := ⟨⟨zq_m7 214 rfl rfl, zq_m1 12 rfl rfl, ⟨by decide +kernel, by decide +kernel, by decide +kernel⟩, by decide +kernel, Nat.le_of_ble_eq_true rfl⟩, zq_m7 212 rfl rfl, zq_m7 213 rfl rfl⟩
theorem zd_X11_trace : zq_cd YX11_trace 1 ∧ Cond.instanceMethod yX11_trace ∈ zq_T ∧ Cond.selects yX11_trace.cls yX11_trace yX11_trace ∈ zq_T := ⟨⟨zq_m8 10 rfl rfl, zq_m1 12 rfl rfl, ⟨by decide +kernel, by decide +kernel, by decide +kernel⟩, by decide +kernel, Nat.le_of_ble_eq_true rfl⟩, zq_m8 8 rfl rfl, zq_m8 9 rfl rfl⟩
theorem zd_X11_taken : zq_cd YX11_taken 2 ∧ Cond.instanceMethod yX11_taken ∈ zq_T ∧ Cond.selects yX11_taken.cls yX11_taken yX11_taken ∈ zq_T := ⟨⟨zq_m8 14 rfl rfl, zq_m1 12 rfl rfl, ⟨by decide +kernel, by decide +kernel, by decide +kernel⟩, by decide +kernel, Nat.le_of_ble_eq_true rfl⟩, zq_m8 12 rfl rfl, zq_m8 13 rfl rfl⟩
theorem zd_X11_count : zq_cd YX11_count 1 ∧ Cond.instanceMethod yX11_count ∈ zq_T ∧ Cond.selects yX11_count.cls yX11_count yX11_count ∈ zq_T := ⟨⟨zq_m8 18 rfl rfl, zq_m1 12 rfl rfl, ⟨by decide +kernel, by decide +kernel, by decide +kernel⟩, by decide +kernel, Nat.le_of_ble_eq_true rfl⟩, zq_m8 16 rfl rfl, zq_m8 17 rfl rfl⟩
theorem zd_X11_isTape : zq_cd YX11_isTape 1 ∧ Cond.instanceMethod yX11_isTape ∈ zq_T ∧ Cond.selects yX11_isTape.cls yX11_isTape yX11_isTape ∈ zq_T := ⟨⟨zq_m7 202 rfl rfl, zq_m1 12 rfl rfl, ⟨by decide +kernel, by decide +kernel, by decide +kernel⟩, by decide +kernel, Nat.le_of_ble_eq_true rfl⟩, zq_m7 201 rfl rfl, zq_m0 113 rfl rfl⟩
theorem zd_X11_tape : zq_cd YX11_tape 3 ∧ Cond.instanceMethod yX11_tape ∈ zq_T ∧ Cond.selects yX11_tape.cls yX11_tape yX11_tape ∈ zq_T := ⟨⟨zq_m8 22 rfl rfl, zq_m1 12 rfl rfl, ⟨by decide +kernel, by decide +kernel, by decide +kernel⟩, by decide +kernel, Nat.le_of_ble_eq_true rfl⟩, zq_m8 20 rfl rfl, zq_m8 21 rfl rfl⟩
theorem zd_X11_narrow : zq_cd YX11_narrow 2 ∧ Cond.instanceMethod yX11_narrow ∈ zq_T ∧ Cond.selects yX11_narrow.cls yX11_narrow yX11_narrow ∈ zq_T := ⟨⟨zq_m8 30 rfl rfl, zq_m1 12 rfl rfl, ⟨by decide +kernel, by decide +kernel, by decide +kernel⟩, by decide +kernel, Nat.le_of_ble_eq_true rfl⟩, zq_m8 29 rfl rfl, zq_m0 122 rfl rfl⟩
theorem zd_X11_item : zq_cd YX11_item 3 ∧ Cond.instanceMethod yX11_item ∈ zq_T ∧ Cond.selects yX11_item.cls yX11_item yX11_item ∈ zq_T := ⟨⟨zq_m8 26 rfl rfl, zq_m1 12 rfl rfl, ⟨by decide +kernel, by decide +kernel, by decide +kernel⟩, by decide +kernel, Nat.le_of_ble_eq_true rfl⟩, zq_m8 24 rfl rfl, zq_m8 25 rfl rfl⟩
theorem zd_X11_read : zq_cd YX11_read 2 ∧ Cond.instanceMethod yX11_read ∈ zq_T ∧ Cond.selects yX11_read.cls yX11_read yX11_read ∈ zq_T := ⟨⟨zq_m8 34 rfl rfl, zq_m1 12 rfl rfl, ⟨by decide +kernel, by decide +kernel, by decide +kernel⟩, by decide +kernel, Nat.le_of_ble_eq_true rfl⟩, zq_m8 32 rfl rfl, zq_m8 33 rfl rfl⟩
theorem zd_X11_shift : zq_cd YX11_shift 5 ∧ Cond.instanceMethod yX11_shift ∈ zq_T ∧ Cond.selects yX11_shift.cls yX11_shift yX11_shift ∈ zq_T := ⟨⟨zq_m8 38 rfl rfl, zq_m1 12 rfl rfl, ⟨by decide +kernel, by decide +kernel, by decide +kernel⟩, by decide +kernel, Nat.le_of_ble_eq_true rfl⟩, zq_m8 36 rfl rfl, zq_m8 37 rfl rfl⟩
theorem zd_J6_bitCount_0f7a4 : zq_cd YJ6_bitCount_0f7a4 1 ∧ Cond.static yJ6_bitCount_0f7a4 ∈ zq_T := ⟨⟨zq_m3 176 rfl rfl, zq_m1 19 rfl rfl, ⟨by decide +kernel, by decide +kernel, by decide +kernel⟩, by decide +kernel, Nat.le_of_ble_eq_true rfl⟩, zq_m3 175 rfl rfl⟩
theorem zd_J0_length_8abf5 : zq_cd YJ0_length_8abf5 0 ∧ Cond.instanceMethod yJ0_length_8abf5 ∈ zq_T ∧ Cond.selects yJ0_length_8abf5.cls yJ0_length_8abf5 yJ0_length_8abf5 ∈ zq_T := ⟨⟨zq_m3 8 rfl rfl, zq_m1 14 rfl rfl, ⟨by decide +kernel, by decide +kernel, by decide +kernel⟩, by decide +kernel, Nat.le_of_ble_eq_true rfl⟩, zq_m3 6 rfl rfl, zq_m3 7 rfl rfl⟩
theorem zd_J0_charAt_5068e : zq_cd YJ0_charAt_5068e 1 ∧ Cond.instanceMethod yJ0_charAt_5068e ∈ zq_T ∧ Cond.selects yJ0_charAt_5068e.cls yJ0_charAt_5068e yJ0_charAt_5068e ∈ zq_T := ⟨⟨zq_m3 18 rfl rfl, zq_m1 14 rfl rfl, ⟨by decide +kernel, by decide +kernel, by decide +kernel⟩, by decide +kernel, Nat.le_of_ble_eq_true rfl⟩, zq_m3 16 rfl rfl, zq_m3 17 rfl rfl⟩
theorem zd_J0_indexOf_0f7a4 : zq_cd YJ0_indexOf_0f7a4 1 ∧ Cond.instanceMethod yJ0_indexOf_0f7a4 ∈ zq_T ∧ Cond.selects yJ0_indexOf_0f7a4.cls yJ0_indexOf_0f7a4 yJ0_indexOf_0f7a4 ∈ zq_T := ⟨⟨zq_m3 72 rfl rfl, zq_m1 14 rfl rfl, ⟨by decide +kernel, by decide +kernel, by decide +kernel⟩, by decide +kernel, Nat.le_of_ble_eq_true rfl⟩, zq_m3 70 rfl rfl, zq_m3 71 rfl rfl⟩
theorem zd_J0_indexOf_7cf53 : zq_cd YJ0_indexOf_7cf53 2 ∧ Cond.instanceMethod yJ0_indexOf_7cf53 ∈ zq_T ∧ Cond.selects yJ0_indexOf_7cf53.cls yJ0_indexOf_7cf53 yJ0_indexOf_7cf53 ∈ zq_T := ⟨⟨zq_m3 76 rfl rfl, zq_m1 14 rfl rfl, ⟨by decide +kernel, by decide +kernel, by decide +kernel⟩, by decide +kernel, Nat.le_of_ble_eq_true rfl⟩, zq_m3 74 rfl rfl, zq_m3 75 rfl rfl⟩
theorem zd_J0_coder_7d493 : zq_cd YJ0_coder_7d493 0 ∧ Cond.instanceMethod yJ0_coder_7d493 ∈ zq_T ∧ Cond.selects yJ0_coder_7d493.cls yJ0_coder_7d493 yJ0_coder_7d493 ∈ zq_T := ⟨⟨zq_m3 12 rfl rfl, zq_m1 14 rfl rfl, ⟨by decide +kernel, by decide +kernel, by decide +kernel⟩, by decide +kernel, Nat.le_of_ble_eq_true rfl⟩, zq_m3 10 rfl rfl, zq_m3 11 rfl rfl⟩
theorem zd_J0_isLatin1_aae02 : zq_cd YJ0_isLatin1_aae02 0 ∧ Cond.instanceMethod yJ0_isLatin1_aae02 ∈ zq_T ∧ Cond.selects yJ0_isLatin1_aae02.cls yJ0_isLatin1_aae02 yJ0_isLatin1_aae02 ∈ zq_T := ⟨⟨zq_m3 22 rfl rfl, zq_m1 14 rfl rfl, ⟨by decide +kernel, by decide +kernel, by decide +kernel⟩, by decide +kernel, Nat.le_of_ble_eq_true rfl⟩, zq_m3 20 rfl rfl, zq_m3 21 rfl rfl⟩
theorem zd_J0_checkIndex_df160 : zq_cd YJ0_checkIndex_df160 2 ∧ Cond.static yJ0_checkIndex_df160 ∈ zq_T := ⟨⟨zq_m3 28 rfl rfl, zq_m1 14 rfl rfl, ⟨by decide +kernel, by decide +kernel, by decide +kernel⟩, by decide +kernel, Nat.le_of_ble_eq_true rfl⟩, zq_m3 27 rfl rfl⟩
theorem zd_J1_charAt_3b067 : zq_cd YJ1_charAt_3b067 2 ∧ Cond.static yJ1_charAt_3b067 ∈ zq_T := ⟨⟨zq_m3 25 rfl rfl, zq_m1 15 rfl rfl, ⟨by decide +kernel, by decide +kernel, by decide +kernel⟩, by decide +kernel, Nat.le_of_ble_eq_true rfl⟩, zq_m3 24 rfl rfl⟩
theorem zd_J1_canEncode_9a6ad : zq_cd YJ1_canEncode_9a6ad 1 ∧ Cond.static yJ1_canEncode_9a6ad ∈ zq_T := ⟨⟨zq_m3 83 rfl rfl, zq_m1 15 rfl rfl, ⟨by decide +kernel, by decide +kernel, by decide +kernel⟩, by decide +kernel, Nat.le_of_ble_eq_true rfl⟩, zq_m3 82 rfl rfl⟩
theorem zd_J1_indexOf_4cfef : zq_cd YJ1_indexOf_4cfef 4 ∧ Cond.static yJ1_indexOf_4cfef ∈ zq_T := ⟨⟨zq_m3 80 rfl rfl, zq_m1 15 rfl rfl, ⟨by decide +kernel, by decide +kernel, by decide +kernel⟩, by decide +kernel, Nat.le_of_ble_eq_true rfl⟩, zq_m3 79 rfl rfl⟩
theorem zd_J1_indexOfChar_4cfef : zq_cd YJ1_indexOfChar_4cfef 4 ∧ Cond.static yJ1_indexOfChar_4cfef ∈ zq_T := ⟨⟨zq_m3 90 rfl rfl, zq_m1 15 rfl rfl, ⟨by decide +kernel, by decide +kernel, by decide +kernel⟩, by decide +kernel, Nat.le_of_ble_eq_true rfl⟩, zq_m3 89 rfl rfl⟩
theorem zd_J7_fill_d0a16 : zq_cd YJ7_fill_d0a16 2 ∧ Cond.static yJ7_fill_d0a16 ∈ zq_T := ⟨⟨zq_m5 91 rfl rfl, zq_m1 20 rfl rfl, ⟨by decide +kernel, by decide +kernel, by decide +kernel⟩, by decide +kernel, Nat.le_of_ble_eq_true rfl⟩, zq_m5 90 rfl rfl⟩
theorem zd_J7_fill_53178 : zq_cd YJ7_fill_53178 2 ∧ Cond.static yJ7_fill_53178 ∈ zq_T := ⟨⟨zq_m4 21 rfl rfl, zq_m1 20 rfl rfl, ⟨by decide +kernel, by decide +kernel, by decide +kernel⟩, by decide +kernel, Nat.le_of_ble_eq_true rfl⟩, zq_m4 20 rfl rfl⟩
theorem zd_J3_checkIndex_8e157 : zq_cd YJ3_checkIndex_8e157 3 ∧ Cond.static yJ3_checkIndex_8e157 ∈ zq_T := ⟨⟨zq_m3 33 rfl rfl, zq_m1 16 rfl rfl, ⟨by decide +kernel, by decide +kernel, by decide +kernel⟩, by decide +kernel, Nat.le_of_ble_eq_true rfl⟩, zq_m3 32 rfl rfl⟩
theorem zf_RX5_43 : zq_FL RX5 43 5 0 := ⟨_, rfl, by decide, zq_m1 36 rfl rfl⟩
theorem zf_RX10_106 : zq_FL RX10 106 5 0 := ⟨_, rfl, by decide, zq_m1 37 rfl rfl⟩
theorem zf_RX4_23 : zq_FL RX4 23 5 0 := ⟨_, rfl, by decide, zq_m1 38 rfl rfl⟩
theorem zf_RX1_37 : zq_FL RX1 37 5 0 := ⟨_, rfl, by decide, zq_m1 39 rfl rfl⟩
theorem zf_RX8_43 : zq_FL RX8 43 5 0 := ⟨_, rfl, by decide, zq_m1 40 rfl rfl⟩
theorem zf_RX9_62 : zq_FL RX9 62 5 0 := ⟨_, rfl, by decide, zq_m1 41 rfl rfl⟩
theorem zf_RX6_67 : zq_FL RX6 67 5 0 := ⟨_, rfl, by decide, zq_m1 42 rfl rfl⟩
theorem zf_RX5_9 : zq_FL RX5 9 5 1 := ⟨_, rfl, by decide, zq_m1 43 rfl rfl⟩
theorem zf_RX10_117 : zq_FL RX10 117 5 1 := ⟨_, rfl, by decide, zq_m1 44 rfl rfl⟩
theorem zf_RX6_61 : zq_FL RX6 61 5 1 := ⟨_, rfl, by decide, zq_m1 45 rfl rfl⟩
theorem zf_RX5_15 : zq_FL RX5 15 5 2 := ⟨_, rfl, by decide, zq_m1 46 rfl rfl⟩
theorem zf_RX10_120 : zq_FL RX10 120 5 2 := ⟨_, rfl, by decide, zq_m1 47 rfl rfl⟩
theorem zf_RX6_93 : zq_FL RX6 93 5 2 := ⟨_, rfl, by decide, zq_m1 48 rfl rfl⟩
theorem zf_RX5_18 : zq_FL RX5 18 5 3 := ⟨_, rfl, by decide, zq_m1 49 rfl rfl⟩
theorem zf_RX10_123 : zq_FL RX10 123 5 3 := ⟨_, rfl, by decide, zq_m1 50 rfl rfl⟩
theorem zf_RX6_82 : zq_FL RX6 82 5 3 := ⟨_, rfl, by decide, zq_m1 51 rfl rfl⟩
theorem zf_RX5_21 : zq_FL RX5 21 5 4 := ⟨_, rfl, by decide, zq_m1 52 rfl rfl⟩
theorem zf_RX10_126 : zq_FL RX10 126 5 4 := ⟨_, rfl, by decide, zq_m1 53 rfl rfl⟩
theorem zf_RX6_117 : zq_FL RX6 117 5 4 := ⟨_, rfl, by decide, zq_m1 54 rfl rfl⟩
theorem zf_RX5_24 : zq_FL RX5 24 5 5 := ⟨_, rfl, by decide, zq_m1 55 rfl rfl⟩
theorem zf_RX10_135 : zq_FL RX10 135 5 5 := ⟨_, rfl, by decide, zq_m1 56 rfl rfl⟩
theorem zf_RX6_64 : zq_FL RX6 64 5 5 := ⟨_, rfl, by decide, zq_m1 57 rfl rfl⟩
theorem zf_RX5_27 : zq_FL RX5 27 5 6 := ⟨_, rfl, by decide, zq_m1 58 rfl rfl⟩
theorem zf_RX10_138 : zq_FL RX10 138 5 6 := ⟨_, rfl, by decide, zq_m1 59 rfl rfl⟩
theorem zf_RX6_99 : zq_FL RX6 99 5 6 := ⟨_, rfl, by decide, zq_m1 60 rfl rfl⟩
theorem zf_RX8_25 : zq_FL RX8 25 5 7 := ⟨_, rfl, by decide, zq_m1 61 rfl rfl⟩
theorem zf_RX1_91 : zq_FL RX1 91 5 7 := ⟨_, rfl, by decide, zq_m1 62 rfl rfl⟩
theorem zf_RX5_56 : zq_FL RX5 56 5 7 := ⟨_, rfl, by decide, zq_m1 63 rfl rfl⟩
theorem zf_RX10_168 : zq_FL RX10 168 5 7 := ⟨_, rfl, by decide, zq_m1 64 rfl rfl⟩
theorem zf_RX9_106 : zq_FL RX9 106 5 7 := ⟨_, rfl, by decide, zq_m1 65 rfl rfl⟩
theorem zf_RX6_139 : zq_FL RX6 139 5 7 := ⟨_, rfl, by decide, zq_m1 66 rfl rfl⟩
theorem zf_RX5_59 : zq_FL RX5 59 5 8 := ⟨_, rfl, by decide, zq_m1 67 rfl rfl⟩
theorem zf_RX10_171 : zq_FL RX10 171 5 8 := ⟨_, rfl, by decide, zq_m1 68 rfl rfl⟩
theorem zf_RX5_30 : zq_FL RX5 30 5 9 := ⟨_, rfl, by decide, zq_m1 69 rfl rfl⟩
theorem zf_RX4_39 : zq_FL RX4 39 5 9 := ⟨_, rfl, by decide, zq_m1 70 rfl rfl⟩
theorem zf_RX10_233 : zq_FL RX10 233 5 9 := ⟨_, rfl, by decide, zq_m1 71 rfl rfl⟩
theorem zf_RX5_33 : zq_FL RX5 33 5 10 := ⟨_, rfl, by decide, zq_m1 72 rfl rfl⟩
theorem zf_RX4_36 : zq_FL RX4 36 5 10 := ⟨_, rfl, by decide, zq_m1 73 rfl rfl⟩
theorem zf_RX10_236 : zq_FL RX10 236 5 10 := ⟨_, rfl, by decide, zq_m1 74 rfl rfl⟩
theorem zf_RX4_33 : zq_FL RX4 33 5 11 := ⟨_, rfl, by decide, zq_m1 75 rfl rfl⟩
theorem zf_RX5_62 : zq_FL RX5 62 5 11 := ⟨_, rfl, by decide, zq_m1 76 rfl rfl⟩
theorem zf_RX10_230 : zq_FL RX10 230 5 11 := ⟨_, rfl, by decide, zq_m1 77 rfl rfl⟩
theorem zf_RX5_36 : zq_FL RX5 36 5 12 := ⟨_, rfl, by decide, zq_m1 78 rfl rfl⟩
theorem zf_RX6_129 : zq_FL RX6 129 5 12 := ⟨_, rfl, by decide, zq_m1 79 rfl rfl⟩
theorem zf_RX10_251 : zq_FL RX10 251 5 12 := ⟨_, rfl, by decide, zq_m1 80 rfl rfl⟩
theorem zf_RX5_65 : zq_FL RX5 65 5 13 := ⟨_, rfl, by decide, zq_m1 81 rfl rfl⟩
theorem zf_RX6_126 : zq_FL RX6 126 5 13 := ⟨_, rfl, by decide, zq_m1 82 rfl rfl⟩
theorem zf_RX10_248 : zq_FL RX10 248 5 13 := ⟨_, rfl, by decide, zq_m1 83 rfl rfl⟩
theorem zf_RX5_39 : zq_FL RX5 39 5 14 := ⟨_, rfl, by decide, zq_m1 84 rfl rfl⟩
theorem zf_RX10_158 : zq_FL RX10 158 5 14 := ⟨_, rfl, by decide, zq_m1 85 rfl rfl⟩
theorem zf_RX2_24 : zq_FL RX2 24 2 0 := ⟨_, rfl, by decide, zq_m1 125 rfl rfl⟩
theorem zf_RX2_9 : zq_FL RX2 9 2 1 := ⟨_, rfl, by decide, zq_m1 126 rfl rfl⟩
theorem zf_RX2_15 : zq_FL RX2 15 2 2 := ⟨_, rfl, by decide, zq_m1 127 rfl rfl⟩
theorem zf_RX2_18 : zq_FL RX2 18 2 3 := ⟨_, rfl, by decide, zq_m1 128 rfl rfl⟩
theorem zf_RX2_21 : zq_FL RX2 21 2 4 := ⟨_, rfl, by decide, zq_m1 129 rfl rfl⟩
theorem zf_RX2_28 : zq_FL RX2 28 2 5 := ⟨_, rfl, by decide, zq_m1 130 rfl rfl⟩
theorem zf_RX2_31 : zq_FL RX2 31 2 6 := ⟨_, rfl, by decide, zq_m1 131 rfl rfl⟩
theorem zf_RX10_165 : zq_FL RX10 165 2 6 := ⟨_, rfl, by decide, zq_m1 132 rfl rfl⟩
theorem zf_RX6_106 : zq_FL RX6 106 2 6 := ⟨_, rfl, by decide, zq_m1 133 rfl rfl⟩
theorem zf_RX3_9 : zq_FL RX3 9 3 0 := ⟨_, rfl, by decide, zq_m1 157 rfl rfl⟩
theorem zf_RX3_31 : zq_FL RX3 31 3 1 := ⟨_, rfl, by decide, zq_m1 158 rfl rfl⟩
theorem zf_RX3_35 : zq_FL RX3 35 3 2 := ⟨_, rfl, by decide, zq_m1 159 rfl rfl⟩
theorem zf_RX3_18 : zq_FL RX3 18 3 3 := ⟨_, rfl, by decide, zq_m1 160 rfl rfl⟩
theorem zf_RX6_30 : zq_FL RX6 30 6 0 := ⟨_, rfl, by decide, zq_m1 176 rfl rfl⟩
theorem zf_RX8_21 : zq_FL RX8 21 6 0 := ⟨_, rfl, by decide, zq_m1 177 rfl rfl⟩
theorem zf_RX1_33 : zq_FL RX1 33 6 0 := ⟨_, rfl, by decide, zq_m1 178 rfl rfl⟩
theorem zf_RX9_44 : zq_FL RX9 44 6 0 := ⟨_, rfl, by decide, zq_m1 179 rfl rfl⟩
theorem zf_RX6_34 : zq_FL RX6 34 6 1 := ⟨_, rfl, by decide, zq_m1 180 rfl rfl⟩
theorem zf_RX6_11 : zq_FL RX6 11 6 2 := ⟨_, rfl, by decide, zq_m1 181 rfl rfl⟩
theorem zf_RX6_17 : zq_FL RX6 17 6 3 := ⟨_, rfl, by decide, zq_m1 182 rfl rfl⟩
theorem zf_RX6_20 : zq_FL RX6 20 6 4 := ⟨_, rfl, by decide, zq_m1 183 rfl rfl⟩
theorem zf_RX6_23 : zq_FL RX6 23 6 5 := ⟨_, rfl, by decide, zq_m1 184 rfl rfl⟩
theorem zf_RX6_26 : zq_FL RX6 26 6 6 := ⟨_, rfl, by decide, zq_m1 185 rfl rfl⟩
theorem zf_RX9_23 : zq_FL RX9 23 9 0 := ⟨_, rfl, by decide, zq_m1 208 rfl rfl⟩
theorem zf_RX9_11 : zq_FL RX9 11 9 1 := ⟨_, rfl, by decide, zq_m1 209 rfl rfl⟩
theorem zf_RX9_17 : zq_FL RX9 17 9 2 := ⟨_, rfl, by decide, zq_m1 210 rfl rfl⟩
theorem zf_RX9_20 : zq_FL RX9 20 9 3 := ⟨_, rfl, by decide, zq_m1 211 rfl rfl⟩
theorem zf_RX9_66 : zq_FL RX9 66 9 4 := ⟨_, rfl, by decide, zq_m1 212 rfl rfl⟩
theorem zf_RX9_69 : zq_FL RX9 69 9 5 := ⟨_, rfl, by decide, zq_m1 213 rfl rfl⟩
theorem zf_RX9_72 : zq_FL RX9 72 9 6 := ⟨_, rfl, by decide, zq_m1 214 rfl rfl⟩
theorem zf_RX9_58 : zq_FL RX9 58 9 7 := ⟨_, rfl, by decide, zq_m1 215 rfl rfl⟩
theorem zf_RX1_29 : zq_FL RX1 29 1 0 := ⟨_, rfl, by decide, zq_m1 239 rfl rfl⟩
theorem zf_RX1_11 : zq_FL RX1 11 1 1 := ⟨_, rfl, by decide, zq_m2 0 rfl rfl⟩
theorem zf_RX1_17 : zq_FL RX1 17 1 2 := ⟨_, rfl, by decide, zq_m2 1 rfl rfl⟩
theorem zf_RX1_20 : zq_FL RX1 20 1 3 := ⟨_, rfl, by decide, zq_m2 2 rfl rfl⟩
theorem zf_RX1_23 : zq_FL RX1 23 1 4 := ⟨_, rfl, by decide, zq_m2 3 rfl rfl⟩
theorem zf_RX1_26 : zq_FL RX1 26 1 5 := ⟨_, rfl, by decide, zq_m2 4 rfl rfl⟩
theorem zf_RX1_43 : zq_FL RX1 43 1 6 := ⟨_, rfl, by decide, zq_m2 5 rfl rfl⟩
theorem zf_RX8_9 : zq_FL RX8 9 8 0 := ⟨_, rfl, by decide, zq_m2 27 rfl rfl⟩
theorem zf_RX4_15 : zq_FL RX4 15 4 0 := ⟨_, rfl, by decide, zq_m2 37 rfl rfl⟩
theorem zf_RX4_9 : zq_FL RX4 9 4 1 := ⟨_, rfl, by decide, zq_m2 38 rfl rfl⟩
theorem zf_RX0_11 : zq_FL RX0 11 0 0 := ⟨_, rfl, by decide, zq_m2 50 rfl rfl⟩
theorem zf_RX0_15 : zq_FL RX0 15 0 1 := ⟨_, rfl, by decide, zq_m2 51 rfl rfl⟩
theorem zf_RX10_295 : zq_FL RX10 295 0 1 := ⟨_, rfl, by decide, zq_m2 52 rfl rfl⟩
theorem zf_RX0_29 : zq_FL RX0 29 0 2 := ⟨_, rfl, by decide, zq_m2 53 rfl rfl⟩
theorem zf_RX0_32 : zq_FL RX0 32 0 3 := ⟨_, rfl, by decide, zq_m2 54 rfl rfl⟩
theorem zf_RX0_35 : zq_FL RX0 35 0 4 := ⟨_, rfl, by decide, zq_m2 55 rfl rfl⟩
theorem zf_RX7_9 : zq_FL RX7 9 7 0 := ⟨_, rfl, by decide, zq_m2 74 rfl rfl⟩
theorem zf_RX10_268 : zq_FL RX10 268 7 0 := ⟨_, rfl, by decide, zq_m2 75 rfl rfl⟩
theorem zf_RX7_19 : zq_FL RX7 19 7 1 := ⟨_, rfl, by decide, zq_m2 76 rfl rfl⟩
theorem zf_RX7_15 : zq_FL RX7 15 7 2 := ⟨_, rfl, by decide, zq_m2 77 rfl rfl⟩
theorem zf_RX10_312 : zq_FL RX10 312 7 2 := ⟨_, rfl, by decide, zq_m2 78 rfl rfl⟩
theorem zf_RX10_12 : zq_FL RX10 12 10 0 := ⟨_, rfl, by decide, zq_m2 87 rfl rfl⟩
theorem zf_RX10_18 : zq_FL RX10 18 10 1 := ⟨_, rfl, by decide, zq_m2 88 rfl rfl⟩
theorem zf_RX10_278 : zq_FL RX10 278 10 2 := ⟨_, rfl, by decide, zq_m2 89 rfl rfl⟩
theorem zf_RX10_21 : zq_FL RX10 21 10 3 := ⟨_, rfl, by decide, zq_m2 90 rfl rfl⟩
theorem zf_RX10_148 : zq_FL RX10 148 10 4 := ⟨_, rfl, by decide, zq_m2 91 rfl rfl⟩
theorem zf_RX10_27 : zq_FL RX10 27 10 5 := ⟨_, rfl, by decide, zq_m2 92 rfl rfl⟩
theorem zf_RX10_151 : zq_FL RX10 151 10 6 := ⟨_, rfl, by decide, zq_m2 93 rfl rfl⟩
theorem zf_RX10_32 : zq_FL RX10 32 10 7 := ⟨_, rfl, by decide, zq_m2 94 rfl rfl⟩
theorem zf_RX10_39 : zq_FL RX10 39 10 8 := ⟨_, rfl, by decide, zq_m2 95 rfl rfl⟩
theorem zf_RX10_48 : zq_FL RX10 48 10 9 := ⟨_, rfl, by decide, zq_m2 96 rfl rfl⟩
theorem zf_RX10_57 : zq_FL RX10 57 10 10 := ⟨_, rfl, by decide, zq_m2 97 rfl rfl⟩
theorem zf_RX10_64 : zq_FL RX10 64 10 11 := ⟨_, rfl, by decide, zq_m2 98 rfl rfl⟩
theorem zf_RX10_71 : zq_FL RX10 71 10 12 := ⟨_, rfl, by decide, zq_m2 99 rfl rfl⟩
theorem zf_RX10_80 : zq_FL RX10 80 10 13 := ⟨_, rfl, by decide, zq_m2 100 rfl rfl⟩
theorem zf_RX10_87 : zq_FL RX10 87 10 14 := ⟨_, rfl, by decide, zq_m2 101 rfl rfl⟩
theorem zf_RX10_93 : zq_FL RX10 93 10 15 := ⟨_, rfl, by decide, zq_m2 102 rfl rfl⟩
theorem zf_RX11_7 : zq_FL RX11 7 11 0 := ⟨_, rfl, by decide, zq_m5 124 rfl rfl⟩
theorem zf_RX11_13 : zq_FL RX11 13 11 1 := ⟨_, rfl, by decide, zq_m5 125 rfl rfl⟩
theorem zf_RX11_16 : zq_FL RX11 16 11 2 := ⟨_, rfl, by decide, zq_m5 126 rfl rfl⟩
theorem zf_RX11_19 : zq_FL RX11 19 11 3 := ⟨_, rfl, by decide, zq_m5 127 rfl rfl⟩
theorem zf_RX11_22 : zq_FL RX11 22 11 4 := ⟨_, rfl, by decide, zq_m5 128 rfl rfl⟩
theorem zf_RX11_26 : zq_FL RX11 26 11 5 := ⟨_, rfl, by decide, zq_m5 129 rfl rfl⟩
theorem zf_RX11_29 : zq_FL RX11 29 11 6 := ⟨_, rfl, by decide, zq_m5 130 rfl rfl⟩
theorem zf_RX11_32 : zq_FL RX11 32 11 7 := ⟨_, rfl, by decide, zq_m5 131 rfl rfl⟩
theorem zf_RX11_35 : zq_FL RX11 35 11 8 := ⟨_, rfl, by decide, zq_m5 132 rfl rfl⟩
theorem zf_RX11_38 : zq_FL RX11 38 11 9 := ⟨_, rfl, by decide, zq_m5 133 rfl rfl⟩
theorem zf_RX11_41 : zq_FL RX11 41 11 10 := ⟨_, rfl, by decide, zq_m5 134 rfl rfl⟩
theorem zf_RX11_44 : zq_FL RX11 44 11 11 := ⟨_, rfl, by decide, zq_m5 135 rfl rfl⟩
theorem zf_RX11_47 : zq_FL RX11 47 11 12 := ⟨_, rfl, by decide, zq_m5 136 rfl rfl⟩
theorem zf_RX11_50 : zq_FL RX11 50 11 13 := ⟨_, rfl, by decide, zq_m5 137 rfl rfl⟩
theorem zf_RX11_53 : zq_FL RX11 53 11 14 := ⟨_, rfl, by decide, zq_m5 138 rfl rfl⟩
theorem zf_RX11_56 : zq_FL RX11 56 11 15 := ⟨_, rfl, by decide, zq_m5 139 rfl rfl⟩
theorem zf_RX11_59 : zq_FL RX11 59 11 16 := ⟨_, rfl, by decide, zq_m5 140 rfl rfl⟩
theorem zf_RX11_62 : zq_FL RX11 62 11 17 := ⟨_, rfl, by decide, zq_m5 141 rfl rfl⟩
theorem zf_RX11_65 : zq_FL RX11 65 11 18 := ⟨_, rfl, by decide, zq_m5 142 rfl rfl⟩
theorem zf_RX11_68 : zq_FL RX11 68 11 19 := ⟨_, rfl, by decide, zq_m5 143 rfl rfl⟩
theorem zf_RX11_71 : zq_FL RX11 71 11 20 := ⟨_, rfl, by decide, zq_m5 144 rfl rfl⟩
theorem zf_RX11_74 : zq_FL RX11 74 11 21 := ⟨_, rfl, by decide, zq_m5 145 rfl rfl⟩
theorem zf_RX11_77 : zq_FL RX11 77 11 22 := ⟨_, rfl, by decide, zq_m5 146 rfl rfl⟩
theorem zf_RX11_80 : zq_FL RX11 80 11 23 := ⟨_, rfl, by decide, zq_m5 147 rfl rfl⟩
theorem zf_RX11_83 : zq_FL RX11 83 11 24 := ⟨_, rfl, by decide, zq_m5 148 rfl rfl⟩
theorem zf_RX11_86 : zq_FL RX11 86 11 25 := ⟨_, rfl, by decide, zq_m5 149 rfl rfl⟩
theorem zf_RX11_89 : zq_FL RX11 89 11 26 := ⟨_, rfl, by decide, zq_m5 150 rfl rfl⟩
theorem zf_RX11_92 : zq_FL RX11 92 11 27 := ⟨_, rfl, by decide, zq_m5 151 rfl rfl⟩
theorem zf_RX11_96 : zq_FL RX11 96 11 28 := ⟨_, rfl, by decide, zq_m5 152 rfl rfl⟩
theorem zf_RX11_99 : zq_FL RX11 99 11 29 := ⟨_, rfl, by decide, zq_m5 153 rfl rfl⟩
theorem zf_RX11_102 : zq_FL RX11 102 11 30 := ⟨_, rfl, by decide, zq_m5 154 rfl rfl⟩
theorem zf_RX11_105 : zq_FL RX11 105 11 31 := ⟨_, rfl, by decide, zq_m5 155 rfl rfl⟩
theorem zf_RX11_108 : zq_FL RX11 108 11 32 := ⟨_, rfl, by decide, zq_m5 156 rfl rfl⟩
theorem zf_RX11_111 : zq_FL RX11 111 11 33 := ⟨_, rfl, by decide, zq_m5 157 rfl rfl⟩
theorem zf_RX11_115 : zq_FL RX11 115 11 34 := ⟨_, rfl, by decide, zq_m5 158 rfl rfl⟩
theorem zf_RX11_118 : zq_FL RX11 118 11 35 := ⟨_, rfl, by decide, zq_m5 159 rfl rfl⟩
theorem zf_RX11_121 : zq_FL RX11 121 11 36 := ⟨_, rfl, by decide, zq_m5 160 rfl rfl⟩
theorem zf_RX11_124 : zq_FL RX11 124 11 37 := ⟨_, rfl, by decide, zq_m5 161 rfl rfl⟩
theorem zf_RX11_127 : zq_FL RX11 127 11 38 := ⟨_, rfl, by decide, zq_m5 162 rfl rfl⟩
theorem zf_RX11_130 : zq_FL RX11 130 11 39 := ⟨_, rfl, by decide, zq_m5 163 rfl rfl⟩
theorem zf_RX11_133 : zq_FL RX11 133 11 40 := ⟨_, rfl, by decide, zq_m5 164 rfl rfl⟩
theorem zf_RX11_137 : zq_FL RX11 137 11 41 := ⟨_, rfl, by decide, zq_m5 165 rfl rfl⟩
theorem zf_RX11_140 : zq_FL RX11 140 11 42 := ⟨_, rfl, by decide, zq_m5 166 rfl rfl⟩
theorem zf_RX11_143 : zq_FL RX11 143 11 43 := ⟨_, rfl, by decide, zq_m5 167 rfl rfl⟩
theorem zf_RX11_146 : zq_FL RX11 146 11 44 := ⟨_, rfl, by decide, zq_m5 168 rfl rfl⟩
theorem zf_RX11_149 : zq_FL RX11 149 11 45 := ⟨_, rfl, by decide, zq_m5 169 rfl rfl⟩
theorem zf_RX11_153 : zq_FL RX11 153 11 46 := ⟨_, rfl, by decide, zq_m5 170 rfl rfl⟩
theorem zf_RX11_156 : zq_FL RX11 156 11 47 := ⟨_, rfl, by decide, zq_m5 171 rfl rfl⟩
theorem zf_RX11_159 : zq_FL RX11 159 11 48 := ⟨_, rfl, by decide, zq_m5 172 rfl rfl⟩
theorem zf_RX11_162 : zq_FL RX11 162 11 49 := ⟨_, rfl, by decide, zq_m5 173 rfl rfl⟩
theorem zf_RX11_165 : zq_FL RX11 165 11 50 := ⟨_, rfl, by decide, zq_m5 174 rfl rfl⟩
theorem zf_RX11_168 : zq_FL RX11 168 11 51 := ⟨_, rfl, by decide, zq_m5 175 rfl rfl⟩
theorem zf_RX11_171 : zq_FL RX11 171 11 52 := ⟨_, rfl, by decide, zq_m5 176 rfl rfl⟩
theorem zf_RX11_174 : zq_FL RX11 174 11 53 := ⟨_, rfl, by decide, zq_m5 177 rfl rfl⟩
theorem zf_RX11_177 : zq_FL RX11 177 11 54 := ⟨_, rfl, by decide, zq_m5 178 rfl rfl⟩
theorem zf_RX11_180 : zq_FL RX11 180 11 55 := ⟨_, rfl, by decide, zq_m5 179 rfl rfl⟩
theorem zf_RX11_183 : zq_FL RX11 183 11 56 := ⟨_, rfl, by decide, zq_m5 180 rfl rfl⟩
theorem zf_RX11_186 : zq_FL RX11 186 11 57 := ⟨_, rfl, by decide, zq_m5 181 rfl rfl⟩
theorem zf_RX11_189 : zq_FL RX11 189 11 58 := ⟨_, rfl, by decide, zq_m5 182 rfl rfl⟩
theorem zf_RX11_192 : zq_FL RX11 192 11 59 := ⟨_, rfl, by decide, zq_m5 183 rfl rfl⟩
theorem zf_RX11_195 : zq_FL RX11 195 11 60 := ⟨_, rfl, by decide, zq_m5 184 rfl rfl⟩
theorem zf_RX11_198 : zq_FL RX11 198 11 61 := ⟨_, rfl, by decide, zq_m5 185 rfl rfl⟩
theorem zf_RX11_201 : zq_FL RX11 201 11 62 := ⟨_, rfl, by decide, zq_m5 186 rfl rfl⟩
theorem zf_RX11_204 : zq_FL RX11 204 11 63 := ⟨_, rfl, by decide, zq_m5 187 rfl rfl⟩
theorem zf_RX11_207 : zq_FL RX11 207 11 64 := ⟨_, rfl, by decide, zq_m5 188 rfl rfl⟩
theorem zf_RX11_210 : zq_FL RX11 210 11 65 := ⟨_, rfl, by decide, zq_m5 189 rfl rfl⟩
theorem zf_RX11_214 : zq_FL RX11 214 11 66 := ⟨_, rfl, by decide, zq_m5 190 rfl rfl⟩
theorem zl_RX10_3 : Cond.methodLink RX10 3 Lib.objectInit ∈ zq_T := zq_m1 27 rfl rfl
theorem zl_RX5_3 : Cond.methodLink RX5 3 Lib.objectInit ∈ zq_T := zq_m1 35 rfl rfl
theorem zl_RX2_3 : Cond.methodLink RX2 3 Lib.objectInit ∈ zq_T := zq_m1 124 rfl rfl
theorem zl_RX3_3 : Cond.methodLink RX3 3 Lib.objectInit ∈ zq_T := zq_m1 154 rfl rfl
theorem zl_RX10_45 : Cond.methodLink RX10 45 yX6_init ∈ zq_T := zq_m1 172 rfl rfl
theorem zl_RX6_3 : Cond.methodLink RX6 3 Lib.objectInit ∈ zq_T := zq_m1 175 rfl rfl
theorem zl_RX10_54 : Cond.methodLink RX10 54 yX9_init ∈ zq_T := zq_m1 204 rfl rfl
theorem zl_RX9_3 : Cond.methodLink RX9 3 Lib.objectInit ∈ zq_T := zq_m1 207 rfl rfl
theorem zl_RX10_63 : Cond.methodLink RX10 63 yX1_init ∈ zq_T := zq_m1 235 rfl rfl
theorem zl_RX1_3 : Cond.methodLink RX1 3 Lib.objectInit ∈ zq_T := zq_m1 238 rfl rfl
theorem zl_RX10_70 : Cond.methodLink RX10 70 yX8_init ∈ zq_T := zq_m2 23 rfl rfl
theorem zl_RX8_3 : Cond.methodLink RX8 3 Lib.objectInit ∈ zq_T := zq_m2 26 rfl rfl
theorem zl_RX10_77 : Cond.methodLink RX10 77 yX4_init ∈ zq_T := zq_m2 33 rfl rfl
theorem zl_RX4_3 : Cond.methodLink RX4 3 Lib.objectInit ∈ zq_T := zq_m2 36 rfl rfl
theorem zl_RX0_3 : Cond.methodLink RX0 3 Lib.objectInit ∈ zq_T := zq_m2 49 rfl rfl
theorem zl_RX7_3 : Cond.methodLink RX7 3 Lib.objectInit ∈ zq_T := zq_m2 73 rfl rfl
theorem zl_RX10_98 : Cond.methodLink RX10 98 yX10_isFromTo ∈ zq_T := zq_m2 140 rfl rfl
theorem zl_RX10_102 : Cond.methodLink RX10 102 yX10_isPlace ∈ zq_T := zq_m2 143 rfl rfl
theorem zl_RX10_110 : Cond.methodLink RX10 110 yX5_addPerson ∈ zq_T := zq_m2 146 rfl rfl
theorem zl_RX10_114 : Cond.methodLink RX10 114 yX10_isPerson ∈ zq_T := zq_m2 154 rfl rfl
theorem zl_RX10_129 : Cond.methodLink RX10 129 yX10_maySpeakNow ∈ zq_T := zq_m2 158 rfl rfl
theorem zl_RX10_145 : Cond.methodLink RX10 145 yX10_speakersNow ∈ zq_T := zq_m2 162 rfl rfl
theorem zl_RX10_161 : Cond.methodLink RX10 161 yX10_holding ∈ zq_T := zq_m2 166 rfl rfl
theorem zl_RX10_254 : Cond.methodLink RX10 254 yX6_look ∈ zq_T := zq_m2 170 rfl rfl
theorem zl_RX10_141 : Cond.methodLink RX10 141 yX5_whoIsAt ∈ zq_T := zq_m2 174 rfl rfl
theorem zl_RX10_331 : Cond.methodLink RX10 331 yX6_speakers ∈ zq_T := zq_m2 178 rfl rfl
theorem zl_RX6_96 : Cond.methodLink RX6 96 yX6_lineUp ∈ zq_T := zq_m2 185 rfl rfl
theorem zl_RX6_102 : Cond.methodLink RX6 102 yX6_placeInLine ∈ zq_T := zq_m2 189 rfl rfl
theorem zl_RX6_109 : Cond.methodLink RX6 109 yX6_withoutNear ∈ zq_T := zq_m2 192 rfl rfl
theorem zl_RX6_113 : Cond.methodLink RX6 113 yX6_isNearAnother ∈ zq_T := zq_m2 196 rfl rfl
theorem zl_RX10_132 : Cond.methodLink RX10 132 yX10_isRoom ∈ zq_T := zq_m2 208 rfl rfl
theorem zl_RX10_154 : Cond.methodLink RX10 154 yX3_readInto ∈ zq_T := zq_m2 221 rfl rfl
theorem zl_RX3_22 : Cond.methodLink RX3 22 yX2_forget ∈ zq_T := zq_m2 225 rfl rfl
theorem zl_RX3_25 : Cond.methodLink RX3 25 Lib.Math.min.name ∈ zq_T := zq_m2 229 rfl rfl
theorem zl_RX3_38 : Cond.methodLink RX3 38 yX3_readClause ∈ zq_T := zq_m2 232 rfl rfl
theorem zl_RX3_46 : Cond.methodLink RX3 46 yX3_readWord ∈ zq_T := zq_m2 236 rfl rfl
theorem zl_RX3_62 : Cond.methodLink RX3 62 yX3_eatAll ∈ zq_T := zq_m3 1 rfl rfl
theorem zl_RX3_99 : Cond.methodLink RX3 99 yJ0_length_8abf5 ∈ zq_T := zq_m3 5 rfl rfl
theorem zl_RJ0_335 : Cond.methodLink RJ0 335 yJ0_coder_7d493 ∈ zq_T := zq_m3 9 rfl rfl
theorem zl_RX3_103 : Cond.methodLink RX3 103 yJ0_charAt_5068e ∈ zq_T := zq_m3 15 rfl rfl
theorem zl_RJ0_492 : Cond.methodLink RJ0 492 yJ0_isLatin1_aae02 ∈ zq_T := zq_m3 19 rfl rfl
theorem zl_RJ0_495 : Cond.methodLink RJ0 495 yJ1_charAt_3b067 ∈ zq_T := zq_m3 23 rfl rfl
theorem zl_RJ1_9 : Cond.methodLink RJ1 9 yJ0_checkIndex_df160 ∈ zq_T := zq_m3 26 rfl rfl
theorem zl_RJ0_1059 : Cond.methodLink RJ0 1059 yJ3_checkIndex_8e157 ∈ zq_T := zq_m3 31 rfl rfl
theorem zl_RJ2_414 : Cond.methodLink RJ2 414 yJ0_checkIndex_df160 ∈ zq_T := zq_m3 43 rfl rfl
theorem zl_RX3_42 : Cond.methodLink RX3 42 yX3_eat ∈ zq_T := zq_m3 53 rfl rfl
theorem zl_RX3_50 : Cond.methodLink RX3 50 yX3_readNumber ∈ zq_T := zq_m3 60 rfl rfl
theorem zl_RX3_87 : Cond.methodLink RX3 87 yX3_eatOneOf ∈ zq_T := zq_m3 65 rfl rfl
theorem zl_RX3_107 : Cond.methodLink RX3 107 yJ0_indexOf_0f7a4 ∈ zq_T := zq_m3 69 rfl rfl
theorem zl_RJ0_633 : Cond.methodLink RJ0 633 yJ0_indexOf_7cf53 ∈ zq_T := zq_m3 73 rfl rfl
theorem zl_RJ0_505 : Cond.methodLink RJ0 505 yJ0_length_8abf5 ∈ zq_T := zq_m3 77 rfl rfl
theorem zl_RJ0_637 : Cond.methodLink RJ0 637 yJ1_indexOf_4cfef ∈ zq_T := zq_m3 78 rfl rfl
theorem zl_RJ1_88 : Cond.methodLink RJ1 88 yJ1_canEncode_9a6ad ∈ zq_T := zq_m3 81 rfl rfl
theorem zl_RJ1_38 : Cond.methodLink RJ1 38 Lib.Math.min.name ∈ zq_T := zq_m3 87 rfl rfl
theorem zl_RJ1_95 : Cond.methodLink RJ1 95 yJ1_indexOfChar_4cfef ∈ zq_T := zq_m3 88 rfl rfl
theorem zl_RJ2_183 : Cond.methodLink RJ2 183 Lib.Math.min.name ∈ zq_T := zq_m3 95 rfl rfl
theorem zl_RX3_53 : Cond.methodLink RX3 53 yX3_readAny ∈ zq_T := zq_m3 126 rfl rfl
theorem zl_RX3_72 : Cond.methodLink RX3 72 yX3_readAll ∈ zq_T := zq_m3 130 rfl rfl
theorem zl_RX3_79 : Cond.methodLink RX3 79 yX3_readOne ∈ zq_T := zq_m3 134 rfl rfl
theorem zl_RX3_82 : Cond.methodLink RX3 82 yX3_readTest ∈ zq_T := zq_m3 138 rfl rfl
theorem zl_RX3_93 : Cond.methodLink RX3 93 yX2_addTest ∈ zq_T := zq_m3 144 rfl rfl
theorem zl_RX2_34 : Cond.methodLink RX2 34 yX2_addStep ∈ zq_T := zq_m3 148 rfl rfl
theorem zl_RX3_75 : Cond.methodLink RX3 75 yX2_addStep ∈ zq_T := zq_m3 152 rfl rfl
theorem zl_RX3_56 : Cond.methodLink RX3 56 yX2_addClause ∈ zq_T := zq_m3 153 rfl rfl
theorem zl_RX10_174 : Cond.methodLink RX10 174 yX10_priceNow ∈ zq_T := zq_m3 166 rfl rfl
theorem zl_RX10_334 : Cond.methodLink RX10 334 yX10_numberWith ∈ zq_T := zq_m3 170 rfl rfl
theorem zl_RX10_225 : Cond.methodLink RX10 225 yJ6_bitCount_0f7a4 ∈ zq_T := zq_m3 174 rfl rfl
theorem zl_RX10_337 : Cond.methodLink RX10 337 yX6_priceOf ∈ zq_T := zq_m3 180 rfl rfl
theorem zl_RX6_38 : Cond.methodLink RX6 38 yX6_setFacts ∈ zq_T := zq_m3 184 rfl rfl
theorem zl_RX6_42 : Cond.methodLink RX6 42 yX2_together ∈ zq_T := zq_m3 188 rfl rfl
theorem zl_RX2_38 : Cond.methodLink RX2 38 yX2_holdsIn ∈ zq_T := zq_m3 192 rfl rfl
theorem zl_RX2_42 : Cond.methodLink RX2 42 yX2_testHolds ∈ zq_T := zq_m3 196 rfl rfl
theorem zl_RX10_178 : Cond.methodLink RX10 178 yX10_isBarredNow ∈ zq_T := zq_m3 199 rfl rfl
theorem zl_RX10_340 : Cond.methodLink RX10 340 yX6_isBarred ∈ zq_T := zq_m3 203 rfl rfl
theorem zl_RX6_46 : Cond.methodLink RX6 46 yX2_hasBar ∈ zq_T := zq_m3 207 rfl rfl
theorem zl_RX10_182 : Cond.methodLink RX10 182 Lib.Math.min.name ∈ zq_T := zq_m3 215 rfl rfl
theorem zl_RX10_187 : Cond.methodLink RX10 187 yX10_isThing ∈ zq_T := zq_m3 220 rfl rfl
theorem zl_RX10_190 : Cond.methodLink RX10 190 yX5_isKnown ∈ zq_T := zq_m3 223 rfl rfl
theorem zl_RX10_193 : Cond.methodLink RX10 193 yX6_worthTo ∈ zq_T := zq_m3 227 rfl rfl
theorem zl_RX6_50 : Cond.methodLink RX6 50 yX5_whoIsAt ∈ zq_T := zq_m3 231 rfl rfl
theorem zl_RX6_56 : Cond.methodLink RX6 56 yJ6_bitCount_0f7a4 ∈ zq_T := zq_m3 232 rfl rfl
theorem zl_RX10_196 : Cond.methodLink RX10 196 yX10_lookAhead ∈ zq_T := zq_m3 237 rfl rfl
theorem zl_RX10_328 : Cond.methodLink RX10 328 yX6_tellComings ∈ zq_T := zq_m4 1 rfl rfl
theorem zl_RX6_71 : Cond.methodLink RX6 71 yX6_slotOf ∈ zq_T := zq_m4 5 rfl rfl
theorem zl_RX6_75 : Cond.methodLink RX6 75 yX6_priceOf ∈ zq_T := zq_m4 8 rfl rfl
theorem zl_RX6_78 : Cond.methodLink RX6 78 yX6_isBarred ∈ zq_T := zq_m4 9 rfl rfl
theorem zl_RX10_199 : Cond.methodLink RX10 199 yX9_fewestComings ∈ zq_T := zq_m4 10 rfl rfl
theorem zl_RX9_27 : Cond.methodLink RX9 27 yX9_begin ∈ zq_T := zq_m4 14 rfl rfl
theorem zl_RX9_75 : Cond.methodLink RX9 75 yJ7_fill_53178 ∈ zq_T := zq_m4 19 rfl rfl
theorem zl_RX9_81 : Cond.methodLink RX9 81 yX6_packedNow ∈ zq_T := zq_m4 22 rfl rfl
theorem zl_RX9_31 : Cond.methodLink RX9 31 yX9_leastWith ∈ zq_T := zq_m4 26 rfl rfl
theorem zl_RX9_112 : Cond.methodLink RX9 112 yX9_tellSpeakers ∈ zq_T := zq_m4 30 rfl rfl
theorem zl_RX9_48 : Cond.methodLink RX9 48 yX5_everybody ∈ zq_T := zq_m4 34 rfl rfl
theorem zl_RX9_109 : Cond.methodLink RX9 109 yX6_speakers ∈ zq_T := zq_m4 38 rfl rfl
theorem zl_RX9_115 : Cond.methodLink RX9 115 yX6_whoIsAt ∈ zq_T := zq_m4 39 rfl rfl
theorem zl_RX9_36 : Cond.methodLink RX9 36 yX9_goOn ∈ zq_T := zq_m4 43 rfl rfl
theorem zl_RX9_84 : Cond.methodLink RX9 84 yX9_leave ∈ zq_T := zq_m4 47 rfl rfl
theorem zl_RX9_92 : Cond.methodLink RX9 92 yX6_mayCome ∈ zq_T := zq_m4 51 rfl rfl
theorem zl_RX6_85 : Cond.methodLink RX6 85 yX6_numberAt ∈ zq_T := zq_m4 55 rfl rfl
theorem zl_RX9_96 : Cond.methodLink RX9 96 yX6_moved ∈ zq_T := zq_m4 59 rfl rfl
theorem zl_RX9_100 : Cond.methodLink RX9 100 yX9_carried ∈ zq_T := zq_m4 62 rfl rfl
theorem zl_RX9_103 : Cond.methodLink RX9 103 yX6_priceFrom ∈ zq_T := zq_m4 66 rfl rfl
theorem zl_RX9_39 : Cond.methodLink RX9 39 Lib.Math.min.name ∈ zq_T := zq_m4 70 rfl rfl
theorem zl_RX9_88 : Cond.methodLink RX9 88 yX9_takeNext ∈ zq_T := zq_m4 71 rfl rfl
theorem zl_RX10_203 : Cond.methodLink RX10 203 yX9_leastCost ∈ zq_T := zq_m4 79 rfl rfl
theorem zl_RX10_206 : Cond.methodLink RX10 206 yX9_whoNeverCan ∈ zq_T := zq_m4 87 rfl rfl
theorem zl_RX9_54 : Cond.methodLink RX9 54 yX9_whoCanSpeak ∈ zq_T := zq_m4 91 rfl rfl
theorem zl_RX10_209 : Cond.methodLink RX10 209 yX5_whoKnows ∈ zq_T := zq_m4 99 rfl rfl
theorem zl_RX5_46 : Cond.methodLink RX5 46 yX5_isKnown ∈ zq_T := zq_m4 103 rfl rfl
theorem zl_RX10_212 : Cond.methodLink RX10 212 yX5_everybody ∈ zq_T := zq_m4 104 rfl rfl
theorem zl_RX10_216 : Cond.methodLink RX10 216 yX1_fewestTill ∈ zq_T := zq_m4 105 rfl rfl
theorem zl_RX1_46 : Cond.methodLink RX1 46 yJ7_fill_53178 ∈ zq_T := zq_m4 109 rfl rfl
theorem zl_RX1_52 : Cond.methodLink RX1 52 yX6_packedNow ∈ zq_T := zq_m4 110 rfl rfl
theorem zl_RX1_56 : Cond.methodLink RX1 56 yX1_goOn ∈ zq_T := zq_m4 111 rfl rfl
theorem zl_RX1_67 : Cond.methodLink RX1 67 yX1_leave ∈ zq_T := zq_m4 115 rfl rfl
theorem zl_RX1_76 : Cond.methodLink RX1 76 yX6_mayCome ∈ zq_T := zq_m4 119 rfl rfl
theorem zl_RX1_80 : Cond.methodLink RX1 80 yX6_moved ∈ zq_T := zq_m4 120 rfl rfl
theorem zl_RX1_70 : Cond.methodLink RX1 70 arraycopyName ∈ zq_T := zq_m4 121 rfl rfl
theorem zl_RX1_59 : Cond.methodLink RX1 59 yX1_tellSpeakers ∈ zq_T := zq_m4 124 rfl rfl
theorem zl_RX1_88 : Cond.methodLink RX1 88 yX5_everybody ∈ zq_T := zq_m4 128 rfl rfl
theorem zl_RX1_94 : Cond.methodLink RX1 94 yX6_speakers ∈ zq_T := zq_m4 129 rfl rfl
theorem zl_RX1_63 : Cond.methodLink RX1 63 yX1_sayAll ∈ zq_T := zq_m4 130 rfl rfl
theorem zl_RX1_84 : Cond.methodLink RX1 84 yX1_saidIn ∈ zq_T := zq_m4 134 rfl rfl
theorem zl_RX1_97 : Cond.methodLink RX1 97 yX6_whoIsAt ∈ zq_T := zq_m4 138 rfl rfl
theorem zl_RX1_101 : Cond.methodLink RX1 101 yX1_knowingThen ∈ zq_T := zq_m4 139 rfl rfl
theorem zl_RX10_219 : Cond.methodLink RX10 219 yX1_setsOfOneWithout ∈ zq_T := zq_m4 147 rfl rfl
theorem zl_RX10_222 : Cond.methodLink RX10 222 yX8_canWin ∈ zq_T := zq_m4 154 rfl rfl
theorem zl_RX8_15 : Cond.methodLink RX8 15 yX6_packedNow ∈ zq_T := zq_m4 158 rfl rfl
theorem zl_RX8_31 : Cond.methodLink RX8 31 yX8_wins ∈ zq_T := zq_m4 159 rfl rfl
theorem zl_RX8_35 : Cond.methodLink RX8 35 yX6_whoIsAt ∈ zq_T := zq_m4 163 rfl rfl
theorem zl_RX8_39 : Cond.methodLink RX8 39 yX6_speakers ∈ zq_T := zq_m4 164 rfl rfl
theorem zl_RX8_46 : Cond.methodLink RX8 46 yX6_mayCome ∈ zq_T := zq_m4 165 rfl rfl
theorem zl_RX8_50 : Cond.methodLink RX8 50 yX6_moved ∈ zq_T := zq_m4 166 rfl rfl
theorem zl_RX10_239 : Cond.methodLink RX10 239 yX4_fitting ∈ zq_T := zq_m4 179 rfl rfl
theorem zl_RX4_19 : Cond.methodLink RX4 19 yX4_fittingFrom ∈ zq_T := zq_m4 183 rfl rfl
theorem zl_RX4_29 : Cond.methodLink RX4 29 yX4_goesWithAll ∈ zq_T := zq_m4 187 rfl rfl
theorem zl_RX4_42 : Cond.methodLink RX4 42 yX4_isMiddle ∈ zq_T := zq_m4 191 rfl rfl
theorem zl_RX4_46 : Cond.methodLink RX4 46 yJ6_bitCount_0f7a4 ∈ zq_T := zq_m4 195 rfl rfl
theorem zl_RX10_244 : Cond.methodLink RX10 244 yX8_oddsOfSpeaking ∈ zq_T := zq_m4 201 rfl rfl
theorem zl_RX8_55 : Cond.methodLink RX8 55 yX8_sharesSpeaking ∈ zq_T := zq_m4 206 rfl rfl
theorem zl_RX8_63 : Cond.methodLink RX8 63 yX8_waysOn ∈ zq_T := zq_m4 210 rfl rfl
theorem zl_RX8_59 : Cond.methodLink RX8 59 yX8_greatestDivisor ∈ zq_T := zq_m4 214 rfl rfl
theorem zl_RX10_258 : Cond.methodLink RX10 258 yX6_sayable ∈ zq_T := zq_m4 225 rfl rfl
theorem zl_RX6_120 : Cond.methodLink RX6 120 arraycopyName ∈ zq_T := zq_m4 229 rfl rfl
theorem zl_RX6_132 : Cond.methodLink RX6 132 yX6_isSaid ∈ zq_T := zq_m4 230 rfl rfl
theorem zl_RX6_142 : Cond.methodLink RX6 142 yX6_speakers ∈ zq_T := zq_m4 235 rfl rfl
theorem zl_RX10_261 : Cond.methodLink RX10 261 yX10_isTape ∈ zq_T := zq_m5 0 rfl rfl
theorem zl_RX10_264 : Cond.methodLink RX10 264 yX7_holdsRow ∈ zq_T := zq_m5 3 rfl rfl
theorem zl_RX10_271 : Cond.methodLink RX10 271 yX10_firstOtherwise ∈ zq_T := zq_m5 7 rfl rfl
theorem zl_RX10_305 : Cond.methodLink RX10 305 yX7_hasPlace ∈ zq_T := zq_m5 11 rfl rfl
theorem zl_RX10_275 : Cond.methodLink RX10 275 yX5_copyFrom ∈ zq_T := zq_m5 19 rfl rfl
theorem zl_RX5_50 : Cond.methodLink RX5 50 arraycopyName ∈ zq_T := zq_m5 23 rfl rfl
theorem zl_RX10_282 : Cond.methodLink RX10 282 yX0_forget ∈ zq_T := zq_m5 32 rfl rfl
theorem zl_RX10_285 : Cond.methodLink RX10 285 yX0_start ∈ zq_T := zq_m5 36 rfl rfl
theorem zl_RX0_38 : Cond.methodLink RX0 38 yX0_doFrom ∈ zq_T := zq_m5 40 rfl rfl
theorem zl_RX0_48 : Cond.methodLink RX0 48 yX0_bodyFrom ∈ zq_T := zq_m5 44 rfl rfl
theorem zl_RX0_51 : Cond.methodLink RX0 51 yX0_note ∈ zq_T := zq_m5 51 rfl rfl
theorem zl_RX10_289 : Cond.methodLink RX10 289 yX0_bodyAt ∈ zq_T := zq_m5 59 rfl rfl
theorem zl_RX0_19 : Cond.methodLink RX0 19 Lib.Math.min.name ∈ zq_T := zq_m5 63 rfl rfl
theorem zl_RX10_292 : Cond.methodLink RX10 292 yX10_isKindOrUnder ∈ zq_T := zq_m5 69 rfl rfl
theorem zl_RX10_298 : Cond.methodLink RX10 298 yX7_holdNothing ∈ zq_T := zq_m5 81 rfl rfl
theorem zl_RX10_301 : Cond.methodLink RX10 301 yX7_holdZeros ∈ zq_T := zq_m5 85 rfl rfl
theorem zl_RX7_22 : Cond.methodLink RX7 22 yJ7_fill_d0a16 ∈ zq_T := zq_m5 89 rfl rfl
theorem zl_RX10_308 : Cond.methodLink RX10 308 yX7_put ∈ zq_T := zq_m5 96 rfl rfl
theorem zl_RX7_28 : Cond.methodLink RX7 28 yX7_narrowed ∈ zq_T := zq_m5 100 rfl rfl
theorem zl_RX10_316 : Cond.methodLink RX10 316 yX7_hasPart ∈ zq_T := zq_m5 112 rfl rfl
theorem zl_RX10_319 : Cond.methodLink RX10 319 arraycopyName ∈ zq_T := zq_m5 116 rfl rfl
theorem zl_RX11_1 : Cond.methodLink RX11 1 Lib.objectInit ∈ zq_T := zq_m5 122 rfl rfl
theorem zl_RX11_217 : Cond.methodLink RX11 217 yX11_within ∈ zq_T := zq_m6 90 rfl rfl
theorem zl_RX11_225 : Cond.methodLink RX11 225 yX11_isPlace ∈ zq_T := zq_m6 94 rfl rfl
theorem zl_RX11_229 : Cond.methodLink RX11 229 yX11_moved ∈ zq_T := zq_m6 98 rfl rfl
theorem zl_RX11_249 : Cond.methodLink RX11 249 yX11_isPerson ∈ zq_T := zq_m6 106 rfl rfl
theorem zl_RX11_252 : Cond.methodLink RX11 252 yX11_sameNow ∈ zq_T := zq_m6 110 rfl rfl
theorem zl_RX11_308 : Cond.methodLink RX11 308 yX11_first ∈ zq_T := zq_m6 114 rfl rfl
theorem zl_RX11_311 : Cond.methodLink RX11 311 yX11_behind ∈ zq_T := zq_m6 118 rfl rfl
theorem zl_RX11_221 : Cond.methodLink RX11 221 yX11_placeOf ∈ zq_T := zq_m6 122 rfl rfl
theorem zl_RX11_256 : Cond.methodLink RX11 256 yX11_maySpeak ∈ zq_T := zq_m6 126 rfl rfl
theorem zl_RX11_236 : Cond.methodLink RX11 236 yX11_hasLike ∈ zq_T := zq_m6 130 rfl rfl
theorem zl_RX11_233 : Cond.methodLink RX11 233 yX11_measure ∈ zq_T := zq_m6 134 rfl rfl
theorem zl_RX11_240 : Cond.methodLink RX11 240 yX11_placeInLine ∈ zq_T := zq_m6 138 rfl rfl
theorem zl_RX11_243 : Cond.methodLink RX11 243 yX11_manyIn ∈ zq_T := zq_m6 142 rfl rfl
theorem zl_RX11_246 : Cond.methodLink RX11 246 yX11_isMiddle ∈ zq_T := zq_m6 146 rfl rfl
theorem zl_RX11_259 : Cond.methodLink RX11 259 yX11_isRoom ∈ zq_T := zq_m6 158 rfl rfl
theorem zl_RX11_305 : Cond.methodLink RX11 305 yX11_goesText ∈ zq_T := zq_m6 174 rfl rfl
theorem zl_RX11_302 : Cond.methodLink RX11 302 yX11_takesClause ∈ zq_T := zq_m6 178 rfl rfl
theorem zl_RX11_296 : Cond.methodLink RX11 296 yX11_takesHead ∈ zq_T := zq_m6 182 rfl rfl
theorem zl_RX11_262 : Cond.methodLink RX11 262 yX11_next ∈ zq_T := zq_m6 186 rfl rfl
theorem zl_RX11_292 : Cond.methodLink RX11 292 yX11_takesWord ∈ zq_T := zq_m6 190 rfl rfl
theorem zl_RX11_265 : Cond.methodLink RX11 265 yX11_takes ∈ zq_T := zq_m6 194 rfl rfl
theorem zl_RX11_299 : Cond.methodLink RX11 299 yX11_takesE ∈ zq_T := zq_m6 198 rfl rfl
theorem zl_RX11_286 : Cond.methodLink RX11 286 yX11_takesTest ∈ zq_T := zq_m6 202 rfl rfl
theorem zl_RX11_276 : Cond.methodLink RX11 276 yX11_place ∈ zq_T := zq_m6 206 rfl rfl
theorem zl_RX11_280 : Cond.methodLink RX11 280 yX11_takesNumber ∈ zq_T := zq_m6 210 rfl rfl
theorem zl_RX11_268 : Cond.methodLink RX11 268 yX11_isDigit ∈ zq_T := zq_m6 214 rfl rfl
theorem zl_RX11_272 : Cond.methodLink RX11 272 yX11_put ∈ zq_T := zq_m6 218 rfl rfl
theorem zl_RX11_283 : Cond.methodLink RX11 283 yX11_whole ∈ zq_T := zq_m6 222 rfl rfl
theorem zl_RX11_289 : Cond.methodLink RX11 289 yX11_settle ∈ zq_T := zq_m6 226 rfl rfl
theorem zl_RX11_322 : Cond.methodLink RX11 322 yX11_sumOf ∈ zq_T := zq_m6 238 rfl rfl
theorem zl_RX11_318 : Cond.methodLink RX11 318 yX11_holds ∈ zq_T := zq_m7 2 rfl rfl
theorem zl_RX11_314 : Cond.methodLink RX11 314 yX11_factOf ∈ zq_T := zq_m7 6 rfl rfl
theorem zl_RX11_325 : Cond.methodLink RX11 325 yX11_isBarred ∈ zq_T := zq_m7 10 rfl rfl
theorem zl_RX11_334 : Cond.methodLink RX11 334 yX11_isThing ∈ zq_T := zq_m7 22 rfl rfl
theorem zl_RX11_331 : Cond.methodLink RX11 331 yX11_has ∈ zq_T := zq_m7 26 rfl rfl
theorem zl_RX11_337 : Cond.methodLink RX11 337 yX11_said ∈ zq_T := zq_m7 30 rfl rfl
theorem zl_RX11_355 : Cond.methodLink RX11 355 yX11_layComings ∈ zq_T := zq_m7 38 rfl rfl
theorem zl_RX11_358 : Cond.methodLink RX11 358 yX11_soonestOf ∈ zq_T := zq_m7 42 rfl rfl
theorem zl_RX11_346 : Cond.methodLink RX11 346 yX11_beginAt ∈ zq_T := zq_m7 46 rfl rfl
theorem zl_RX11_340 : Cond.methodLink RX11 340 yX11_places ∈ zq_T := zq_m7 50 rfl rfl
theorem zl_RX11_349 : Cond.methodLink RX11 349 yX11_canSpeak ∈ zq_T := zq_m7 54 rfl rfl
theorem zl_RX11_352 : Cond.methodLink RX11 352 yX11_goOn ∈ zq_T := zq_m7 58 rfl rfl
theorem zl_RX11_343 : Cond.methodLink RX11 343 yX11_mayCome ∈ zq_T := zq_m7 62 rfl rfl
theorem zl_RX11_328 : Cond.methodLink RX11 328 yX11_comingOf ∈ zq_T := zq_m7 66 rfl rfl
theorem zl_RX11_361 : Cond.methodLink RX11 361 yX11_leadsBy ∈ zq_T := zq_m7 70 rfl rfl
theorem zl_RX11_364 : Cond.methodLink RX11 364 yX11_goOnCheap ∈ zq_T := zq_m7 78 rfl rfl
theorem zl_RX11_373 : Cond.methodLink RX11 373 yX11_fewestBy ∈ zq_T := zq_m7 90 rfl rfl
theorem zl_RX11_367 : Cond.methodLink RX11 367 yX11_spread ∈ zq_T := zq_m7 94 rfl rfl
theorem zl_RX11_370 : Cond.methodLink RX11 370 yX11_goOnKnown ∈ zq_T := zq_m7 98 rfl rfl
theorem zl_RX11_379 : Cond.methodLink RX11 379 yX11_turns ∈ zq_T := zq_m7 110 rfl rfl
theorem zl_RX11_382 : Cond.methodLink RX11 382 yX11_mayTurn ∈ zq_T := zq_m7 114 rfl rfl
theorem zl_RX11_385 : Cond.methodLink RX11 385 yX11_behindTurn ∈ zq_T := zq_m7 118 rfl rfl
theorem zl_RX11_392 : Cond.methodLink RX11 392 yX11_winsSecond ∈ zq_T := zq_m7 122 rfl rfl
theorem zl_RX11_376 : Cond.methodLink RX11 376 yX11_isWon ∈ zq_T := zq_m7 126 rfl rfl
theorem zl_RX11_388 : Cond.methodLink RX11 388 yX11_winsThird ∈ zq_T := zq_m7 130 rfl rfl
theorem zl_RX11_395 : Cond.methodLink RX11 395 yX11_ones ∈ zq_T := zq_m7 142 rfl rfl
theorem zl_RX11_398 : Cond.methodLink RX11 398 yX11_layOrder ∈ zq_T := zq_m7 150 rfl rfl
theorem zl_RX11_401 : Cond.methodLink RX11 401 yX11_goesWithRows ∈ zq_T := zq_m7 154 rfl rfl
theorem zl_RX11_424 : Cond.methodLink RX11 424 yX11_layLot ∈ zq_T := zq_m7 163 rfl rfl
theorem zl_RX11_408 : Cond.methodLink RX11 408 yX11_waysFrom ∈ zq_T := zq_m7 167 rfl rfl
theorem zl_RX11_411 : Cond.methodLink RX11 411 yX11_addLot ∈ zq_T := zq_m7 171 rfl rfl
theorem zl_RX11_404 : Cond.methodLink RX11 404 yX11_divisor ∈ zq_T := zq_m7 175 rfl rfl
theorem zl_RX11_418 : Cond.methodLink RX11 418 yX11_addFrom ∈ zq_T := zq_m7 179 rfl rfl
theorem zl_RX11_415 : Cond.methodLink RX11 415 yX11_speaksBehind ∈ zq_T := zq_m7 183 rfl rfl
theorem zl_RX11_428 : Cond.methodLink RX11 428 yX11_isTape ∈ zq_T := zq_m7 199 rfl rfl
theorem zl_RX11_437 : Cond.methodLink RX11 437 yX11_hearsAct ∈ zq_T := zq_m7 215 rfl rfl
theorem zl_RX11_431 : Cond.methodLink RX11 431 yX11_body ∈ zq_T := zq_m7 219 rfl rfl
theorem zl_RX11_434 : Cond.methodLink RX11 434 yX11_roomHears ∈ zq_T := zq_m7 223 rfl rfl
theorem zl_RX11_446 : Cond.methodLink RX11 446 yX11_speaksAct ∈ zq_T := zq_m7 227 rfl rfl
theorem zl_RX11_443 : Cond.methodLink RX11 443 yX11_lowerSpeaks ∈ zq_T := zq_m7 231 rfl rfl
theorem zl_RX11_440 : Cond.methodLink RX11 440 yX11_roomSpeaks ∈ zq_T := zq_m7 235 rfl rfl
theorem zl_RX11_452 : Cond.methodLink RX11 452 yX11_tellsAct ∈ zq_T := zq_m7 239 rfl rfl
theorem zl_RX11_449 : Cond.methodLink RX11 449 yX11_roomTells ∈ zq_T := zq_m8 3 rfl rfl
theorem zl_RX11_455 : Cond.methodLink RX11 455 yX11_narrow ∈ zq_T := zq_m8 27 rfl rfl
theorem zx_min1 : Cond.static Lib.Math.min.name ∈ zq_T := zq_m2 230 rfl rfl
theorem zx_min2 : Cond.initialized "java/lang/Math" ∈ zq_T := zq_m1 13 rfl rfl
theorem zx_min3 : Cond.code Lib.Math.min.name Lib.Math.min.code 2 (some .int) ∈ zq_T := zq_m2 231 rfl rfl
theorem zx_oi1 : Cond.instanceMethod Lib.objectInit ∈ zq_T := zq_m1 28 rfl rfl
theorem zx_oi2 : Cond.code Lib.objectInit ⟨#[0xb1]⟩ 1 none ∈ zq_T := zq_m1 29 rfl rfl
theorem zx_ac1 : Cond.native arraycopyName ∈ zq_T := zq_m4 123 rfl rfl
theorem zx_ac2 : Cond.static arraycopyName ∈ zq_T := zq_m4 122 rfl rfl
theorem zx_ac3 : Cond.initialized "java/lang/System" ∈ zq_T := zq_m1 21 rfl rfl
theorem zk_RJ6_265 : Cond.constant RJ6 265 (1431655765) ∈ zq_T := zq_m3 177 rfl rfl
theorem zk_RJ6_266 : Cond.constant RJ6 266 (858993459) ∈ zq_T := zq_m3 178 rfl rfl
theorem zk_RJ6_267 : Cond.constant RJ6 267 (252645135) ∈ zq_T := zq_m3 179 rfl rfl
theorem zk_RX9_35 : Cond.constant RX9 35 (1073741824) ∈ zq_T := zq_m4 18 rfl rfl
theorem zk_RX11_114 : Cond.constant RX11 114 (32768) ∈ zq_T := zq_m5 123 rfl rfl
theorem zk_RX10_242 : Cond.constantLong RX10 242 (-9223372036854775808) ∈ zq_T := zq_m4 200 rfl rfl
theorem zk_RX8_53 : Cond.constantLong RX8 53 (129859329600) ∈ zq_T := zq_m4 205 rfl rfl
theorem zk_RX11_422 : Cond.constantLong RX11 422 (-9223372036854775808) ∈ zq_T := zq_m7 162 rfl rfl
theorem zc_im1 : Int32.ofInt (-1) = (-1 : Int32) := by decide
theorem zc_i0 : Int32.ofInt (0) = (0 : Int32) := by decide
theorem zc_i1 : Int32.ofInt (1) = (1 : Int32) := by decide
theorem zc_i2 : Int32.ofInt (2) = (2 : Int32) := by decide
theorem zc_i3 : Int32.ofInt (3) = (3 : Int32) := by decide
theorem zc_i4 : Int32.ofInt (4) = (4 : Int32) := by decide
theorem zc_i5 : Int32.ofInt (5) = (5 : Int32) := by decide
theorem zc_bm38 : (Int8.ofInt (-38)).toInt32 = (-38 : Int32) := by decide
theorem zc_bm33 : (Int8.ofInt (-33)).toInt32 = (-33 : Int32) := by decide
theorem zc_bm14 : (Int8.ofInt (-14)).toInt32 = (-14 : Int32) := by decide
theorem zc_bm13 : (Int8.ofInt (-13)).toInt32 = (-13 : Int32) := by decide
theorem zc_bm12 : (Int8.ofInt (-12)).toInt32 = (-12 : Int32) := by decide
theorem zc_bm11 : (Int8.ofInt (-11)).toInt32 = (-11 : Int32) := by decide
theorem zc_bm10 : (Int8.ofInt (-10)).toInt32 = (-10 : Int32) := by decide
theorem zc_bm5 : (Int8.ofInt (-5)).toInt32 = (-5 : Int32) := by decide
theorem zc_bm4 : (Int8.ofInt (-4)).toInt32 = (-4 : Int32) := by decide
theorem zc_bm3 : (Int8.ofInt (-3)).toInt32 = (-3 : Int32) := by decide
theorem zc_bm2 : (Int8.ofInt (-2)).toInt32 = (-2 : Int32) := by decide
theorem zc_b6 : (Int8.ofInt (6)).toInt32 = (6 : Int32) := by decide
theorem zc_b7 : (Int8.ofInt (7)).toInt32 = (7 : Int32) := by decide
theorem zc_b8 : (Int8.ofInt (8)).toInt32 = (8 : Int32) := by decide
theorem zc_b9 : (Int8.ofInt (9)).toInt32 = (9 : Int32) := by decide
theorem zc_b10 : (Int8.ofInt (10)).toInt32 = (10 : Int32) := by decide
theorem zc_b11 : (Int8.ofInt (11)).toInt32 = (11 : Int32) := by decide
theorem zc_b12 : (Int8.ofInt (12)).toInt32 = (12 : Int32) := by decide
theorem zc_b13 : (Int8.ofInt (13)).toInt32 = (13 : Int32) := by decide
theorem zc_b14 : (Int8.ofInt (14)).toInt32 = (14 : Int32) := by decide
theorem zc_b15 : (Int8.ofInt (15)).toInt32 = (15 : Int32) := by decide
theorem zc_b16 : (Int8.ofInt (16)).toInt32 = (16 : Int32) := by decide
theorem zc_b17 : (Int8.ofInt (17)).toInt32 = (17 : Int32) := by decide
theorem zc_b19 : (Int8.ofInt (19)).toInt32 = (19 : Int32) := by decide
theorem zc_b20 : (Int8.ofInt (20)).toInt32 = (20 : Int32) := by decide
theorem zc_b24 : (Int8.ofInt (24)).toInt32 = (24 : Int32) := by decide
theorem zc_b30 : (Int8.ofInt (30)).toInt32 = (30 : Int32) := by decide
theorem zc_b32 : (Int8.ofInt (32)).toInt32 = (32 : Int32) := by decide
theorem zc_b33 : (Int8.ofInt (33)).toInt32 = (33 : Int32) := by decide
theorem zc_b38 : (Int8.ofInt (38)).toInt32 = (38 : Int32) := by decide
theorem zc_b40 : (Int8.ofInt (40)).toInt32 = (40 : Int32) := by decide
theorem zc_b41 : (Int8.ofInt (41)).toInt32 = (41 : Int32) := by decide
theorem zc_b48 : (Int8.ofInt (48)).toInt32 = (48 : Int32) := by decide
theorem zc_b49 : (Int8.ofInt (49)).toInt32 = (49 : Int32) := by decide
theorem zc_b50 : (Int8.ofInt (50)).toInt32 = (50 : Int32) := by decide
theorem zc_b51 : (Int8.ofInt (51)).toInt32 = (51 : Int32) := by decide
theorem zc_b57 : (Int8.ofInt (57)).toInt32 = (57 : Int32) := by decide
theorem zc_b59 : (Int8.ofInt (59)).toInt32 = (59 : Int32) := by decide
theorem zc_b60 : (Int8.ofInt (60)).toInt32 = (60 : Int32) := by decide
theorem zc_b62 : (Int8.ofInt (62)).toInt32 = (62 : Int32) := by decide
theorem zc_b63 : (Int8.ofInt (63)).toInt32 = (63 : Int32) := by decide
theorem zc_b70 : (Int8.ofInt (70)).toInt32 = (70 : Int32) := by decide
theorem zc_b71 : (Int8.ofInt (71)).toInt32 = (71 : Int32) := by decide
theorem zc_b96 : (Int8.ofInt (96)).toInt32 = (96 : Int32) := by decide
theorem zc_b97 : (Int8.ofInt (97)).toInt32 = (97 : Int32) := by decide
theorem zc_b98 : (Int8.ofInt (98)).toInt32 = (98 : Int32) := by decide
theorem zc_b99 : (Int8.ofInt (99)).toInt32 = (99 : Int32) := by decide
theorem zc_b100 : (Int8.ofInt (100)).toInt32 = (100 : Int32) := by decide
theorem zc_b101 : (Int8.ofInt (101)).toInt32 = (101 : Int32) := by decide
theorem zc_b104 : (Int8.ofInt (104)).toInt32 = (104 : Int32) := by decide
theorem zc_b105 : (Int8.ofInt (105)).toInt32 = (105 : Int32) := by decide
theorem zc_b109 : (Int8.ofInt (109)).toInt32 = (109 : Int32) := by decide
theorem zc_b111 : (Int8.ofInt (111)).toInt32 = (111 : Int32) := by decide
theorem zc_b112 : (Int8.ofInt (112)).toInt32 = (112 : Int32) := by decide
theorem zc_b114 : (Int8.ofInt (114)).toInt32 = (114 : Int32) := by decide
theorem zc_b115 : (Int8.ofInt (115)).toInt32 = (115 : Int32) := by decide
theorem zc_b116 : (Int8.ofInt (116)).toInt32 = (116 : Int32) := by decide
theorem zc_b119 : (Int8.ofInt (119)).toInt32 = (119 : Int32) := by decide
theorem zc_b120 : (Int8.ofInt (120)).toInt32 = (120 : Int32) := by decide
theorem zc_b124 : (Int8.ofInt (124)).toInt32 = (124 : Int32) := by decide
theorem zc_b127 : (Int8.ofInt (127)).toInt32 = (127 : Int32) := by decide
theorem zc_sm10003 : (Int16.ofInt (-10003)).toInt32 = (-10003 : Int32) := by decide
theorem zc_sm10001 : (Int16.ofInt (-10001)).toInt32 = (-10001 : Int32) := by decide
theorem zc_s200 : (Int16.ofInt (200)).toInt32 = (200 : Int32) := by decide
theorem zc_s255 : (Int16.ofInt (255)).toInt32 = (255 : Int32) := by decide
theorem zc_s341 : (Int16.ofInt (341)).toInt32 = (341 : Int32) := by decide
theorem zc_s360 : (Int16.ofInt (360)).toInt32 = (360 : Int32) := by decide
theorem zc_s600 : (Int16.ofInt (600)).toInt32 = (600 : Int32) := by decide
theorem zc_s1000 : (Int16.ofInt (1000)).toInt32 = (1000 : Int32) := by decide
theorem zc_s1023 : (Int16.ofInt (1023)).toInt32 = (1023 : Int32) := by decide
theorem zc_s1024 : (Int16.ofInt (1024)).toInt32 = (1024 : Int32) := by decide
theorem zc_s9999 : (Int16.ofInt (9999)).toInt32 = (9999 : Int32) := by decide
