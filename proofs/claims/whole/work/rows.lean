section
/-- a private method of a class that the tables say can be made, by its rows of tables_1 -/
def lw_okq (q : MethodName × Nat) : Prop := (q.1.cls ≠ "java/lang/invoke/MethodHandle" ∧ q.1.cls ≠ "java/lang/invoke/VarHandle") ∧ Cond.instantiable q.1.cls q.2 ∈ tables_1 ∧ Cond.privateMethod q.1 ∈ tables_1 ∧ Cond.instanceMethod q.1 ∈ tables_1
theorem lw_p0 : lw_okq (⟨"MiddleSpeaks", "isPerson", "(I)Z"⟩, 16) := ⟨⟨by decide +kernel, by decide +kernel⟩, List.mem_of_getElem? (i := 23) (by decide +kernel), List.mem_of_getElem? (i := 395) (by decide +kernel), List.mem_of_getElem? (i := 396) (by decide +kernel)⟩
theorem lw_p1 : lw_okq (⟨"MiddleSpeaks", "maySpeakNow", "(I)Z"⟩, 16) := ⟨⟨by decide +kernel, by decide +kernel⟩, List.mem_of_getElem? (i := 23) (by decide +kernel), List.mem_of_getElem? (i := 399) (by decide +kernel), List.mem_of_getElem? (i := 400) (by decide +kernel)⟩
theorem lw_p2 : lw_okq (⟨"MiddleSpeaks", "speakersNow", "(I)I"⟩, 16) := ⟨⟨by decide +kernel, by decide +kernel⟩, List.mem_of_getElem? (i := 23) (by decide +kernel), List.mem_of_getElem? (i := 403) (by decide +kernel), List.mem_of_getElem? (i := 404) (by decide +kernel)⟩
theorem lw_p3 : lw_okq (⟨"MiddleSpeaks", "holding", "()LMiddleSpeaks$House;"⟩, 16) := ⟨⟨by decide +kernel, by decide +kernel⟩, List.mem_of_getElem? (i := 23) (by decide +kernel), List.mem_of_getElem? (i := 407) (by decide +kernel), List.mem_of_getElem? (i := 408) (by decide +kernel)⟩
theorem lw_p4 : lw_okq (⟨"MiddleSpeaks$Standing", "lineUp", "(I[I)I"⟩, 7) := ⟨⟨by decide +kernel, by decide +kernel⟩, List.mem_of_getElem? (i := 171) (by decide +kernel), List.mem_of_getElem? (i := 426) (by decide +kernel), List.mem_of_getElem? (i := 427) (by decide +kernel)⟩
theorem lw_p5 : lw_okq (⟨"MiddleSpeaks$Standing", "withoutNear", "(II[I)I"⟩, 7) := ⟨⟨by decide +kernel, by decide +kernel⟩, List.mem_of_getElem? (i := 171) (by decide +kernel), List.mem_of_getElem? (i := 433) (by decide +kernel), List.mem_of_getElem? (i := 434) (by decide +kernel)⟩
theorem lw_p6 : lw_okq (⟨"MiddleSpeaks$Standing", "isNearAnother", "(II[I)Z"⟩, 7) := ⟨⟨by decide +kernel, by decide +kernel⟩, List.mem_of_getElem? (i := 171) (by decide +kernel), List.mem_of_getElem? (i := 437) (by decide +kernel), List.mem_of_getElem? (i := 438) (by decide +kernel)⟩
theorem lw_p7 : lw_okq (⟨"MiddleSpeaks$HouseReader", "readClause", "()Z"⟩, 4) := ⟨⟨by decide +kernel, by decide +kernel⟩, List.mem_of_getElem? (i := 150) (by decide +kernel), List.mem_of_getElem? (i := 469) (by decide +kernel), List.mem_of_getElem? (i := 470) (by decide +kernel)⟩
theorem lw_p8 : lw_okq (⟨"MiddleSpeaks$HouseReader", "readWord", "()I"⟩, 4) := ⟨⟨by decide +kernel, by decide +kernel⟩, List.mem_of_getElem? (i := 150) (by decide +kernel), List.mem_of_getElem? (i := 473) (by decide +kernel), List.mem_of_getElem? (i := 474) (by decide +kernel)⟩
theorem lw_p9 : lw_okq (⟨"MiddleSpeaks$HouseReader", "eatAll", "(Ljava/lang/String;)Z"⟩, 4) := ⟨⟨by decide +kernel, by decide +kernel⟩, List.mem_of_getElem? (i := 150) (by decide +kernel), List.mem_of_getElem? (i := 478) (by decide +kernel), List.mem_of_getElem? (i := 479) (by decide +kernel)⟩
theorem lw_p10 : lw_okq (⟨"MiddleSpeaks$HouseReader", "eat", "(I)Z"⟩, 4) := ⟨⟨by decide +kernel, by decide +kernel⟩, List.mem_of_getElem? (i := 150) (by decide +kernel), List.mem_of_getElem? (i := 530) (by decide +kernel), List.mem_of_getElem? (i := 531) (by decide +kernel)⟩
theorem lw_p11 : lw_okq (⟨"MiddleSpeaks$HouseReader", "readNumber", "()I"⟩, 4) := ⟨⟨by decide +kernel, by decide +kernel⟩, List.mem_of_getElem? (i := 150) (by decide +kernel), List.mem_of_getElem? (i := 537) (by decide +kernel), List.mem_of_getElem? (i := 538) (by decide +kernel)⟩
theorem lw_p12 : lw_okq (⟨"MiddleSpeaks$HouseReader", "eatOneOf", "(Ljava/lang/String;)I"⟩, 4) := ⟨⟨by decide +kernel, by decide +kernel⟩, List.mem_of_getElem? (i := 150) (by decide +kernel), List.mem_of_getElem? (i := 542) (by decide +kernel), List.mem_of_getElem? (i := 543) (by decide +kernel)⟩
theorem lw_p13 : lw_okq (⟨"MiddleSpeaks$HouseReader", "readAny", "(I)Z"⟩, 4) := ⟨⟨by decide +kernel, by decide +kernel⟩, List.mem_of_getElem? (i := 150) (by decide +kernel), List.mem_of_getElem? (i := 603) (by decide +kernel), List.mem_of_getElem? (i := 604) (by decide +kernel)⟩
theorem lw_p14 : lw_okq (⟨"MiddleSpeaks$HouseReader", "readAll", "(I)Z"⟩, 4) := ⟨⟨by decide +kernel, by decide +kernel⟩, List.mem_of_getElem? (i := 150) (by decide +kernel), List.mem_of_getElem? (i := 607) (by decide +kernel), List.mem_of_getElem? (i := 608) (by decide +kernel)⟩
theorem lw_p15 : lw_okq (⟨"MiddleSpeaks$HouseReader", "readOne", "(I)Z"⟩, 4) := ⟨⟨by decide +kernel, by decide +kernel⟩, List.mem_of_getElem? (i := 150) (by decide +kernel), List.mem_of_getElem? (i := 611) (by decide +kernel), List.mem_of_getElem? (i := 612) (by decide +kernel)⟩
def lw_privs_1 : List (MethodName × Nat) := [(⟨"MiddleSpeaks", "isPerson", "(I)Z"⟩, 16), (⟨"MiddleSpeaks", "maySpeakNow", "(I)Z"⟩, 16), (⟨"MiddleSpeaks", "speakersNow", "(I)I"⟩, 16), (⟨"MiddleSpeaks", "holding", "()LMiddleSpeaks$House;"⟩, 16), (⟨"MiddleSpeaks$Standing", "lineUp", "(I[I)I"⟩, 7), (⟨"MiddleSpeaks$Standing", "withoutNear", "(II[I)I"⟩, 7), (⟨"MiddleSpeaks$Standing", "isNearAnother", "(II[I)Z"⟩, 7), (⟨"MiddleSpeaks$HouseReader", "readClause", "()Z"⟩, 4), (⟨"MiddleSpeaks$HouseReader", "readWord", "()I"⟩, 4), (⟨"MiddleSpeaks$HouseReader", "eatAll", "(Ljava/lang/String;)Z"⟩, 4), (⟨"MiddleSpeaks$HouseReader", "eat", "(I)Z"⟩, 4), (⟨"MiddleSpeaks$HouseReader", "readNumber", "()I"⟩, 4), (⟨"MiddleSpeaks$HouseReader", "eatOneOf", "(Ljava/lang/String;)I"⟩, 4), (⟨"MiddleSpeaks$HouseReader", "readAny", "(I)Z"⟩, 4), (⟨"MiddleSpeaks$HouseReader", "readAll", "(I)Z"⟩, 4), (⟨"MiddleSpeaks$HouseReader", "readOne", "(I)Z"⟩, 4)]
theorem lw_r1 : ∀ q ∈ lw_privs_1, lw_okq q := List.forall_mem_cons.mpr ⟨lw_p0, List.forall_mem_cons.mpr ⟨lw_p1, List.forall_mem_cons.mpr ⟨lw_p2, List.forall_mem_cons.mpr ⟨lw_p3, List.forall_mem_cons.mpr ⟨lw_p4, List.forall_mem_cons.mpr ⟨lw_p5, List.forall_mem_cons.mpr ⟨lw_p6, List.forall_mem_cons.mpr ⟨lw_p7, List.forall_mem_cons.mpr ⟨lw_p8, List.forall_mem_cons.mpr ⟨lw_p9, List.forall_mem_cons.mpr ⟨lw_p10, List.forall_mem_cons.mpr ⟨lw_p11, List.forall_mem_cons.mpr ⟨lw_p12, List.forall_mem_cons.mpr ⟨lw_p13, List.forall_mem_cons.mpr ⟨lw_p14, List.forall_mem_cons.mpr ⟨lw_p15, fun _ h => absurd h List.not_mem_nil⟩⟩⟩⟩⟩⟩⟩⟩⟩⟩⟩⟩⟩⟩⟩⟩
theorem lw_p16 : lw_okq (⟨"MiddleSpeaks$HouseReader", "readTest", "()Z"⟩, 4) := ⟨⟨by decide +kernel, by decide +kernel⟩, List.mem_of_getElem? (i := 150) (by decide +kernel), List.mem_of_getElem? (i := 615) (by decide +kernel), List.mem_of_getElem? (i := 616) (by decide +kernel)⟩
theorem lw_p17 : lw_okq (⟨"MiddleSpeaks", "priceNow", "(II)I"⟩, 16) := ⟨⟨by decide +kernel, by decide +kernel⟩, List.mem_of_getElem? (i := 23) (by decide +kernel), List.mem_of_getElem? (i := 643) (by decide +kernel), List.mem_of_getElem? (i := 644) (by decide +kernel)⟩
theorem lw_p18 : lw_okq (⟨"MiddleSpeaks", "numberWith", "(I)I"⟩, 16) := ⟨⟨by decide +kernel, by decide +kernel⟩, List.mem_of_getElem? (i := 23) (by decide +kernel), List.mem_of_getElem? (i := 647) (by decide +kernel), List.mem_of_getElem? (i := 648) (by decide +kernel)⟩
theorem lw_p19 : lw_okq (⟨"MiddleSpeaks$Standing", "setFacts", "(IIII)V"⟩, 7) := ⟨⟨by decide +kernel, by decide +kernel⟩, List.mem_of_getElem? (i := 171) (by decide +kernel), List.mem_of_getElem? (i := 661) (by decide +kernel), List.mem_of_getElem? (i := 662) (by decide +kernel)⟩
theorem lw_p20 : lw_okq (⟨"MiddleSpeaks$House", "holdsIn", "(I[I)Z"⟩, 7) := ⟨⟨by decide +kernel, by decide +kernel⟩, List.mem_of_getElem? (i := 120) (by decide +kernel), List.mem_of_getElem? (i := 669) (by decide +kernel), List.mem_of_getElem? (i := 670) (by decide +kernel)⟩
theorem lw_p21 : lw_okq (⟨"MiddleSpeaks", "isBarredNow", "(II)Z"⟩, 16) := ⟨⟨by decide +kernel, by decide +kernel⟩, List.mem_of_getElem? (i := 23) (by decide +kernel), List.mem_of_getElem? (i := 676) (by decide +kernel), List.mem_of_getElem? (i := 677) (by decide +kernel)⟩
theorem lw_p22 : lw_okq (⟨"MiddleSpeaks", "lookAhead", "()V"⟩, 16) := ⟨⟨by decide +kernel, by decide +kernel⟩, List.mem_of_getElem? (i := 23) (by decide +kernel), List.mem_of_getElem? (i := 714) (by decide +kernel), List.mem_of_getElem? (i := 715) (by decide +kernel)⟩
theorem lw_p23 : lw_okq (⟨"MiddleSpeaks$Walk", "begin", "(Z)V"⟩, 8) := ⟨⟨by decide +kernel, by decide +kernel⟩, List.mem_of_getElem? (i := 203) (by decide +kernel), List.mem_of_getElem? (i := 731) (by decide +kernel), List.mem_of_getElem? (i := 732) (by decide +kernel)⟩
theorem lw_p24 : lw_okq (⟨"MiddleSpeaks$Walk", "leastWith", "(II)I"⟩, 8) := ⟨⟨by decide +kernel, by decide +kernel⟩, List.mem_of_getElem? (i := 203) (by decide +kernel), List.mem_of_getElem? (i := 743) (by decide +kernel), List.mem_of_getElem? (i := 744) (by decide +kernel)⟩
theorem lw_p25 : lw_okq (⟨"MiddleSpeaks$Walk", "tellSpeakers", "(I)V"⟩, 8) := ⟨⟨by decide +kernel, by decide +kernel⟩, List.mem_of_getElem? (i := 203) (by decide +kernel), List.mem_of_getElem? (i := 747) (by decide +kernel), List.mem_of_getElem? (i := 748) (by decide +kernel)⟩
theorem lw_p26 : lw_okq (⟨"MiddleSpeaks$Walk", "goOn", "()V"⟩, 8) := ⟨⟨by decide +kernel, by decide +kernel⟩, List.mem_of_getElem? (i := 203) (by decide +kernel), List.mem_of_getElem? (i := 760) (by decide +kernel), List.mem_of_getElem? (i := 761) (by decide +kernel)⟩
theorem lw_p27 : lw_okq (⟨"MiddleSpeaks$Walk", "leave", "(I)V"⟩, 8) := ⟨⟨by decide +kernel, by decide +kernel⟩, List.mem_of_getElem? (i := 203) (by decide +kernel), List.mem_of_getElem? (i := 764) (by decide +kernel), List.mem_of_getElem? (i := 765) (by decide +kernel)⟩
theorem lw_p28 : lw_okq (⟨"MiddleSpeaks$Standing", "numberAt", "(II)I"⟩, 7) := ⟨⟨by decide +kernel, by decide +kernel⟩, List.mem_of_getElem? (i := 171) (by decide +kernel), List.mem_of_getElem? (i := 772) (by decide +kernel), List.mem_of_getElem? (i := 773) (by decide +kernel)⟩
theorem lw_p29 : lw_okq (⟨"MiddleSpeaks$Walk", "carried", "(III)I"⟩, 8) := ⟨⟨by decide +kernel, by decide +kernel⟩, List.mem_of_getElem? (i := 203) (by decide +kernel), List.mem_of_getElem? (i := 779) (by decide +kernel), List.mem_of_getElem? (i := 780) (by decide +kernel)⟩
theorem lw_p30 : lw_okq (⟨"MiddleSpeaks$Walk", "takeNext", "()Z"⟩, 8) := ⟨⟨by decide +kernel, by decide +kernel⟩, List.mem_of_getElem? (i := 203) (by decide +kernel), List.mem_of_getElem? (i := 788) (by decide +kernel), List.mem_of_getElem? (i := 789) (by decide +kernel)⟩
theorem lw_p31 : lw_okq (⟨"MiddleSpeaks$Walk", "whoCanSpeak", "(I)I"⟩, 8) := ⟨⟨by decide +kernel, by decide +kernel⟩, List.mem_of_getElem? (i := 203) (by decide +kernel), List.mem_of_getElem? (i := 808) (by decide +kernel), List.mem_of_getElem? (i := 809) (by decide +kernel)⟩
def lw_privs_2 : List (MethodName × Nat) := [(⟨"MiddleSpeaks$HouseReader", "readTest", "()Z"⟩, 4), (⟨"MiddleSpeaks", "priceNow", "(II)I"⟩, 16), (⟨"MiddleSpeaks", "numberWith", "(I)I"⟩, 16), (⟨"MiddleSpeaks$Standing", "setFacts", "(IIII)V"⟩, 7), (⟨"MiddleSpeaks$House", "holdsIn", "(I[I)Z"⟩, 7), (⟨"MiddleSpeaks", "isBarredNow", "(II)Z"⟩, 16), (⟨"MiddleSpeaks", "lookAhead", "()V"⟩, 16), (⟨"MiddleSpeaks$Walk", "begin", "(Z)V"⟩, 8), (⟨"MiddleSpeaks$Walk", "leastWith", "(II)I"⟩, 8), (⟨"MiddleSpeaks$Walk", "tellSpeakers", "(I)V"⟩, 8), (⟨"MiddleSpeaks$Walk", "goOn", "()V"⟩, 8), (⟨"MiddleSpeaks$Walk", "leave", "(I)V"⟩, 8), (⟨"MiddleSpeaks$Standing", "numberAt", "(II)I"⟩, 7), (⟨"MiddleSpeaks$Walk", "carried", "(III)I"⟩, 8), (⟨"MiddleSpeaks$Walk", "takeNext", "()Z"⟩, 8), (⟨"MiddleSpeaks$Walk", "whoCanSpeak", "(I)I"⟩, 8)]
theorem lw_r2 : ∀ q ∈ lw_privs_2, lw_okq q := List.forall_mem_cons.mpr ⟨lw_p16, List.forall_mem_cons.mpr ⟨lw_p17, List.forall_mem_cons.mpr ⟨lw_p18, List.forall_mem_cons.mpr ⟨lw_p19, List.forall_mem_cons.mpr ⟨lw_p20, List.forall_mem_cons.mpr ⟨lw_p21, List.forall_mem_cons.mpr ⟨lw_p22, List.forall_mem_cons.mpr ⟨lw_p23, List.forall_mem_cons.mpr ⟨lw_p24, List.forall_mem_cons.mpr ⟨lw_p25, List.forall_mem_cons.mpr ⟨lw_p26, List.forall_mem_cons.mpr ⟨lw_p27, List.forall_mem_cons.mpr ⟨lw_p28, List.forall_mem_cons.mpr ⟨lw_p29, List.forall_mem_cons.mpr ⟨lw_p30, List.forall_mem_cons.mpr ⟨lw_p31, fun _ h => absurd h List.not_mem_nil⟩⟩⟩⟩⟩⟩⟩⟩⟩⟩⟩⟩⟩⟩⟩⟩
theorem lw_p32 : lw_okq (⟨"MiddleSpeaks$Hearing", "goOn", "()V"⟩, 7) := ⟨⟨by decide +kernel, by decide +kernel⟩, List.mem_of_getElem? (i := 234) (by decide +kernel), List.mem_of_getElem? (i := 828) (by decide +kernel), List.mem_of_getElem? (i := 829) (by decide +kernel)⟩
theorem lw_p33 : lw_okq (⟨"MiddleSpeaks$Hearing", "leave", "(I)V"⟩, 7) := ⟨⟨by decide +kernel, by decide +kernel⟩, List.mem_of_getElem? (i := 234) (by decide +kernel), List.mem_of_getElem? (i := 832) (by decide +kernel), List.mem_of_getElem? (i := 833) (by decide +kernel)⟩
theorem lw_p34 : lw_okq (⟨"MiddleSpeaks$Hearing", "tellSpeakers", "(I)V"⟩, 7) := ⟨⟨by decide +kernel, by decide +kernel⟩, List.mem_of_getElem? (i := 234) (by decide +kernel), List.mem_of_getElem? (i := 841) (by decide +kernel), List.mem_of_getElem? (i := 842) (by decide +kernel)⟩
theorem lw_p35 : lw_okq (⟨"MiddleSpeaks$Hearing", "sayAll", "(I)Z"⟩, 7) := ⟨⟨by decide +kernel, by decide +kernel⟩, List.mem_of_getElem? (i := 234) (by decide +kernel), List.mem_of_getElem? (i := 847) (by decide +kernel), List.mem_of_getElem? (i := 848) (by decide +kernel)⟩
theorem lw_p36 : lw_okq (⟨"MiddleSpeaks$Hearing", "saidIn", "(I)I"⟩, 7) := ⟨⟨by decide +kernel, by decide +kernel⟩, List.mem_of_getElem? (i := 234) (by decide +kernel), List.mem_of_getElem? (i := 851) (by decide +kernel), List.mem_of_getElem? (i := 852) (by decide +kernel)⟩
theorem lw_p37 : lw_okq (⟨"MiddleSpeaks$Hearing", "knowingThen", "(I)I"⟩, 7) := ⟨⟨by decide +kernel, by decide +kernel⟩, List.mem_of_getElem? (i := 234) (by decide +kernel), List.mem_of_getElem? (i := 856) (by decide +kernel), List.mem_of_getElem? (i := 857) (by decide +kernel)⟩
theorem lw_p38 : lw_okq (⟨"MiddleSpeaks$Turns", "wins", "(IIIIIZ)Z"⟩, 1) := ⟨⟨by decide +kernel, by decide +kernel⟩, List.mem_of_getElem? (i := 262) (by decide +kernel), List.mem_of_getElem? (i := 876) (by decide +kernel), List.mem_of_getElem? (i := 877) (by decide +kernel)⟩
theorem lw_p39 : lw_okq (⟨"MiddleSpeaks$Orders", "fittingFrom", "(II)I"⟩, 2) := ⟨⟨by decide +kernel, by decide +kernel⟩, List.mem_of_getElem? (i := 272) (by decide +kernel), List.mem_of_getElem? (i := 900) (by decide +kernel), List.mem_of_getElem? (i := 901) (by decide +kernel)⟩
theorem lw_p40 : lw_okq (⟨"MiddleSpeaks$Orders", "goesWithAll", "()Z"⟩, 2) := ⟨⟨by decide +kernel, by decide +kernel⟩, List.mem_of_getElem? (i := 272) (by decide +kernel), List.mem_of_getElem? (i := 904) (by decide +kernel), List.mem_of_getElem? (i := 905) (by decide +kernel)⟩
theorem lw_p41 : lw_okq (⟨"MiddleSpeaks$Orders", "isMiddle", "(II)Z"⟩, 2) := ⟨⟨by decide +kernel, by decide +kernel⟩, List.mem_of_getElem? (i := 272) (by decide +kernel), List.mem_of_getElem? (i := 908) (by decide +kernel), List.mem_of_getElem? (i := 909) (by decide +kernel)⟩
theorem lw_p42 : lw_okq (⟨"MiddleSpeaks$Turns", "sharesSpeaking", "(IIIIJ)J"⟩, 1) := ⟨⟨by decide +kernel, by decide +kernel⟩, List.mem_of_getElem? (i := 262) (by decide +kernel), List.mem_of_getElem? (i := 923) (by decide +kernel), List.mem_of_getElem? (i := 924) (by decide +kernel)⟩
theorem lw_p43 : lw_okq (⟨"MiddleSpeaks$Turns", "waysOn", "(I)I"⟩, 1) := ⟨⟨by decide +kernel, by decide +kernel⟩, List.mem_of_getElem? (i := 262) (by decide +kernel), List.mem_of_getElem? (i := 927) (by decide +kernel), List.mem_of_getElem? (i := 928) (by decide +kernel)⟩
theorem lw_p44 : lw_okq (⟨"MiddleSpeaks$Standing", "isSaid", "(II)Z"⟩, 7) := ⟨⟨by decide +kernel, by decide +kernel⟩, List.mem_of_getElem? (i := 171) (by decide +kernel), List.mem_of_getElem? (i := 947) (by decide +kernel), List.mem_of_getElem? (i := 948) (by decide +kernel)⟩
theorem lw_p45 : lw_okq (⟨"MiddleSpeaks", "firstOtherwise", "(LMiddleSpeaks$Tape;I)I"⟩, 16) := ⟨⟨by decide +kernel, by decide +kernel⟩, List.mem_of_getElem? (i := 23) (by decide +kernel), List.mem_of_getElem? (i := 964) (by decide +kernel), List.mem_of_getElem? (i := 965) (by decide +kernel)⟩
theorem lw_p46 : lw_okq (⟨"MiddleSpeaks$Acts", "doFrom", "(IIII)I"⟩, 5) := ⟨⟨by decide +kernel, by decide +kernel⟩, List.mem_of_getElem? (i := 285) (by decide +kernel), List.mem_of_getElem? (i := 997) (by decide +kernel), List.mem_of_getElem? (i := 998) (by decide +kernel)⟩
theorem lw_p47 : lw_okq (⟨"MiddleSpeaks$Acts", "note", "(I)V"⟩, 5) := ⟨⟨by decide +kernel, by decide +kernel⟩, List.mem_of_getElem? (i := 285) (by decide +kernel), List.mem_of_getElem? (i := 1008) (by decide +kernel), List.mem_of_getElem? (i := 1009) (by decide +kernel)⟩
def lw_privs_3 : List (MethodName × Nat) := [(⟨"MiddleSpeaks$Hearing", "goOn", "()V"⟩, 7), (⟨"MiddleSpeaks$Hearing", "leave", "(I)V"⟩, 7), (⟨"MiddleSpeaks$Hearing", "tellSpeakers", "(I)V"⟩, 7), (⟨"MiddleSpeaks$Hearing", "sayAll", "(I)Z"⟩, 7), (⟨"MiddleSpeaks$Hearing", "saidIn", "(I)I"⟩, 7), (⟨"MiddleSpeaks$Hearing", "knowingThen", "(I)I"⟩, 7), (⟨"MiddleSpeaks$Turns", "wins", "(IIIIIZ)Z"⟩, 1), (⟨"MiddleSpeaks$Orders", "fittingFrom", "(II)I"⟩, 2), (⟨"MiddleSpeaks$Orders", "goesWithAll", "()Z"⟩, 2), (⟨"MiddleSpeaks$Orders", "isMiddle", "(II)Z"⟩, 2), (⟨"MiddleSpeaks$Turns", "sharesSpeaking", "(IIIIJ)J"⟩, 1), (⟨"MiddleSpeaks$Turns", "waysOn", "(I)I"⟩, 1), (⟨"MiddleSpeaks$Standing", "isSaid", "(II)Z"⟩, 7), (⟨"MiddleSpeaks", "firstOtherwise", "(LMiddleSpeaks$Tape;I)I"⟩, 16), (⟨"MiddleSpeaks$Acts", "doFrom", "(IIII)I"⟩, 5), (⟨"MiddleSpeaks$Acts", "note", "(I)V"⟩, 5)]
theorem lw_r3 : ∀ q ∈ lw_privs_3, lw_okq q := List.forall_mem_cons.mpr ⟨lw_p32, List.forall_mem_cons.mpr ⟨lw_p33, List.forall_mem_cons.mpr ⟨lw_p34, List.forall_mem_cons.mpr ⟨lw_p35, List.forall_mem_cons.mpr ⟨lw_p36, List.forall_mem_cons.mpr ⟨lw_p37, List.forall_mem_cons.mpr ⟨lw_p38, List.forall_mem_cons.mpr ⟨lw_p39, List.forall_mem_cons.mpr ⟨lw_p40, List.forall_mem_cons.mpr ⟨lw_p41, List.forall_mem_cons.mpr ⟨lw_p42, List.forall_mem_cons.mpr ⟨lw_p43, List.forall_mem_cons.mpr ⟨lw_p44, List.forall_mem_cons.mpr ⟨lw_p45, List.forall_mem_cons.mpr ⟨lw_p46, List.forall_mem_cons.mpr ⟨lw_p47, fun _ h => absurd h List.not_mem_nil⟩⟩⟩⟩⟩⟩⟩⟩⟩⟩⟩⟩⟩⟩⟩⟩
theorem lw_p48 : lw_okq (⟨"MiddleSpeaks$Tape", "narrowed", "(J)J"⟩, 3) := ⟨⟨by decide +kernel, by decide +kernel⟩, List.mem_of_getElem? (i := 309) (by decide +kernel), List.mem_of_getElem? (i := 1057) (by decide +kernel), List.mem_of_getElem? (i := 1058) (by decide +kernel)⟩
theorem lw_p49 : lw_okq (⟨"MiddleSpeaksModel", "within", "(III)Z"⟩, 67) := ⟨⟨by decide +kernel, by decide +kernel⟩, List.mem_of_getElem? (i := 1074) (by decide +kernel), List.mem_of_getElem? (i := 1287) (by decide +kernel), List.mem_of_getElem? (i := 1288) (by decide +kernel)⟩
theorem lw_p50 : lw_okq (⟨"MiddleSpeaksModel", "isPlace", "(I)Z"⟩, 67) := ⟨⟨by decide +kernel, by decide +kernel⟩, List.mem_of_getElem? (i := 1074) (by decide +kernel), List.mem_of_getElem? (i := 1291) (by decide +kernel), List.mem_of_getElem? (i := 1292) (by decide +kernel)⟩
theorem lw_p51 : lw_okq (⟨"MiddleSpeaksModel", "moved", "(III)I"⟩, 67) := ⟨⟨by decide +kernel, by decide +kernel⟩, List.mem_of_getElem? (i := 1074) (by decide +kernel), List.mem_of_getElem? (i := 1295) (by decide +kernel), List.mem_of_getElem? (i := 1296) (by decide +kernel)⟩
theorem lw_p52 : lw_okq (⟨"MiddleSpeaksModel", "isPerson", "(I)Z"⟩, 67) := ⟨⟨by decide +kernel, by decide +kernel⟩, List.mem_of_getElem? (i := 1074) (by decide +kernel), List.mem_of_getElem? (i := 1303) (by decide +kernel), List.mem_of_getElem? (i := 1304) (by decide +kernel)⟩
theorem lw_p53 : lw_okq (⟨"MiddleSpeaksModel", "sameNow", "()I"⟩, 67) := ⟨⟨by decide +kernel, by decide +kernel⟩, List.mem_of_getElem? (i := 1074) (by decide +kernel), List.mem_of_getElem? (i := 1307) (by decide +kernel), List.mem_of_getElem? (i := 1308) (by decide +kernel)⟩
theorem lw_p54 : lw_okq (⟨"MiddleSpeaksModel", "first", "()I"⟩, 67) := ⟨⟨by decide +kernel, by decide +kernel⟩, List.mem_of_getElem? (i := 1074) (by decide +kernel), List.mem_of_getElem? (i := 1311) (by decide +kernel), List.mem_of_getElem? (i := 1312) (by decide +kernel)⟩
theorem lw_p55 : lw_okq (⟨"MiddleSpeaksModel", "behind", "()I"⟩, 67) := ⟨⟨by decide +kernel, by decide +kernel⟩, List.mem_of_getElem? (i := 1074) (by decide +kernel), List.mem_of_getElem? (i := 1315) (by decide +kernel), List.mem_of_getElem? (i := 1316) (by decide +kernel)⟩
theorem lw_p56 : lw_okq (⟨"MiddleSpeaksModel", "placeOf", "(II)I"⟩, 67) := ⟨⟨by decide +kernel, by decide +kernel⟩, List.mem_of_getElem? (i := 1074) (by decide +kernel), List.mem_of_getElem? (i := 1319) (by decide +kernel), List.mem_of_getElem? (i := 1320) (by decide +kernel)⟩
theorem lw_p57 : lw_okq (⟨"MiddleSpeaksModel", "maySpeak", "(III)Z"⟩, 67) := ⟨⟨by decide +kernel, by decide +kernel⟩, List.mem_of_getElem? (i := 1074) (by decide +kernel), List.mem_of_getElem? (i := 1323) (by decide +kernel), List.mem_of_getElem? (i := 1324) (by decide +kernel)⟩
theorem lw_p58 : lw_okq (⟨"MiddleSpeaksModel", "hasLike", "(IIII)Z"⟩, 67) := ⟨⟨by decide +kernel, by decide +kernel⟩, List.mem_of_getElem? (i := 1074) (by decide +kernel), List.mem_of_getElem? (i := 1327) (by decide +kernel), List.mem_of_getElem? (i := 1328) (by decide +kernel)⟩
theorem lw_p59 : lw_okq (⟨"MiddleSpeaksModel", "measure", "(II)I"⟩, 67) := ⟨⟨by decide +kernel, by decide +kernel⟩, List.mem_of_getElem? (i := 1074) (by decide +kernel), List.mem_of_getElem? (i := 1331) (by decide +kernel), List.mem_of_getElem? (i := 1332) (by decide +kernel)⟩
theorem lw_p60 : lw_okq (⟨"MiddleSpeaksModel", "placeInLine", "(III)I"⟩, 67) := ⟨⟨by decide +kernel, by decide +kernel⟩, List.mem_of_getElem? (i := 1074) (by decide +kernel), List.mem_of_getElem? (i := 1335) (by decide +kernel), List.mem_of_getElem? (i := 1336) (by decide +kernel)⟩
theorem lw_p61 : lw_okq (⟨"MiddleSpeaksModel", "manyIn", "(II)I"⟩, 67) := ⟨⟨by decide +kernel, by decide +kernel⟩, List.mem_of_getElem? (i := 1074) (by decide +kernel), List.mem_of_getElem? (i := 1339) (by decide +kernel), List.mem_of_getElem? (i := 1340) (by decide +kernel)⟩
theorem lw_p62 : lw_okq (⟨"MiddleSpeaksModel", "isMiddle", "(IIII)Z"⟩, 67) := ⟨⟨by decide +kernel, by decide +kernel⟩, List.mem_of_getElem? (i := 1074) (by decide +kernel), List.mem_of_getElem? (i := 1343) (by decide +kernel), List.mem_of_getElem? (i := 1344) (by decide +kernel)⟩
theorem lw_p63 : lw_okq (⟨"MiddleSpeaksModel", "isRoom", "(I)Z"⟩, 67) := ⟨⟨by decide +kernel, by decide +kernel⟩, List.mem_of_getElem? (i := 1074) (by decide +kernel), List.mem_of_getElem? (i := 1355) (by decide +kernel), List.mem_of_getElem? (i := 1356) (by decide +kernel)⟩
def lw_privs_4 : List (MethodName × Nat) := [(⟨"MiddleSpeaks$Tape", "narrowed", "(J)J"⟩, 3), (⟨"MiddleSpeaksModel", "within", "(III)Z"⟩, 67), (⟨"MiddleSpeaksModel", "isPlace", "(I)Z"⟩, 67), (⟨"MiddleSpeaksModel", "moved", "(III)I"⟩, 67), (⟨"MiddleSpeaksModel", "isPerson", "(I)Z"⟩, 67), (⟨"MiddleSpeaksModel", "sameNow", "()I"⟩, 67), (⟨"MiddleSpeaksModel", "first", "()I"⟩, 67), (⟨"MiddleSpeaksModel", "behind", "()I"⟩, 67), (⟨"MiddleSpeaksModel", "placeOf", "(II)I"⟩, 67), (⟨"MiddleSpeaksModel", "maySpeak", "(III)Z"⟩, 67), (⟨"MiddleSpeaksModel", "hasLike", "(IIII)Z"⟩, 67), (⟨"MiddleSpeaksModel", "measure", "(II)I"⟩, 67), (⟨"MiddleSpeaksModel", "placeInLine", "(III)I"⟩, 67), (⟨"MiddleSpeaksModel", "manyIn", "(II)I"⟩, 67), (⟨"MiddleSpeaksModel", "isMiddle", "(IIII)Z"⟩, 67), (⟨"MiddleSpeaksModel", "isRoom", "(I)Z"⟩, 67)]
theorem lw_r4 : ∀ q ∈ lw_privs_4, lw_okq q := List.forall_mem_cons.mpr ⟨lw_p48, List.forall_mem_cons.mpr ⟨lw_p49, List.forall_mem_cons.mpr ⟨lw_p50, List.forall_mem_cons.mpr ⟨lw_p51, List.forall_mem_cons.mpr ⟨lw_p52, List.forall_mem_cons.mpr ⟨lw_p53, List.forall_mem_cons.mpr ⟨lw_p54, List.forall_mem_cons.mpr ⟨lw_p55, List.forall_mem_cons.mpr ⟨lw_p56, List.forall_mem_cons.mpr ⟨lw_p57, List.forall_mem_cons.mpr ⟨lw_p58, List.forall_mem_cons.mpr ⟨lw_p59, List.forall_mem_cons.mpr ⟨lw_p60, List.forall_mem_cons.mpr ⟨lw_p61, List.forall_mem_cons.mpr ⟨lw_p62, List.forall_mem_cons.mpr ⟨lw_p63, fun _ h => absurd h List.not_mem_nil⟩⟩⟩⟩⟩⟩⟩⟩⟩⟩⟩⟩⟩⟩⟩⟩
theorem lw_p64 : lw_okq (⟨"MiddleSpeaksModel", "goesText", "(I)Z"⟩, 67) := ⟨⟨by decide +kernel, by decide +kernel⟩, List.mem_of_getElem? (i := 1074) (by decide +kernel), List.mem_of_getElem? (i := 1371) (by decide +kernel), List.mem_of_getElem? (i := 1372) (by decide +kernel)⟩
theorem lw_p65 : lw_okq (⟨"MiddleSpeaksModel", "takesClause", "(I)Z"⟩, 67) := ⟨⟨by decide +kernel, by decide +kernel⟩, List.mem_of_getElem? (i := 1074) (by decide +kernel), List.mem_of_getElem? (i := 1375) (by decide +kernel), List.mem_of_getElem? (i := 1376) (by decide +kernel)⟩
theorem lw_p66 : lw_okq (⟨"MiddleSpeaksModel", "takesHead", "(I)Z"⟩, 67) := ⟨⟨by decide +kernel, by decide +kernel⟩, List.mem_of_getElem? (i := 1074) (by decide +kernel), List.mem_of_getElem? (i := 1379) (by decide +kernel), List.mem_of_getElem? (i := 1380) (by decide +kernel)⟩
theorem lw_p67 : lw_okq (⟨"MiddleSpeaksModel", "next", "()I"⟩, 67) := ⟨⟨by decide +kernel, by decide +kernel⟩, List.mem_of_getElem? (i := 1074) (by decide +kernel), List.mem_of_getElem? (i := 1383) (by decide +kernel), List.mem_of_getElem? (i := 1384) (by decide +kernel)⟩
theorem lw_p68 : lw_okq (⟨"MiddleSpeaksModel", "takesWord", "(II)Z"⟩, 67) := ⟨⟨by decide +kernel, by decide +kernel⟩, List.mem_of_getElem? (i := 1074) (by decide +kernel), List.mem_of_getElem? (i := 1387) (by decide +kernel), List.mem_of_getElem? (i := 1388) (by decide +kernel)⟩
theorem lw_p69 : lw_okq (⟨"MiddleSpeaksModel", "takes", "(I)Z"⟩, 67) := ⟨⟨by decide +kernel, by decide +kernel⟩, List.mem_of_getElem? (i := 1074) (by decide +kernel), List.mem_of_getElem? (i := 1391) (by decide +kernel), List.mem_of_getElem? (i := 1392) (by decide +kernel)⟩
theorem lw_p70 : lw_okq (⟨"MiddleSpeaksModel", "takesE", "(I)Z"⟩, 67) := ⟨⟨by decide +kernel, by decide +kernel⟩, List.mem_of_getElem? (i := 1074) (by decide +kernel), List.mem_of_getElem? (i := 1395) (by decide +kernel), List.mem_of_getElem? (i := 1396) (by decide +kernel)⟩
theorem lw_p71 : lw_okq (⟨"MiddleSpeaksModel", "takesTest", "()Z"⟩, 67) := ⟨⟨by decide +kernel, by decide +kernel⟩, List.mem_of_getElem? (i := 1074) (by decide +kernel), List.mem_of_getElem? (i := 1399) (by decide +kernel), List.mem_of_getElem? (i := 1400) (by decide +kernel)⟩
theorem lw_p72 : lw_okq (⟨"MiddleSpeaksModel", "place", "(I)I"⟩, 67) := ⟨⟨by decide +kernel, by decide +kernel⟩, List.mem_of_getElem? (i := 1074) (by decide +kernel), List.mem_of_getElem? (i := 1403) (by decide +kernel), List.mem_of_getElem? (i := 1404) (by decide +kernel)⟩
theorem lw_p73 : lw_okq (⟨"MiddleSpeaksModel", "takesNumber", "()Z"⟩, 67) := ⟨⟨by decide +kernel, by decide +kernel⟩, List.mem_of_getElem? (i := 1074) (by decide +kernel), List.mem_of_getElem? (i := 1407) (by decide +kernel), List.mem_of_getElem? (i := 1408) (by decide +kernel)⟩
theorem lw_p74 : lw_okq (⟨"MiddleSpeaksModel", "isDigit", "()Z"⟩, 67) := ⟨⟨by decide +kernel, by decide +kernel⟩, List.mem_of_getElem? (i := 1074) (by decide +kernel), List.mem_of_getElem? (i := 1411) (by decide +kernel), List.mem_of_getElem? (i := 1412) (by decide +kernel)⟩
theorem lw_p75 : lw_okq (⟨"MiddleSpeaksModel", "put", "(I)V"⟩, 67) := ⟨⟨by decide +kernel, by decide +kernel⟩, List.mem_of_getElem? (i := 1074) (by decide +kernel), List.mem_of_getElem? (i := 1415) (by decide +kernel), List.mem_of_getElem? (i := 1416) (by decide +kernel)⟩
theorem lw_p76 : lw_okq (⟨"MiddleSpeaksModel", "whole", "()V"⟩, 67) := ⟨⟨by decide +kernel, by decide +kernel⟩, List.mem_of_getElem? (i := 1074) (by decide +kernel), List.mem_of_getElem? (i := 1419) (by decide +kernel), List.mem_of_getElem? (i := 1420) (by decide +kernel)⟩
theorem lw_p77 : lw_okq (⟨"MiddleSpeaksModel", "settle", "(I)V"⟩, 67) := ⟨⟨by decide +kernel, by decide +kernel⟩, List.mem_of_getElem? (i := 1074) (by decide +kernel), List.mem_of_getElem? (i := 1423) (by decide +kernel), List.mem_of_getElem? (i := 1424) (by decide +kernel)⟩
theorem lw_p78 : lw_okq (⟨"MiddleSpeaksModel", "sumOf", "(IIIII)I"⟩, 67) := ⟨⟨by decide +kernel, by decide +kernel⟩, List.mem_of_getElem? (i := 1074) (by decide +kernel), List.mem_of_getElem? (i := 1435) (by decide +kernel), List.mem_of_getElem? (i := 1436) (by decide +kernel)⟩
theorem lw_p79 : lw_okq (⟨"MiddleSpeaksModel", "holds", "(IIIII)Z"⟩, 67) := ⟨⟨by decide +kernel, by decide +kernel⟩, List.mem_of_getElem? (i := 1074) (by decide +kernel), List.mem_of_getElem? (i := 1439) (by decide +kernel), List.mem_of_getElem? (i := 1440) (by decide +kernel)⟩
def lw_privs_5 : List (MethodName × Nat) := [(⟨"MiddleSpeaksModel", "goesText", "(I)Z"⟩, 67), (⟨"MiddleSpeaksModel", "takesClause", "(I)Z"⟩, 67), (⟨"MiddleSpeaksModel", "takesHead", "(I)Z"⟩, 67), (⟨"MiddleSpeaksModel", "next", "()I"⟩, 67), (⟨"MiddleSpeaksModel", "takesWord", "(II)Z"⟩, 67), (⟨"MiddleSpeaksModel", "takes", "(I)Z"⟩, 67), (⟨"MiddleSpeaksModel", "takesE", "(I)Z"⟩, 67), (⟨"MiddleSpeaksModel", "takesTest", "()Z"⟩, 67), (⟨"MiddleSpeaksModel", "place", "(I)I"⟩, 67), (⟨"MiddleSpeaksModel", "takesNumber", "()Z"⟩, 67), (⟨"MiddleSpeaksModel", "isDigit", "()Z"⟩, 67), (⟨"MiddleSpeaksModel", "put", "(I)V"⟩, 67), (⟨"MiddleSpeaksModel", "whole", "()V"⟩, 67), (⟨"MiddleSpeaksModel", "settle", "(I)V"⟩, 67), (⟨"MiddleSpeaksModel", "sumOf", "(IIIII)I"⟩, 67), (⟨"MiddleSpeaksModel", "holds", "(IIIII)Z"⟩, 67)]
theorem lw_r5 : ∀ q ∈ lw_privs_5, lw_okq q := List.forall_mem_cons.mpr ⟨lw_p64, List.forall_mem_cons.mpr ⟨lw_p65, List.forall_mem_cons.mpr ⟨lw_p66, List.forall_mem_cons.mpr ⟨lw_p67, List.forall_mem_cons.mpr ⟨lw_p68, List.forall_mem_cons.mpr ⟨lw_p69, List.forall_mem_cons.mpr ⟨lw_p70, List.forall_mem_cons.mpr ⟨lw_p71, List.forall_mem_cons.mpr ⟨lw_p72, List.forall_mem_cons.mpr ⟨lw_p73, List.forall_mem_cons.mpr ⟨lw_p74, List.forall_mem_cons.mpr ⟨lw_p75, List.forall_mem_cons.mpr ⟨lw_p76, List.forall_mem_cons.mpr ⟨lw_p77, List.forall_mem_cons.mpr ⟨lw_p78, List.forall_mem_cons.mpr ⟨lw_p79, fun _ h => absurd h List.not_mem_nil⟩⟩⟩⟩⟩⟩⟩⟩⟩⟩⟩⟩⟩⟩⟩⟩
theorem lw_p80 : lw_okq (⟨"MiddleSpeaksModel", "factOf", "(IIIII)I"⟩, 67) := ⟨⟨by decide +kernel, by decide +kernel⟩, List.mem_of_getElem? (i := 1074) (by decide +kernel), List.mem_of_getElem? (i := 1443) (by decide +kernel), List.mem_of_getElem? (i := 1444) (by decide +kernel)⟩
theorem lw_p81 : lw_okq (⟨"MiddleSpeaksModel", "isBarred", "(III)Z"⟩, 67) := ⟨⟨by decide +kernel, by decide +kernel⟩, List.mem_of_getElem? (i := 1074) (by decide +kernel), List.mem_of_getElem? (i := 1447) (by decide +kernel), List.mem_of_getElem? (i := 1448) (by decide +kernel)⟩
theorem lw_p82 : lw_okq (⟨"MiddleSpeaksModel", "isThing", "(I)Z"⟩, 67) := ⟨⟨by decide +kernel, by decide +kernel⟩, List.mem_of_getElem? (i := 1074) (by decide +kernel), List.mem_of_getElem? (i := 1459) (by decide +kernel), List.mem_of_getElem? (i := 1460) (by decide +kernel)⟩
theorem lw_p83 : lw_okq (⟨"MiddleSpeaksModel", "has", "(II)Z"⟩, 67) := ⟨⟨by decide +kernel, by decide +kernel⟩, List.mem_of_getElem? (i := 1074) (by decide +kernel), List.mem_of_getElem? (i := 1463) (by decide +kernel), List.mem_of_getElem? (i := 1464) (by decide +kernel)⟩
theorem lw_p84 : lw_okq (⟨"MiddleSpeaksModel", "said", "(II)I"⟩, 67) := ⟨⟨by decide +kernel, by decide +kernel⟩, List.mem_of_getElem? (i := 1074) (by decide +kernel), List.mem_of_getElem? (i := 1467) (by decide +kernel), List.mem_of_getElem? (i := 1468) (by decide +kernel)⟩
theorem lw_p85 : lw_okq (⟨"MiddleSpeaksModel", "layComings", "()V"⟩, 67) := ⟨⟨by decide +kernel, by decide +kernel⟩, List.mem_of_getElem? (i := 1074) (by decide +kernel), List.mem_of_getElem? (i := 1475) (by decide +kernel), List.mem_of_getElem? (i := 1476) (by decide +kernel)⟩
theorem lw_p86 : lw_okq (⟨"MiddleSpeaksModel", "soonestOf", "(II)I"⟩, 67) := ⟨⟨by decide +kernel, by decide +kernel⟩, List.mem_of_getElem? (i := 1074) (by decide +kernel), List.mem_of_getElem? (i := 1479) (by decide +kernel), List.mem_of_getElem? (i := 1480) (by decide +kernel)⟩
theorem lw_p87 : lw_okq (⟨"MiddleSpeaksModel", "beginAt", "(I)V"⟩, 67) := ⟨⟨by decide +kernel, by decide +kernel⟩, List.mem_of_getElem? (i := 1074) (by decide +kernel), List.mem_of_getElem? (i := 1483) (by decide +kernel), List.mem_of_getElem? (i := 1484) (by decide +kernel)⟩
theorem lw_p88 : lw_okq (⟨"MiddleSpeaksModel", "places", "()I"⟩, 67) := ⟨⟨by decide +kernel, by decide +kernel⟩, List.mem_of_getElem? (i := 1074) (by decide +kernel), List.mem_of_getElem? (i := 1487) (by decide +kernel), List.mem_of_getElem? (i := 1488) (by decide +kernel)⟩
theorem lw_p89 : lw_okq (⟨"MiddleSpeaksModel", "canSpeak", "(III)Z"⟩, 67) := ⟨⟨by decide +kernel, by decide +kernel⟩, List.mem_of_getElem? (i := 1074) (by decide +kernel), List.mem_of_getElem? (i := 1491) (by decide +kernel), List.mem_of_getElem? (i := 1492) (by decide +kernel)⟩
theorem lw_p90 : lw_okq (⟨"MiddleSpeaksModel", "goOn", "()V"⟩, 67) := ⟨⟨by decide +kernel, by decide +kernel⟩, List.mem_of_getElem? (i := 1074) (by decide +kernel), List.mem_of_getElem? (i := 1495) (by decide +kernel), List.mem_of_getElem? (i := 1496) (by decide +kernel)⟩
theorem lw_p91 : lw_okq (⟨"MiddleSpeaksModel", "mayCome", "(III)Z"⟩, 67) := ⟨⟨by decide +kernel, by decide +kernel⟩, List.mem_of_getElem? (i := 1074) (by decide +kernel), List.mem_of_getElem? (i := 1499) (by decide +kernel), List.mem_of_getElem? (i := 1500) (by decide +kernel)⟩
theorem lw_p92 : lw_okq (⟨"MiddleSpeaksModel", "comingOf", "(III)I"⟩, 67) := ⟨⟨by decide +kernel, by decide +kernel⟩, List.mem_of_getElem? (i := 1074) (by decide +kernel), List.mem_of_getElem? (i := 1503) (by decide +kernel), List.mem_of_getElem? (i := 1504) (by decide +kernel)⟩
theorem lw_p93 : lw_okq (⟨"MiddleSpeaksModel", "leadsBy", "(IIII)Z"⟩, 67) := ⟨⟨by decide +kernel, by decide +kernel⟩, List.mem_of_getElem? (i := 1074) (by decide +kernel), List.mem_of_getElem? (i := 1507) (by decide +kernel), List.mem_of_getElem? (i := 1508) (by decide +kernel)⟩
theorem lw_p94 : lw_okq (⟨"MiddleSpeaksModel", "goOnCheap", "()V"⟩, 67) := ⟨⟨by decide +kernel, by decide +kernel⟩, List.mem_of_getElem? (i := 1074) (by decide +kernel), List.mem_of_getElem? (i := 1515) (by decide +kernel), List.mem_of_getElem? (i := 1516) (by decide +kernel)⟩
theorem lw_p95 : lw_okq (⟨"MiddleSpeaksModel", "fewestBy", "(III)I"⟩, 67) := ⟨⟨by decide +kernel, by decide +kernel⟩, List.mem_of_getElem? (i := 1074) (by decide +kernel), List.mem_of_getElem? (i := 1527) (by decide +kernel), List.mem_of_getElem? (i := 1528) (by decide +kernel)⟩
def lw_privs_6 : List (MethodName × Nat) := [(⟨"MiddleSpeaksModel", "factOf", "(IIIII)I"⟩, 67), (⟨"MiddleSpeaksModel", "isBarred", "(III)Z"⟩, 67), (⟨"MiddleSpeaksModel", "isThing", "(I)Z"⟩, 67), (⟨"MiddleSpeaksModel", "has", "(II)Z"⟩, 67), (⟨"MiddleSpeaksModel", "said", "(II)I"⟩, 67), (⟨"MiddleSpeaksModel", "layComings", "()V"⟩, 67), (⟨"MiddleSpeaksModel", "soonestOf", "(II)I"⟩, 67), (⟨"MiddleSpeaksModel", "beginAt", "(I)V"⟩, 67), (⟨"MiddleSpeaksModel", "places", "()I"⟩, 67), (⟨"MiddleSpeaksModel", "canSpeak", "(III)Z"⟩, 67), (⟨"MiddleSpeaksModel", "goOn", "()V"⟩, 67), (⟨"MiddleSpeaksModel", "mayCome", "(III)Z"⟩, 67), (⟨"MiddleSpeaksModel", "comingOf", "(III)I"⟩, 67), (⟨"MiddleSpeaksModel", "leadsBy", "(IIII)Z"⟩, 67), (⟨"MiddleSpeaksModel", "goOnCheap", "()V"⟩, 67), (⟨"MiddleSpeaksModel", "fewestBy", "(III)I"⟩, 67)]
theorem lw_r6 : ∀ q ∈ lw_privs_6, lw_okq q := List.forall_mem_cons.mpr ⟨lw_p80, List.forall_mem_cons.mpr ⟨lw_p81, List.forall_mem_cons.mpr ⟨lw_p82, List.forall_mem_cons.mpr ⟨lw_p83, List.forall_mem_cons.mpr ⟨lw_p84, List.forall_mem_cons.mpr ⟨lw_p85, List.forall_mem_cons.mpr ⟨lw_p86, List.forall_mem_cons.mpr ⟨lw_p87, List.forall_mem_cons.mpr ⟨lw_p88, List.forall_mem_cons.mpr ⟨lw_p89, List.forall_mem_cons.mpr ⟨lw_p90, List.forall_mem_cons.mpr ⟨lw_p91, List.forall_mem_cons.mpr ⟨lw_p92, List.forall_mem_cons.mpr ⟨lw_p93, List.forall_mem_cons.mpr ⟨lw_p94, List.forall_mem_cons.mpr ⟨lw_p95, fun _ h => absurd h List.not_mem_nil⟩⟩⟩⟩⟩⟩⟩⟩⟩⟩⟩⟩⟩⟩⟩⟩
theorem lw_p96 : lw_okq (⟨"MiddleSpeaksModel", "spread", "(III)I"⟩, 67) := ⟨⟨by decide +kernel, by decide +kernel⟩, List.mem_of_getElem? (i := 1074) (by decide +kernel), List.mem_of_getElem? (i := 1531) (by decide +kernel), List.mem_of_getElem? (i := 1532) (by decide +kernel)⟩
theorem lw_p97 : lw_okq (⟨"MiddleSpeaksModel", "goOnKnown", "(I)V"⟩, 67) := ⟨⟨by decide +kernel, by decide +kernel⟩, List.mem_of_getElem? (i := 1074) (by decide +kernel), List.mem_of_getElem? (i := 1535) (by decide +kernel), List.mem_of_getElem? (i := 1536) (by decide +kernel)⟩
theorem lw_p98 : lw_okq (⟨"MiddleSpeaksModel", "turns", "()I"⟩, 67) := ⟨⟨by decide +kernel, by decide +kernel⟩, List.mem_of_getElem? (i := 1074) (by decide +kernel), List.mem_of_getElem? (i := 1547) (by decide +kernel), List.mem_of_getElem? (i := 1548) (by decide +kernel)⟩
theorem lw_p99 : lw_okq (⟨"MiddleSpeaksModel", "mayTurn", "(II)Z"⟩, 67) := ⟨⟨by decide +kernel, by decide +kernel⟩, List.mem_of_getElem? (i := 1074) (by decide +kernel), List.mem_of_getElem? (i := 1551) (by decide +kernel), List.mem_of_getElem? (i := 1552) (by decide +kernel)⟩
theorem lw_p100 : lw_okq (⟨"MiddleSpeaksModel", "behindTurn", "(II)I"⟩, 67) := ⟨⟨by decide +kernel, by decide +kernel⟩, List.mem_of_getElem? (i := 1074) (by decide +kernel), List.mem_of_getElem? (i := 1555) (by decide +kernel), List.mem_of_getElem? (i := 1556) (by decide +kernel)⟩
theorem lw_p101 : lw_okq (⟨"MiddleSpeaksModel", "winsSecond", "(IIIII)Z"⟩, 67) := ⟨⟨by decide +kernel, by decide +kernel⟩, List.mem_of_getElem? (i := 1074) (by decide +kernel), List.mem_of_getElem? (i := 1559) (by decide +kernel), List.mem_of_getElem? (i := 1560) (by decide +kernel)⟩
theorem lw_p102 : lw_okq (⟨"MiddleSpeaksModel", "isWon", "(IIII)Z"⟩, 67) := ⟨⟨by decide +kernel, by decide +kernel⟩, List.mem_of_getElem? (i := 1074) (by decide +kernel), List.mem_of_getElem? (i := 1563) (by decide +kernel), List.mem_of_getElem? (i := 1564) (by decide +kernel)⟩
theorem lw_p103 : lw_okq (⟨"MiddleSpeaksModel", "winsThird", "(IIIIZ)Z"⟩, 67) := ⟨⟨by decide +kernel, by decide +kernel⟩, List.mem_of_getElem? (i := 1074) (by decide +kernel), List.mem_of_getElem? (i := 1567) (by decide +kernel), List.mem_of_getElem? (i := 1568) (by decide +kernel)⟩
theorem lw_p104 : lw_okq (⟨"MiddleSpeaksModel", "ones", "(I)I"⟩, 67) := ⟨⟨by decide +kernel, by decide +kernel⟩, List.mem_of_getElem? (i := 1074) (by decide +kernel), List.mem_of_getElem? (i := 1579) (by decide +kernel), List.mem_of_getElem? (i := 1580) (by decide +kernel)⟩
theorem lw_p105 : lw_okq (⟨"MiddleSpeaksModel", "layOrder", "(I)Z"⟩, 67) := ⟨⟨by decide +kernel, by decide +kernel⟩, List.mem_of_getElem? (i := 1074) (by decide +kernel), List.mem_of_getElem? (i := 1587) (by decide +kernel), List.mem_of_getElem? (i := 1588) (by decide +kernel)⟩
theorem lw_p106 : lw_okq (⟨"MiddleSpeaksModel", "goesWithRows", "()Z"⟩, 67) := ⟨⟨by decide +kernel, by decide +kernel⟩, List.mem_of_getElem? (i := 1074) (by decide +kernel), List.mem_of_getElem? (i := 1591) (by decide +kernel), List.mem_of_getElem? (i := 1592) (by decide +kernel)⟩
theorem lw_p107 : lw_okq (⟨"MiddleSpeaksModel", "layLot", "(II)V"⟩, 67) := ⟨⟨by decide +kernel, by decide +kernel⟩, List.mem_of_getElem? (i := 1074) (by decide +kernel), List.mem_of_getElem? (i := 1600) (by decide +kernel), List.mem_of_getElem? (i := 1601) (by decide +kernel)⟩
theorem lw_p108 : lw_okq (⟨"MiddleSpeaksModel", "waysFrom", "(I)I"⟩, 67) := ⟨⟨by decide +kernel, by decide +kernel⟩, List.mem_of_getElem? (i := 1074) (by decide +kernel), List.mem_of_getElem? (i := 1604) (by decide +kernel), List.mem_of_getElem? (i := 1605) (by decide +kernel)⟩
theorem lw_p109 : lw_okq (⟨"MiddleSpeaksModel", "addLot", "(JJ)V"⟩, 67) := ⟨⟨by decide +kernel, by decide +kernel⟩, List.mem_of_getElem? (i := 1074) (by decide +kernel), List.mem_of_getElem? (i := 1608) (by decide +kernel), List.mem_of_getElem? (i := 1609) (by decide +kernel)⟩
theorem lw_p110 : lw_okq (⟨"MiddleSpeaksModel", "divisor", "(JJ)J"⟩, 67) := ⟨⟨by decide +kernel, by decide +kernel⟩, List.mem_of_getElem? (i := 1074) (by decide +kernel), List.mem_of_getElem? (i := 1612) (by decide +kernel), List.mem_of_getElem? (i := 1613) (by decide +kernel)⟩
theorem lw_p111 : lw_okq (⟨"MiddleSpeaksModel", "addFrom", "(IIII)V"⟩, 67) := ⟨⟨by decide +kernel, by decide +kernel⟩, List.mem_of_getElem? (i := 1074) (by decide +kernel), List.mem_of_getElem? (i := 1616) (by decide +kernel), List.mem_of_getElem? (i := 1617) (by decide +kernel)⟩
def lw_privs_7 : List (MethodName × Nat) := [(⟨"MiddleSpeaksModel", "spread", "(III)I"⟩, 67), (⟨"MiddleSpeaksModel", "goOnKnown", "(I)V"⟩, 67), (⟨"MiddleSpeaksModel", "turns", "()I"⟩, 67), (⟨"MiddleSpeaksModel", "mayTurn", "(II)Z"⟩, 67), (⟨"MiddleSpeaksModel", "behindTurn", "(II)I"⟩, 67), (⟨"MiddleSpeaksModel", "winsSecond", "(IIIII)Z"⟩, 67), (⟨"MiddleSpeaksModel", "isWon", "(IIII)Z"⟩, 67), (⟨"MiddleSpeaksModel", "winsThird", "(IIIIZ)Z"⟩, 67), (⟨"MiddleSpeaksModel", "ones", "(I)I"⟩, 67), (⟨"MiddleSpeaksModel", "layOrder", "(I)Z"⟩, 67), (⟨"MiddleSpeaksModel", "goesWithRows", "()Z"⟩, 67), (⟨"MiddleSpeaksModel", "layLot", "(II)V"⟩, 67), (⟨"MiddleSpeaksModel", "waysFrom", "(I)I"⟩, 67), (⟨"MiddleSpeaksModel", "addLot", "(JJ)V"⟩, 67), (⟨"MiddleSpeaksModel", "divisor", "(JJ)J"⟩, 67), (⟨"MiddleSpeaksModel", "addFrom", "(IIII)V"⟩, 67)]
theorem lw_r7 : ∀ q ∈ lw_privs_7, lw_okq q := List.forall_mem_cons.mpr ⟨lw_p96, List.forall_mem_cons.mpr ⟨lw_p97, List.forall_mem_cons.mpr ⟨lw_p98, List.forall_mem_cons.mpr ⟨lw_p99, List.forall_mem_cons.mpr ⟨lw_p100, List.forall_mem_cons.mpr ⟨lw_p101, List.forall_mem_cons.mpr ⟨lw_p102, List.forall_mem_cons.mpr ⟨lw_p103, List.forall_mem_cons.mpr ⟨lw_p104, List.forall_mem_cons.mpr ⟨lw_p105, List.forall_mem_cons.mpr ⟨lw_p106, List.forall_mem_cons.mpr ⟨lw_p107, List.forall_mem_cons.mpr ⟨lw_p108, List.forall_mem_cons.mpr ⟨lw_p109, List.forall_mem_cons.mpr ⟨lw_p110, List.forall_mem_cons.mpr ⟨lw_p111, fun _ h => absurd h List.not_mem_nil⟩⟩⟩⟩⟩⟩⟩⟩⟩⟩⟩⟩⟩⟩⟩⟩
theorem lw_p112 : lw_okq (⟨"MiddleSpeaksModel", "speaksBehind", "(III)I"⟩, 67) := ⟨⟨by decide +kernel, by decide +kernel⟩, List.mem_of_getElem? (i := 1074) (by decide +kernel), List.mem_of_getElem? (i := 1620) (by decide +kernel), List.mem_of_getElem? (i := 1621) (by decide +kernel)⟩
theorem lw_p113 : lw_okq (⟨"MiddleSpeaksModel", "isTape", "(I)Z"⟩, 67) := ⟨⟨by decide +kernel, by decide +kernel⟩, List.mem_of_getElem? (i := 1074) (by decide +kernel), List.mem_of_getElem? (i := 1636) (by decide +kernel), List.mem_of_getElem? (i := 1637) (by decide +kernel)⟩
theorem lw_p114 : lw_okq (⟨"MiddleSpeaksModel", "hearsAct", "(II)I"⟩, 67) := ⟨⟨by decide +kernel, by decide +kernel⟩, List.mem_of_getElem? (i := 1074) (by decide +kernel), List.mem_of_getElem? (i := 1652) (by decide +kernel), List.mem_of_getElem? (i := 1653) (by decide +kernel)⟩
theorem lw_p115 : lw_okq (⟨"MiddleSpeaksModel", "body", "(I)V"⟩, 67) := ⟨⟨by decide +kernel, by decide +kernel⟩, List.mem_of_getElem? (i := 1074) (by decide +kernel), List.mem_of_getElem? (i := 1656) (by decide +kernel), List.mem_of_getElem? (i := 1657) (by decide +kernel)⟩
theorem lw_p116 : lw_okq (⟨"MiddleSpeaksModel", "roomHears", "(II)I"⟩, 67) := ⟨⟨by decide +kernel, by decide +kernel⟩, List.mem_of_getElem? (i := 1074) (by decide +kernel), List.mem_of_getElem? (i := 1660) (by decide +kernel), List.mem_of_getElem? (i := 1661) (by decide +kernel)⟩
theorem lw_p117 : lw_okq (⟨"MiddleSpeaksModel", "speaksAct", "(II)I"⟩, 67) := ⟨⟨by decide +kernel, by decide +kernel⟩, List.mem_of_getElem? (i := 1074) (by decide +kernel), List.mem_of_getElem? (i := 1664) (by decide +kernel), List.mem_of_getElem? (i := 1665) (by decide +kernel)⟩
theorem lw_p118 : lw_okq (⟨"MiddleSpeaksModel", "lowerSpeaks", "(II)I"⟩, 67) := ⟨⟨by decide +kernel, by decide +kernel⟩, List.mem_of_getElem? (i := 1074) (by decide +kernel), List.mem_of_getElem? (i := 1668) (by decide +kernel), List.mem_of_getElem? (i := 1669) (by decide +kernel)⟩
theorem lw_p119 : lw_okq (⟨"MiddleSpeaksModel", "roomSpeaks", "(II)I"⟩, 67) := ⟨⟨by decide +kernel, by decide +kernel⟩, List.mem_of_getElem? (i := 1074) (by decide +kernel), List.mem_of_getElem? (i := 1672) (by decide +kernel), List.mem_of_getElem? (i := 1673) (by decide +kernel)⟩
theorem lw_p120 : lw_okq (⟨"MiddleSpeaksModel", "tellsAct", "(II)I"⟩, 67) := ⟨⟨by decide +kernel, by decide +kernel⟩, List.mem_of_getElem? (i := 1074) (by decide +kernel), List.mem_of_getElem? (i := 1676) (by decide +kernel), List.mem_of_getElem? (i := 1677) (by decide +kernel)⟩
theorem lw_p121 : lw_okq (⟨"MiddleSpeaksModel", "roomTells", "(II)I"⟩, 67) := ⟨⟨by decide +kernel, by decide +kernel⟩, List.mem_of_getElem? (i := 1074) (by decide +kernel), List.mem_of_getElem? (i := 1680) (by decide +kernel), List.mem_of_getElem? (i := 1681) (by decide +kernel)⟩
theorem lw_p122 : lw_okq (⟨"MiddleSpeaksModel", "narrow", "(IJ)J"⟩, 67) := ⟨⟨by decide +kernel, by decide +kernel⟩, List.mem_of_getElem? (i := 1074) (by decide +kernel), List.mem_of_getElem? (i := 1704) (by decide +kernel), List.mem_of_getElem? (i := 1705) (by decide +kernel)⟩
def lw_privs_8 : List (MethodName × Nat) := [(⟨"MiddleSpeaksModel", "speaksBehind", "(III)I"⟩, 67), (⟨"MiddleSpeaksModel", "isTape", "(I)Z"⟩, 67), (⟨"MiddleSpeaksModel", "hearsAct", "(II)I"⟩, 67), (⟨"MiddleSpeaksModel", "body", "(I)V"⟩, 67), (⟨"MiddleSpeaksModel", "roomHears", "(II)I"⟩, 67), (⟨"MiddleSpeaksModel", "speaksAct", "(II)I"⟩, 67), (⟨"MiddleSpeaksModel", "lowerSpeaks", "(II)I"⟩, 67), (⟨"MiddleSpeaksModel", "roomSpeaks", "(II)I"⟩, 67), (⟨"MiddleSpeaksModel", "tellsAct", "(II)I"⟩, 67), (⟨"MiddleSpeaksModel", "roomTells", "(II)I"⟩, 67), (⟨"MiddleSpeaksModel", "narrow", "(IJ)J"⟩, 67)]
theorem lw_r8 : ∀ q ∈ lw_privs_8, lw_okq q := List.forall_mem_cons.mpr ⟨lw_p112, List.forall_mem_cons.mpr ⟨lw_p113, List.forall_mem_cons.mpr ⟨lw_p114, List.forall_mem_cons.mpr ⟨lw_p115, List.forall_mem_cons.mpr ⟨lw_p116, List.forall_mem_cons.mpr ⟨lw_p117, List.forall_mem_cons.mpr ⟨lw_p118, List.forall_mem_cons.mpr ⟨lw_p119, List.forall_mem_cons.mpr ⟨lw_p120, List.forall_mem_cons.mpr ⟨lw_p121, List.forall_mem_cons.mpr ⟨lw_p122, fun _ h => absurd h List.not_mem_nil⟩⟩⟩⟩⟩⟩⟩⟩⟩⟩⟩
def lw_privs : List (MethodName × Nat) := lw_privs_1 ++ (lw_privs_2 ++ (lw_privs_3 ++ (lw_privs_4 ++ (lw_privs_5 ++ (lw_privs_6 ++ (lw_privs_7 ++ (lw_privs_8)))))))
def lw_tbl : List Cond := k2_sels lw_privs ++ tables_1
theorem lw_privs_ok : ∀ q ∈ lw_privs, lw_okq q := by
  show ∀ q ∈ lw_privs_1 ++ (lw_privs_2 ++ (lw_privs_3 ++ (lw_privs_4 ++ (lw_privs_5 ++ (lw_privs_6 ++ (lw_privs_7 ++ (lw_privs_8))))))), lw_okq q
  exact List.forall_mem_append.mpr ⟨lw_r1, List.forall_mem_append.mpr ⟨lw_r2, List.forall_mem_append.mpr ⟨lw_r3, List.forall_mem_append.mpr ⟨lw_r4, List.forall_mem_append.mpr ⟨lw_r5, List.forall_mem_append.mpr ⟨lw_r6, List.forall_mem_append.mpr ⟨lw_r7, lw_r8⟩⟩⟩⟩⟩⟩⟩
end
section
def RX0 : String := "MiddleSpeaks$Acts"
def TX0 : u_T := fun k => match k with
  | 0 => ("MiddleSpeaks$Acts", "bodies", "[I", true)
  | 1 => ("MiddleSpeaks$Acts", "ran", "I", false)
  | 2 => ("MiddleSpeaks$Acts", "number", "I", false)
  | 3 => ("MiddleSpeaks$Acts", "kind", "I", false)
  | _ => ("MiddleSpeaks$Acts", "v", "I", false)
def tyX0 : Nat → FieldType := fun k => match k with
  | 0 => .array .int
  | 1 => .int
  | 2 => .int
  | 3 => .int
  | _ => .int
abbrev wsX00 : List Cond := u_ws RX0 TX0 5
theorem nmX0 : ∀ a, a < 5 → ∀ b, b < 5 → a ≠ b → (TX0 a).2.1 ≠ (TX0 b).2.1 := by decide +kernel
theorem tyX0_ok : ∀ k, k < 5 → parseFieldDescriptor (TX0 k).2.2.1 = some (tyX0 k) := by decide +kernel
abbrev cX0_init : ByteArray := prog_2_method_1_code
def yX0_init : MethodName := ⟨RX0, "<init>", "()V"⟩
abbrev cX0_forget : ByteArray := prog_2_method_2_code
def yX0_forget : MethodName := ⟨RX0, "forget", "()V"⟩
abbrev cX0_bodyAt : ByteArray := prog_2_method_3_code
def yX0_bodyAt : MethodName := ⟨RX0, "bodyAt", "(I)I"⟩
abbrev cX0_start : ByteArray := prog_2_method_4_code
def yX0_start : MethodName := ⟨RX0, "start", "(IIIII)I"⟩
abbrev cX0_bodyFrom : ByteArray := prog_2_method_5_code
def yX0_bodyFrom : MethodName := ⟨RX0, "bodyFrom", "(II)I"⟩
abbrev cX0_doFrom : ByteArray := prog_2_method_6_code
def yX0_doFrom : MethodName := ⟨RX0, "doFrom", "(IIII)I"⟩
abbrev cX0_note : ByteArray := prog_2_method_7_code
def yX0_note : MethodName := ⟨RX0, "note", "(I)V"⟩
def RX1 : String := "MiddleSpeaks$Hearing"
def TX1 : u_T := fun k => match k with
  | 0 => ("MiddleSpeaks$Hearing", "standing", "LMiddleSpeaks$Standing;", true)
  | 1 => ("MiddleSpeaks$Hearing", "knowing", "[I", true)
  | 2 => ("MiddleSpeaks$Hearing", "next", "[I", true)
  | 3 => ("MiddleSpeaks$Hearing", "speakersOf", "[I", true)
  | 4 => ("MiddleSpeaks$Hearing", "there", "[I", true)
  | 5 => ("MiddleSpeaks$Hearing", "speaking", "[I", true)
  | _ => ("MiddleSpeaks$Hearing", "states", "I", false)
def tyX1 : Nat → FieldType := fun k => match k with
  | 0 => .object "MiddleSpeaks$Standing"
  | 1 => .array .int
  | 2 => .array .int
  | 3 => .array .int
  | 4 => .array .int
  | 5 => .array .int
  | _ => .int
abbrev wsX10 : List Cond := u_ws RX1 TX1 7
theorem nmX1 : ∀ a, a < 7 → ∀ b, b < 7 → a ≠ b → (TX1 a).2.1 ≠ (TX1 b).2.1 := by decide +kernel
theorem tyX1_ok : ∀ k, k < 7 → parseFieldDescriptor (TX1 k).2.2.1 = some (tyX1 k) := by decide +kernel
abbrev cX1_init : ByteArray := prog_3_method_1_code
def yX1_init : MethodName := ⟨RX1, "<init>", "(LMiddleSpeaks$Standing;)V"⟩
abbrev cX1_setsOfOneWithout : ByteArray := prog_3_method_2_code
def yX1_setsOfOneWithout : MethodName := ⟨RX1, "setsOfOneWithout", "(II)I"⟩
abbrev cX1_fewestTill : ByteArray := prog_3_method_3_code
def yX1_fewestTill : MethodName := ⟨RX1, "fewestTill", "(II)I"⟩
abbrev cX1_goOn : ByteArray := prog_3_method_4_code
def yX1_goOn : MethodName := ⟨RX1, "goOn", "()V"⟩
abbrev cX1_leave : ByteArray := prog_3_method_5_code
def yX1_leave : MethodName := ⟨RX1, "leave", "(I)V"⟩
abbrev cX1_sayAll : ByteArray := prog_3_method_6_code
def yX1_sayAll : MethodName := ⟨RX1, "sayAll", "(I)Z"⟩
abbrev cX1_tellSpeakers : ByteArray := prog_3_method_7_code
def yX1_tellSpeakers : MethodName := ⟨RX1, "tellSpeakers", "(I)V"⟩
abbrev cX1_saidIn : ByteArray := prog_3_method_8_code
def yX1_saidIn : MethodName := ⟨RX1, "saidIn", "(I)I"⟩
abbrev cX1_knowingThen : ByteArray := prog_3_method_9_code
def yX1_knowingThen : MethodName := ⟨RX1, "knowingThen", "(I)I"⟩
def RX2 : String := "MiddleSpeaks$House"
def TX2 : u_T := fun k => match k with
  | 0 => ("MiddleSpeaks$House", "clauses", "I", false)
  | 1 => ("MiddleSpeaks$House", "words", "[I", true)
  | 2 => ("MiddleSpeaks$House", "numbers", "[I", true)
  | 3 => ("MiddleSpeaks$House", "ends", "[I", true)
  | 4 => ("MiddleSpeaks$House", "steps", "[I", true)
  | 5 => ("MiddleSpeaks$House", "stepCount", "I", false)
  | _ => ("MiddleSpeaks$House", "same", "I", false)
def tyX2 : Nat → FieldType := fun k => match k with
  | 0 => .int
  | 1 => .array .int
  | 2 => .array .int
  | 3 => .array .int
  | 4 => .array .int
  | 5 => .int
  | _ => .int
abbrev wsX20 : List Cond := u_ws RX2 TX2 7
theorem nmX2 : ∀ a, a < 7 → ∀ b, b < 7 → a ≠ b → (TX2 a).2.1 ≠ (TX2 b).2.1 := by decide +kernel
theorem tyX2_ok : ∀ k, k < 7 → parseFieldDescriptor (TX2 k).2.2.1 = some (tyX2 k) := by decide +kernel
abbrev cX2_init : ByteArray := prog_4_method_1_code
def yX2_init : MethodName := ⟨RX2, "<init>", "()V"⟩
abbrev cX2_addStep : ByteArray := prog_4_method_2_code
def yX2_addStep : MethodName := ⟨RX2, "addStep", "(I)V"⟩
abbrev cX2_addTest : ByteArray := prog_4_method_3_code
def yX2_addTest : MethodName := ⟨RX2, "addTest", "(III)V"⟩
abbrev cX2_addClause : ByteArray := prog_4_method_4_code
def yX2_addClause : MethodName := ⟨RX2, "addClause", "(II)V"⟩
abbrev cX2_together : ByteArray := prog_4_method_5_code
def yX2_together : MethodName := ⟨RX2, "together", "(I[I)I"⟩
abbrev cX2_hasBar : ByteArray := prog_4_method_6_code
def yX2_hasBar : MethodName := ⟨RX2, "hasBar", "([I)Z"⟩
abbrev cX2_holdsIn : ByteArray := prog_4_method_7_code
def yX2_holdsIn : MethodName := ⟨RX2, "holdsIn", "(I[I)Z"⟩
abbrev cX2_testHolds : ByteArray := prog_4_method_8_code
def yX2_testHolds : MethodName := ⟨RX2, "testHolds", "(I[I)Z"⟩
def RX3 : String := "MiddleSpeaks$HouseReader"
def TX3 : u_T := fun k => match k with
  | 0 => ("MiddleSpeaks$HouseReader", "signs", "[I", false)
  | 1 => ("MiddleSpeaks$HouseReader", "length", "I", false)
  | 2 => ("MiddleSpeaks$HouseReader", "at", "I", false)
  | _ => ("MiddleSpeaks$HouseReader", "house", "LMiddleSpeaks$House;", false)
def tyX3 : Nat → FieldType := fun k => match k with
  | 0 => .array .int
  | 1 => .int
  | 2 => .int
  | _ => .object "MiddleSpeaks$House"
abbrev wsX30 : List Cond := u_ws RX3 TX3 4
theorem nmX3 : ∀ a, a < 4 → ∀ b, b < 4 → a ≠ b → (TX3 a).2.1 ≠ (TX3 b).2.1 := by decide +kernel
theorem tyX3_ok : ∀ k, k < 4 → parseFieldDescriptor (TX3 k).2.2.1 = some (tyX3 k) := by decide +kernel
abbrev cX3_init : ByteArray := prog_5_method_1_code
def yX3_init : MethodName := ⟨RX3, "<init>", "()V"⟩
abbrev cX3_readInto : ByteArray := prog_5_method_2_code
def yX3_readInto : MethodName := ⟨RX3, "readInto", "(LMiddleSpeaks$House;[II)I"⟩
abbrev cX3_readClause : ByteArray := prog_5_method_3_code
def yX3_readClause : MethodName := ⟨RX3, "readClause", "()Z"⟩
abbrev cX3_readWord : ByteArray := prog_5_method_4_code
def yX3_readWord : MethodName := ⟨RX3, "readWord", "()I"⟩
abbrev cX3_readAny : ByteArray := prog_5_method_5_code
def yX3_readAny : MethodName := ⟨RX3, "readAny", "(I)Z"⟩
abbrev cX3_readAll : ByteArray := prog_5_method_6_code
def yX3_readAll : MethodName := ⟨RX3, "readAll", "(I)Z"⟩
abbrev cX3_readOne : ByteArray := prog_5_method_7_code
def yX3_readOne : MethodName := ⟨RX3, "readOne", "(I)Z"⟩
abbrev cX3_readTest : ByteArray := prog_5_method_8_code
def yX3_readTest : MethodName := ⟨RX3, "readTest", "()Z"⟩
abbrev cX3_readNumber : ByteArray := prog_5_method_9_code
def yX3_readNumber : MethodName := ⟨RX3, "readNumber", "()I"⟩
abbrev cX3_eat : ByteArray := prog_5_method_10_code
def yX3_eat : MethodName := ⟨RX3, "eat", "(I)Z"⟩
abbrev cX3_eatAll : ByteArray := prog_5_method_11_code
def yX3_eatAll : MethodName := ⟨RX3, "eatAll", "(Ljava/lang/String;)Z"⟩
abbrev cX3_eatOneOf : ByteArray := prog_5_method_12_code
def yX3_eatOneOf : MethodName := ⟨RX3, "eatOneOf", "(Ljava/lang/String;)I"⟩
def RX4 : String := "MiddleSpeaks$Orders"
def TX4 : u_T := fun k => match k with
  | 0 => ("MiddleSpeaks$Orders", "scene", "LMiddleSpeaks$Scene;", true)
  | _ => ("MiddleSpeaks$Orders", "rank", "[I", true)
def tyX4 : Nat → FieldType := fun k => match k with
  | 0 => .object "MiddleSpeaks$Scene"
  | _ => .array .int
abbrev wsX40 : List Cond := u_ws RX4 TX4 2
theorem nmX4 : ∀ a, a < 2 → ∀ b, b < 2 → a ≠ b → (TX4 a).2.1 ≠ (TX4 b).2.1 := by decide +kernel
theorem tyX4_ok : ∀ k, k < 2 → parseFieldDescriptor (TX4 k).2.2.1 = some (tyX4 k) := by decide +kernel
abbrev cX4_init : ByteArray := prog_6_method_1_code
def yX4_init : MethodName := ⟨RX4, "<init>", "(LMiddleSpeaks$Scene;)V"⟩
abbrev cX4_fitting : ByteArray := prog_6_method_2_code
def yX4_fitting : MethodName := ⟨RX4, "fitting", "()I"⟩
abbrev cX4_fittingFrom : ByteArray := prog_6_method_3_code
def yX4_fittingFrom : MethodName := ⟨RX4, "fittingFrom", "(II)I"⟩
abbrev cX4_goesWithAll : ByteArray := prog_6_method_4_code
def yX4_goesWithAll : MethodName := ⟨RX4, "goesWithAll", "()Z"⟩
abbrev cX4_isMiddle : ByteArray := prog_6_method_5_code
def yX4_isMiddle : MethodName := ⟨RX4, "isMiddle", "(II)Z"⟩
def RX5 : String := "MiddleSpeaks$Scene"
def TX5 : u_T := fun k => match k with
  | 0 => ("MiddleSpeaks$Scene", "people", "I", false)
  | 1 => ("MiddleSpeaks$Scene", "ages", "[I", true)
  | 2 => ("MiddleSpeaks$Scene", "heights", "[I", true)
  | 3 => ("MiddleSpeaks$Scene", "places", "[I", true)
  | 4 => ("MiddleSpeaks$Scene", "known", "[I", true)
  | 5 => ("MiddleSpeaks$Scene", "kinds", "[I", true)
  | 6 => ("MiddleSpeaks$Scene", "vs", "[I", true)
  | 7 => ("MiddleSpeaks$Scene", "comings", "I", false)
  | 8 => ("MiddleSpeaks$Scene", "cost", "I", false)
  | 9 => ("MiddleSpeaks$Scene", "rowSets", "[I", true)
  | 10 => ("MiddleSpeaks$Scene", "rowMiddles", "[I", true)
  | 11 => ("MiddleSpeaks$Scene", "rows", "I", false)
  | 12 => ("MiddleSpeaks$Scene", "saidRows", "[I", true)
  | 13 => ("MiddleSpeaks$Scene", "sayings", "I", false)
  | _ => ("MiddleSpeaks$Scene", "holds", "I", false)
def tyX5 : Nat → FieldType := fun k => match k with
  | 0 => .int
  | 1 => .array .int
  | 2 => .array .int
  | 3 => .array .int
  | 4 => .array .int
  | 5 => .array .int
  | 6 => .array .int
  | 7 => .int
  | 8 => .int
  | 9 => .array .int
  | 10 => .array .int
  | 11 => .int
  | 12 => .array .int
  | 13 => .int
  | _ => .int
abbrev wsX50 : List Cond := u_ws RX5 TX5 15
theorem nmX5 : ∀ a, a < 15 → ∀ b, b < 15 → a ≠ b → (TX5 a).2.1 ≠ (TX5 b).2.1 := by decide +kernel
theorem tyX5_ok : ∀ k, k < 15 → parseFieldDescriptor (TX5 k).2.2.1 = some (tyX5 k) := by decide +kernel
abbrev cX5_init : ByteArray := prog_7_method_1_code
def yX5_init : MethodName := ⟨RX5, "<init>", "()V"⟩
abbrev cX5_addPerson : ByteArray := prog_7_method_2_code
def yX5_addPerson : MethodName := ⟨RX5, "addPerson", "(III)I"⟩
abbrev cX5_everybody : ByteArray := prog_7_method_3_code
def yX5_everybody : MethodName := ⟨RX5, "everybody", "()I"⟩
abbrev cX5_whoIsAt : ByteArray := prog_7_method_4_code
def yX5_whoIsAt : MethodName := ⟨RX5, "whoIsAt", "(I)I"⟩
abbrev cX5_isKnown : ByteArray := prog_7_method_5_code
def yX5_isKnown : MethodName := ⟨RX5, "isKnown", "(II)Z"⟩
abbrev cX5_whoKnows : ByteArray := prog_7_method_6_code
def yX5_whoKnows : MethodName := ⟨RX5, "whoKnows", "(I)I"⟩
abbrev cX5_copyFrom : ByteArray := prog_7_method_7_code
def yX5_copyFrom : MethodName := ⟨RX5, "copyFrom", "(LMiddleSpeaks$Scene;)V"⟩
def RX6 : String := "MiddleSpeaks$Standing"
def TX6 : u_T := fun k => match k with
  | 0 => ("MiddleSpeaks$Standing", "scene", "LMiddleSpeaks$Scene;", true)
  | 1 => ("MiddleSpeaks$Standing", "house", "LMiddleSpeaks$House;", false)
  | 2 => ("MiddleSpeaks$Standing", "facts", "[I", true)
  | 3 => ("MiddleSpeaks$Standing", "line", "[I", true)
  | 4 => ("MiddleSpeaks$Standing", "heardNow", "[I", true)
  | 5 => ("MiddleSpeaks$Standing", "prices", "[I", true)
  | _ => ("MiddleSpeaks$Standing", "bars", "[Z", true)
def tyX6 : Nat → FieldType := fun k => match k with
  | 0 => .object "MiddleSpeaks$Scene"
  | 1 => .object "MiddleSpeaks$House"
  | 2 => .array .int
  | 3 => .array .int
  | 4 => .array .int
  | 5 => .array .int
  | _ => .array .boolean
abbrev wsX60 : List Cond := u_ws RX6 TX6 7
theorem nmX6 : ∀ a, a < 7 → ∀ b, b < 7 → a ≠ b → (TX6 a).2.1 ≠ (TX6 b).2.1 := by decide +kernel
theorem tyX6_ok : ∀ k, k < 7 → parseFieldDescriptor (TX6 k).2.2.1 = some (tyX6 k) := by decide +kernel
abbrev cX6_init : ByteArray := prog_8_method_1_code
def yX6_init : MethodName := ⟨RX6, "<init>", "(LMiddleSpeaks$Scene;LMiddleSpeaks$House;)V"⟩
abbrev cX6_look : ByteArray := prog_8_method_2_code
def yX6_look : MethodName := ⟨RX6, "look", "(LMiddleSpeaks$House;)V"⟩
abbrev cX6_priceOf : ByteArray := prog_8_method_3_code
def yX6_priceOf : MethodName := ⟨RX6, "priceOf", "(III)I"⟩
abbrev cX6_isBarred : ByteArray := prog_8_method_4_code
def yX6_isBarred : MethodName := ⟨RX6, "isBarred", "(III)Z"⟩
abbrev cX6_worthTo : ByteArray := prog_8_method_5_code
def yX6_worthTo : MethodName := ⟨RX6, "worthTo", "(III)I"⟩
abbrev cX6_setFacts : ByteArray := prog_8_method_6_code
def yX6_setFacts : MethodName := ⟨RX6, "setFacts", "(IIII)V"⟩
abbrev cX6_tellComings : ByteArray := prog_8_method_7_code
def yX6_tellComings : MethodName := ⟨RX6, "tellComings", "()V"⟩
abbrev cX6_slotOf : ByteArray := prog_8_method_8_code
def yX6_slotOf : MethodName := ⟨RX6, "slotOf", "(III)I"⟩
abbrev cX6_packedNow : ByteArray := prog_8_method_9_code
def yX6_packedNow : MethodName := ⟨RX6, "packedNow", "()I"⟩
abbrev cX6_moved : ByteArray := prog_8_method_10_code
def yX6_moved : MethodName := ⟨RX6, "moved", "(III)I"⟩
abbrev cX6_whoIsAt : ByteArray := prog_8_method_11_code
def yX6_whoIsAt : MethodName := ⟨RX6, "whoIsAt", "(II)I"⟩
abbrev cX6_numberAt : ByteArray := prog_8_method_12_code
def yX6_numberAt : MethodName := ⟨RX6, "numberAt", "(II)I"⟩
abbrev cX6_mayCome : ByteArray := prog_8_method_13_code
def yX6_mayCome : MethodName := ⟨RX6, "mayCome", "(III)Z"⟩
abbrev cX6_priceFrom : ByteArray := prog_8_method_14_code
def yX6_priceFrom : MethodName := ⟨RX6, "priceFrom", "(III)I"⟩
abbrev cX6_speakers : ByteArray := prog_8_method_15_code
def yX6_speakers : MethodName := ⟨RX6, "speakers", "(III)I"⟩
abbrev cX6_lineUp : ByteArray := prog_8_method_16_code
def yX6_lineUp : MethodName := ⟨RX6, "lineUp", "(I[I)I"⟩
abbrev cX6_placeInLine : ByteArray := prog_8_method_17_code
def yX6_placeInLine : MethodName := ⟨RX6, "placeInLine", "(IIII)I"⟩
abbrev cX6_withoutNear : ByteArray := prog_8_method_18_code
def yX6_withoutNear : MethodName := ⟨RX6, "withoutNear", "(II[I)I"⟩
abbrev cX6_isNearAnother : ByteArray := prog_8_method_19_code
def yX6_isNearAnother : MethodName := ⟨RX6, "isNearAnother", "(II[I)Z"⟩
abbrev cX6_sayable : ByteArray := prog_8_method_20_code
def yX6_sayable : MethodName := ⟨RX6, "sayable", "()I"⟩
abbrev cX6_isSaid : ByteArray := prog_8_method_21_code
def yX6_isSaid : MethodName := ⟨RX6, "isSaid", "(II)Z"⟩
def RX7 : String := "MiddleSpeaks$Tape"
def TX7 : u_T := fun k => match k with
  | 0 => ("MiddleSpeaks$Tape", "sort", "I", false)
  | 1 => ("MiddleSpeaks$Tape", "length", "I", false)
  | _ => ("MiddleSpeaks$Tape", "items", "[J", true)
def tyX7 : Nat → FieldType := fun k => match k with
  | 0 => .int
  | 1 => .int
  | _ => .array .long
abbrev wsX70 : List Cond := u_ws RX7 TX7 3
theorem nmX7 : ∀ a, a < 3 → ∀ b, b < 3 → a ≠ b → (TX7 a).2.1 ≠ (TX7 b).2.1 := by decide +kernel
theorem tyX7_ok : ∀ k, k < 3 → parseFieldDescriptor (TX7 k).2.2.1 = some (tyX7 k) := by decide +kernel
abbrev cX7_init : ByteArray := prog_9_method_1_code
def yX7_init : MethodName := ⟨RX7, "<init>", "()V"⟩
abbrev cX7_holdsRow : ByteArray := prog_9_method_2_code
def yX7_holdsRow : MethodName := ⟨RX7, "holdsRow", "()Z"⟩
abbrev cX7_holdNothing : ByteArray := prog_9_method_3_code
def yX7_holdNothing : MethodName := ⟨RX7, "holdNothing", "()V"⟩
abbrev cX7_holdZeros : ByteArray := prog_9_method_4_code
def yX7_holdZeros : MethodName := ⟨RX7, "holdZeros", "(II)V"⟩
abbrev cX7_hasPlace : ByteArray := prog_9_method_5_code
def yX7_hasPlace : MethodName := ⟨RX7, "hasPlace", "(I)Z"⟩
abbrev cX7_hasPart : ByteArray := prog_9_method_6_code
def yX7_hasPart : MethodName := ⟨RX7, "hasPart", "(II)Z"⟩
abbrev cX7_put : ByteArray := prog_9_method_7_code
def yX7_put : MethodName := ⟨RX7, "put", "(IJ)V"⟩
abbrev cX7_narrowed : ByteArray := prog_9_method_8_code
def yX7_narrowed : MethodName := ⟨RX7, "narrowed", "(J)J"⟩
def RX8 : String := "MiddleSpeaks$Turns"
def TX8 : u_T := fun k => match k with
  | _ => ("MiddleSpeaks$Turns", "standing", "LMiddleSpeaks$Standing;", true)
def tyX8 : Nat → FieldType := fun k => match k with
  | _ => .object "MiddleSpeaks$Standing"
abbrev wsX80 : List Cond := u_ws RX8 TX8 1
theorem nmX8 : ∀ a, a < 1 → ∀ b, b < 1 → a ≠ b → (TX8 a).2.1 ≠ (TX8 b).2.1 := by decide +kernel
theorem tyX8_ok : ∀ k, k < 1 → parseFieldDescriptor (TX8 k).2.2.1 = some (tyX8 k) := by decide +kernel
abbrev cX8_init : ByteArray := prog_10_method_1_code
def yX8_init : MethodName := ⟨RX8, "<init>", "(LMiddleSpeaks$Standing;)V"⟩
abbrev cX8_canWin : ByteArray := prog_10_method_2_code
def yX8_canWin : MethodName := ⟨RX8, "canWin", "(III)Z"⟩
abbrev cX8_wins : ByteArray := prog_10_method_3_code
def yX8_wins : MethodName := ⟨RX8, "wins", "(IIIIIZ)Z"⟩
abbrev cX8_oddsOfSpeaking : ByteArray := prog_10_method_4_code
def yX8_oddsOfSpeaking : MethodName := ⟨RX8, "oddsOfSpeaking", "(IIZ)J"⟩
abbrev cX8_sharesSpeaking : ByteArray := prog_10_method_5_code
def yX8_sharesSpeaking : MethodName := ⟨RX8, "sharesSpeaking", "(IIIIJ)J"⟩
abbrev cX8_waysOn : ByteArray := prog_10_method_6_code
def yX8_waysOn : MethodName := ⟨RX8, "waysOn", "(I)I"⟩
abbrev cX8_greatestDivisor : ByteArray := prog_10_method_7_code
def yX8_greatestDivisor : MethodName := ⟨RX8, "greatestDivisor", "(JJ)J"⟩
def RX9 : String := "MiddleSpeaks$Walk"
def TX9 : u_T := fun k => match k with
  | 0 => ("MiddleSpeaks$Walk", "standing", "LMiddleSpeaks$Standing;", true)
  | 1 => ("MiddleSpeaks$Walk", "least", "[I", true)
  | 2 => ("MiddleSpeaks$Walk", "next", "[I", true)
  | 3 => ("MiddleSpeaks$Walk", "speakersOf", "[I", true)
  | 4 => ("MiddleSpeaks$Walk", "states", "I", false)
  | 5 => ("MiddleSpeaks$Walk", "gone", "I", false)
  | 6 => ("MiddleSpeaks$Walk", "isSettled", "Z", false)
  | _ => ("MiddleSpeaks$Walk", "isOfCosts", "Z", false)
def tyX9 : Nat → FieldType := fun k => match k with
  | 0 => .object "MiddleSpeaks$Standing"
  | 1 => .array .int
  | 2 => .array .int
  | 3 => .array .int
  | 4 => .int
  | 5 => .int
  | 6 => .boolean
  | _ => .boolean
abbrev wsX90 : List Cond := u_ws RX9 TX9 8
theorem nmX9 : ∀ a, a < 8 → ∀ b, b < 8 → a ≠ b → (TX9 a).2.1 ≠ (TX9 b).2.1 := by decide +kernel
theorem tyX9_ok : ∀ k, k < 8 → parseFieldDescriptor (TX9 k).2.2.1 = some (tyX9 k) := by decide +kernel
abbrev cX9_init : ByteArray := prog_11_method_1_code
def yX9_init : MethodName := ⟨RX9, "<init>", "(LMiddleSpeaks$Standing;)V"⟩
abbrev cX9_fewestComings : ByteArray := prog_11_method_2_code
def yX9_fewestComings : MethodName := ⟨RX9, "fewestComings", "(IIZ)I"⟩
abbrev cX9_leastCost : ByteArray := prog_11_method_3_code
def yX9_leastCost : MethodName := ⟨RX9, "leastCost", "(III)I"⟩
abbrev cX9_whoNeverCan : ByteArray := prog_11_method_4_code
def yX9_whoNeverCan : MethodName := ⟨RX9, "whoNeverCan", "(I)I"⟩
abbrev cX9_begin : ByteArray := prog_11_method_5_code
def yX9_begin : MethodName := ⟨RX9, "begin", "(Z)V"⟩
abbrev cX9_goOn : ByteArray := prog_11_method_6_code
def yX9_goOn : MethodName := ⟨RX9, "goOn", "()V"⟩
abbrev cX9_leave : ByteArray := prog_11_method_7_code
def yX9_leave : MethodName := ⟨RX9, "leave", "(I)V"⟩
abbrev cX9_carried : ByteArray := prog_11_method_8_code
def yX9_carried : MethodName := ⟨RX9, "carried", "(III)I"⟩
abbrev cX9_takeNext : ByteArray := prog_11_method_9_code
def yX9_takeNext : MethodName := ⟨RX9, "takeNext", "()Z"⟩
abbrev cX9_tellSpeakers : ByteArray := prog_11_method_10_code
def yX9_tellSpeakers : MethodName := ⟨RX9, "tellSpeakers", "(I)V"⟩
abbrev cX9_leastWith : ByteArray := prog_11_method_11_code
def yX9_leastWith : MethodName := ⟨RX9, "leastWith", "(II)I"⟩
abbrev cX9_whoCanSpeak : ByteArray := prog_11_method_12_code
def yX9_whoCanSpeak : MethodName := ⟨RX9, "whoCanSpeak", "(I)I"⟩
def RX10 : String := "MiddleSpeaks"
def TX10 : u_T := fun k => match k with
  | 0 => ("MiddleSpeaks", "now", "LMiddleSpeaks$Scene;", true)
  | 1 => ("MiddleSpeaks", "kept", "LMiddleSpeaks$Scene;", true)
  | 2 => ("MiddleSpeaks", "isKept", "Z", false)
  | 3 => ("MiddleSpeaks", "text", "[I", true)
  | 4 => ("MiddleSpeaks", "textLength", "I", false)
  | 5 => ("MiddleSpeaks", "houses", "[LMiddleSpeaks$House;", true)
  | 6 => ("MiddleSpeaks", "houseCount", "I", false)
  | 7 => ("MiddleSpeaks", "bare", "LMiddleSpeaks$House;", true)
  | 8 => ("MiddleSpeaks", "reader", "LMiddleSpeaks$HouseReader;", true)
  | 9 => ("MiddleSpeaks", "standing", "LMiddleSpeaks$Standing;", true)
  | 10 => ("MiddleSpeaks", "walk", "LMiddleSpeaks$Walk;", true)
  | 11 => ("MiddleSpeaks", "hearing", "LMiddleSpeaks$Hearing;", true)
  | 12 => ("MiddleSpeaks", "turns", "LMiddleSpeaks$Turns;", true)
  | 13 => ("MiddleSpeaks", "orders", "LMiddleSpeaks$Orders;", true)
  | 14 => ("MiddleSpeaks", "acts", "LMiddleSpeaks$Acts;", true)
  | _ => ("MiddleSpeaks", "tapes", "[LMiddleSpeaks$Tape;", true)
def tyX10 : Nat → FieldType := fun k => match k with
  | 0 => .object "MiddleSpeaks$Scene"
  | 1 => .object "MiddleSpeaks$Scene"
  | 2 => .boolean
  | 3 => .array .int
  | 4 => .int
  | 5 => .array (.object "MiddleSpeaks$House")
  | 6 => .int
  | 7 => .object "MiddleSpeaks$House"
  | 8 => .object "MiddleSpeaks$HouseReader"
  | 9 => .object "MiddleSpeaks$Standing"
  | 10 => .object "MiddleSpeaks$Walk"
  | 11 => .object "MiddleSpeaks$Hearing"
  | 12 => .object "MiddleSpeaks$Turns"
  | 13 => .object "MiddleSpeaks$Orders"
  | 14 => .object "MiddleSpeaks$Acts"
  | _ => .array (.object "MiddleSpeaks$Tape")
abbrev wsX100 : List Cond := u_ws RX10 TX10 16
theorem nmX10 : ∀ a, a < 16 → ∀ b, b < 16 → a ≠ b → (TX10 a).2.1 ≠ (TX10 b).2.1 := by decide +kernel
theorem tyX10_ok : ∀ k, k < 16 → parseFieldDescriptor (TX10 k).2.2.1 = some (tyX10 k) := by decide +kernel
abbrev cX10_init : ByteArray := prog_1_method_1_code
def yX10_init : MethodName := ⟨RX10, "<init>", "()V"⟩
abbrev cX10_person : ByteArray := prog_1_method_2_code
def yX10_person : MethodName := ⟨RX10, "person", "(III)I"⟩
abbrev cX10_of : ByteArray := prog_1_method_3_code
def yX10_of : MethodName := ⟨RX10, "of", "(II)I"⟩
abbrev cX10_learn : ByteArray := prog_1_method_4_code
def yX10_learn : MethodName := ⟨RX10, "learn", "(II)I"⟩
abbrev cX10_room : ByteArray := prog_1_method_5_code
def yX10_room : MethodName := ⟨RX10, "room", "(III)I"⟩
abbrev cX10_inside : ByteArray := prog_1_method_6_code
def yX10_inside : MethodName := ⟨RX10, "inside", "(II)I"⟩
abbrev cX10_feed : ByteArray := prog_1_method_7_code
def yX10_feed : MethodName := ⟨RX10, "feed", "(I)I"⟩
abbrev cX10_house : ByteArray := prog_1_method_8_code
def yX10_house : MethodName := ⟨RX10, "house", "()I"⟩
abbrev cX10_told : ByteArray := prog_1_method_9_code
def yX10_told : MethodName := ⟨RX10, "told", "(I)I"⟩
abbrev cX10_coming : ByteArray := prog_1_method_10_code
def yX10_coming : MethodName := ⟨RX10, "coming", "(III)I"⟩
abbrev cX10_come : ByteArray := prog_1_method_11_code
def yX10_come : MethodName := ⟨RX10, "come", "(II)I"⟩
abbrev cX10_say : ByteArray := prog_1_method_12_code
def yX10_say : MethodName := ⟨RX10, "say", "(II)I"⟩
abbrev cX10_soonest : ByteArray := prog_1_method_13_code
def yX10_soonest : MethodName := ⟨RX10, "soonest", "(III)I"⟩
abbrev cX10_cheapest : ByteArray := prog_1_method_14_code
def yX10_cheapest : MethodName := ⟨RX10, "cheapest", "(III)I"⟩
abbrev cX10_never : ByteArray := prog_1_method_15_code
def yX10_never : MethodName := ⟨RX10, "never", "(I)I"⟩
abbrev cX10_heard : ByteArray := prog_1_method_16_code
def yX10_heard : MethodName := ⟨RX10, "heard", "(I)I"⟩
abbrev cX10_secret : ByteArray := prog_1_method_17_code
def yX10_secret : MethodName := ⟨RX10, "secret", "(III)I"⟩
abbrev cX10_game : ByteArray := prog_1_method_18_code
def yX10_game : MethodName := ⟨RX10, "game", "(III)I"⟩
abbrev cX10_votes : ByteArray := prog_1_method_19_code
def yX10_votes : MethodName := ⟨RX10, "votes", "(II)I"⟩
abbrev cX10_spoken : ByteArray := prog_1_method_20_code
def yX10_spoken : MethodName := ⟨RX10, "spoken", "(II)I"⟩
abbrev cX10_fits : ByteArray := prog_1_method_21_code
def yX10_fits : MethodName := ⟨RX10, "fits", "()I"⟩
abbrev cX10_lot : ByteArray := prog_1_method_22_code
def yX10_lot : MethodName := ⟨RX10, "lot", "(III)J"⟩
abbrev cX10_book : ByteArray := prog_1_method_23_code
def yX10_book : MethodName := ⟨RX10, "book", "(I)I"⟩
abbrev cX10_readBook : ByteArray := prog_1_method_24_code
def yX10_readBook : MethodName := ⟨RX10, "readBook", "()I"⟩
abbrev cX10_judge : ByteArray := prog_1_method_25_code
def yX10_judge : MethodName := ⟨RX10, "judge", "(II)I"⟩
abbrev cX10_image : ByteArray := prog_1_method_26_code
def yX10_image : MethodName := ⟨RX10, "image", "()I"⟩
abbrev cX10_undo : ByteArray := prog_1_method_27_code
def yX10_undo : MethodName := ⟨RX10, "undo", "()I"⟩
abbrev cX10_act : ByteArray := prog_1_method_28_code
def yX10_act : MethodName := ⟨RX10, "act", "(III)I"⟩
abbrev cX10_trace : ByteArray := prog_1_method_29_code
def yX10_trace : MethodName := ⟨RX10, "trace", "(I)I"⟩
abbrev cX10_taken : ByteArray := prog_1_method_30_code
def yX10_taken : MethodName := ⟨RX10, "taken", "(II)I"⟩
abbrev cX10_count : ByteArray := prog_1_method_31_code
def yX10_count : MethodName := ⟨RX10, "count", "(I)I"⟩
abbrev cX10_tape : ByteArray := prog_1_method_32_code
def yX10_tape : MethodName := ⟨RX10, "tape", "(III)I"⟩
abbrev cX10_item : ByteArray := prog_1_method_33_code
def yX10_item : MethodName := ⟨RX10, "item", "(IIJ)I"⟩
abbrev cX10_read : ByteArray := prog_1_method_34_code
def yX10_read : MethodName := ⟨RX10, "read", "(II)J"⟩
abbrev cX10_shift : ByteArray := prog_1_method_35_code
def yX10_shift : MethodName := ⟨RX10, "shift", "(IIIII)I"⟩
abbrev cX10_isFromTo : ByteArray := prog_1_method_36_code
def yX10_isFromTo : MethodName := ⟨RX10, "isFromTo", "(III)Z"⟩
abbrev cX10_isRoom : ByteArray := prog_1_method_37_code
def yX10_isRoom : MethodName := ⟨RX10, "isRoom", "(I)Z"⟩
abbrev cX10_isPlace : ByteArray := prog_1_method_38_code
def yX10_isPlace : MethodName := ⟨RX10, "isPlace", "(I)Z"⟩
abbrev cX10_isThing : ByteArray := prog_1_method_39_code
def yX10_isThing : MethodName := ⟨RX10, "isThing", "(I)Z"⟩
abbrev cX10_isTape : ByteArray := prog_1_method_40_code
def yX10_isTape : MethodName := ⟨RX10, "isTape", "(I)Z"⟩
abbrev cX10_isPerson : ByteArray := prog_1_method_41_code
def yX10_isPerson : MethodName := ⟨RX10, "isPerson", "(I)Z"⟩
abbrev cX10_isKindOrUnder : ByteArray := prog_1_method_42_code
def yX10_isKindOrUnder : MethodName := ⟨RX10, "isKindOrUnder", "(II)Z"⟩
abbrev cX10_holding : ByteArray := prog_1_method_43_code
def yX10_holding : MethodName := ⟨RX10, "holding", "()LMiddleSpeaks$House;"⟩
abbrev cX10_lookAhead : ByteArray := prog_1_method_44_code
def yX10_lookAhead : MethodName := ⟨RX10, "lookAhead", "()V"⟩
abbrev cX10_speakersNow : ByteArray := prog_1_method_45_code
def yX10_speakersNow : MethodName := ⟨RX10, "speakersNow", "(I)I"⟩
abbrev cX10_maySpeakNow : ByteArray := prog_1_method_46_code
def yX10_maySpeakNow : MethodName := ⟨RX10, "maySpeakNow", "(I)Z"⟩
abbrev cX10_priceNow : ByteArray := prog_1_method_47_code
def yX10_priceNow : MethodName := ⟨RX10, "priceNow", "(II)I"⟩
abbrev cX10_isBarredNow : ByteArray := prog_1_method_48_code
def yX10_isBarredNow : MethodName := ⟨RX10, "isBarredNow", "(II)Z"⟩
abbrev cX10_numberWith : ByteArray := prog_1_method_49_code
def yX10_numberWith : MethodName := ⟨RX10, "numberWith", "(I)I"⟩
abbrev cX10_firstOtherwise : ByteArray := prog_1_method_50_code
def yX10_firstOtherwise : MethodName := ⟨RX10, "firstOtherwise", "(LMiddleSpeaks$Tape;I)I"⟩
def RX11 : String := "MiddleSpeaksModel"
def TX11 : u_T := fun k => match k with
  | 0 => ("MiddleSpeaksModel", "people", "I", false)
  | 1 => ("MiddleSpeaksModel", "where", "I", false)
  | 2 => ("MiddleSpeaksModel", "comings", "I", false)
  | 3 => ("MiddleSpeaksModel", "cost", "I", false)
  | 4 => ("MiddleSpeaksModel", "age", "[I", true)
  | 5 => ("MiddleSpeaksModel", "height", "[I", true)
  | 6 => ("MiddleSpeaksModel", "knows", "[I", true)
  | 7 => ("MiddleSpeaksModel", "kind", "[I", true)
  | 8 => ("MiddleSpeaksModel", "v", "[I", true)
  | 9 => ("MiddleSpeaksModel", "same", "I", false)
  | 10 => ("MiddleSpeaksModel", "houses", "I", false)
  | 11 => ("MiddleSpeaksModel", "the", "I", false)
  | 12 => ("MiddleSpeaksModel", "fed", "I", false)
  | 13 => ("MiddleSpeaksModel", "at", "I", false)
  | 14 => ("MiddleSpeaksModel", "digits", "I", false)
  | 15 => ("MiddleSpeaksModel", "text", "[I", true)
  | 16 => ("MiddleSpeaksModel", "clauses", "[I", true)
  | 17 => ("MiddleSpeaksModel", "word", "[I", true)
  | 18 => ("MiddleSpeaksModel", "number", "[I", true)
  | 19 => ("MiddleSpeaksModel", "from", "[I", true)
  | 20 => ("MiddleSpeaksModel", "to", "[I", true)
  | 21 => ("MiddleSpeaksModel", "sign", "[I", true)
  | 22 => ("MiddleSpeaksModel", "waits", "[I", true)
  | 23 => ("MiddleSpeaksModel", "signs", "I", false)
  | 24 => ("MiddleSpeaksModel", "waiting", "I", false)
  | 25 => ("MiddleSpeaksModel", "open", "I", false)
  | 26 => ("MiddleSpeaksModel", "letters", "[I", true)
  | 27 => ("MiddleSpeaksModel", "pile", "[Z", true)
  | 28 => ("MiddleSpeaksModel", "priceOf", "[I", true)
  | 29 => ("MiddleSpeaksModel", "barredOf", "[Z", true)
  | 30 => ("MiddleSpeaksModel", "now", "[Z", true)
  | 31 => ("MiddleSpeaksModel", "then", "[Z", true)
  | 32 => ("MiddleSpeaksModel", "leastNow", "[I", true)
  | 33 => ("MiddleSpeaksModel", "leastThen", "[I", true)
  | 34 => ("MiddleSpeaksModel", "knownNow", "[Z", true)
  | 35 => ("MiddleSpeaksModel", "knownThen", "[Z", true)
  | 36 => ("MiddleSpeaksModel", "rows", "I", false)
  | 37 => ("MiddleSpeaksModel", "rowSet", "[I", true)
  | 38 => ("MiddleSpeaksModel", "rowWho", "[I", true)
  | 39 => ("MiddleSpeaksModel", "rank", "[I", true)
  | 40 => ("MiddleSpeaksModel", "lotAbove", "J", false)
  | 41 => ("MiddleSpeaksModel", "lotBelow", "J", false)
  | 42 => ("MiddleSpeaksModel", "booked", "I", false)
  | 43 => ("MiddleSpeaksModel", "sayings", "[I", true)
  | 44 => ("MiddleSpeaksModel", "knewThen", "[I", true)
  | 45 => ("MiddleSpeaksModel", "hasImage", "Z", false)
  | 46 => ("MiddleSpeaksModel", "imageThe", "I", false)
  | 47 => ("MiddleSpeaksModel", "imagePeople", "I", false)
  | 48 => ("MiddleSpeaksModel", "imageWhere", "I", false)
  | 49 => ("MiddleSpeaksModel", "imageComings", "I", false)
  | 50 => ("MiddleSpeaksModel", "imageCost", "I", false)
  | 51 => ("MiddleSpeaksModel", "imageRows", "I", false)
  | 52 => ("MiddleSpeaksModel", "imageBooked", "I", false)
  | 53 => ("MiddleSpeaksModel", "imageAge", "[I", true)
  | 54 => ("MiddleSpeaksModel", "imageHeight", "[I", true)
  | 55 => ("MiddleSpeaksModel", "imageKnows", "[I", true)
  | 56 => ("MiddleSpeaksModel", "imageKind", "[I", true)
  | 57 => ("MiddleSpeaksModel", "imageV", "[I", true)
  | 58 => ("MiddleSpeaksModel", "imageSet", "[I", true)
  | 59 => ("MiddleSpeaksModel", "imageWho", "[I", true)
  | 60 => ("MiddleSpeaksModel", "imageSayings", "[I", true)
  | 61 => ("MiddleSpeaksModel", "ran", "I", false)
  | 62 => ("MiddleSpeaksModel", "bodies", "[I", true)
  | 63 => ("MiddleSpeaksModel", "sort", "[I", true)
  | 64 => ("MiddleSpeaksModel", "length", "[I", true)
  | 65 => ("MiddleSpeaksModel", "item", "[J", true)
  | _ => ("MiddleSpeaksModel", "aside", "[J", true)
def tyX11 : Nat → FieldType := fun k => match k with
  | 0 => .int
  | 1 => .int
  | 2 => .int
  | 3 => .int
  | 4 => .array .int
  | 5 => .array .int
  | 6 => .array .int
  | 7 => .array .int
  | 8 => .array .int
  | 9 => .int
  | 10 => .int
  | 11 => .int
  | 12 => .int
  | 13 => .int
  | 14 => .int
  | 15 => .array .int
  | 16 => .array .int
  | 17 => .array .int
  | 18 => .array .int
  | 19 => .array .int
  | 20 => .array .int
  | 21 => .array .int
  | 22 => .array .int
  | 23 => .int
  | 24 => .int
  | 25 => .int
  | 26 => .array .int
  | 27 => .array .boolean
  | 28 => .array .int
  | 29 => .array .boolean
  | 30 => .array .boolean
  | 31 => .array .boolean
  | 32 => .array .int
  | 33 => .array .int
  | 34 => .array .boolean
  | 35 => .array .boolean
  | 36 => .int
  | 37 => .array .int
  | 38 => .array .int
  | 39 => .array .int
  | 40 => .long
  | 41 => .long
  | 42 => .int
  | 43 => .array .int
  | 44 => .array .int
  | 45 => .boolean
  | 46 => .int
  | 47 => .int
  | 48 => .int
  | 49 => .int
  | 50 => .int
  | 51 => .int
  | 52 => .int
  | 53 => .array .int
  | 54 => .array .int
  | 55 => .array .int
  | 56 => .array .int
  | 57 => .array .int
  | 58 => .array .int
  | 59 => .array .int
  | 60 => .array .int
  | 61 => .int
  | 62 => .array .int
  | 63 => .array .int
  | 64 => .array .int
  | 65 => .array .long
  | _ => .array .long
abbrev wsX110 : List Cond := u_ws RX11 TX11 67
theorem nmX11 : ∀ a, a < 67 → ∀ b, b < 67 → a ≠ b → (TX11 a).2.1 ≠ (TX11 b).2.1 := by decide +kernel
theorem tyX11_ok : ∀ k, k < 67 → parseFieldDescriptor (TX11 k).2.2.1 = some (tyX11 k) := by decide +kernel
abbrev cX11_init : ByteArray := prog_13_method_1_code
def yX11_init : MethodName := ⟨RX11, "<init>", "()V"⟩
abbrev cX11_within : ByteArray := prog_13_method_2_code
def yX11_within : MethodName := ⟨RX11, "within", "(III)Z"⟩
abbrev cX11_has : ByteArray := prog_13_method_3_code
def yX11_has : MethodName := ⟨RX11, "has", "(II)Z"⟩
abbrev cX11_ones : ByteArray := prog_13_method_4_code
def yX11_ones : MethodName := ⟨RX11, "ones", "(I)I"⟩
abbrev cX11_isPerson : ByteArray := prog_13_method_5_code
def yX11_isPerson : MethodName := ⟨RX11, "isPerson", "(I)Z"⟩
abbrev cX11_isRoom : ByteArray := prog_13_method_6_code
def yX11_isRoom : MethodName := ⟨RX11, "isRoom", "(I)Z"⟩
abbrev cX11_isPlace : ByteArray := prog_13_method_7_code
def yX11_isPlace : MethodName := ⟨RX11, "isPlace", "(I)Z"⟩
abbrev cX11_isThing : ByteArray := prog_13_method_8_code
def yX11_isThing : MethodName := ⟨RX11, "isThing", "(I)Z"⟩
abbrev cX11_placeOf : ByteArray := prog_13_method_9_code
def yX11_placeOf : MethodName := ⟨RX11, "placeOf", "(II)I"⟩
abbrev cX11_moved : ByteArray := prog_13_method_10_code
def yX11_moved : MethodName := ⟨RX11, "moved", "(III)I"⟩
abbrev cX11_manyIn : ByteArray := prog_13_method_11_code
def yX11_manyIn : MethodName := ⟨RX11, "manyIn", "(II)I"⟩
abbrev cX11_person : ByteArray := prog_13_method_12_code
def yX11_person : MethodName := ⟨RX11, "person", "(III)I"⟩
abbrev cX11_measure : ByteArray := prog_13_method_13_code
def yX11_measure : MethodName := ⟨RX11, "measure", "(II)I"⟩
abbrev cX11_placeInLine : ByteArray := prog_13_method_14_code
def yX11_placeInLine : MethodName := ⟨RX11, "placeInLine", "(III)I"⟩
abbrev cX11_hasLike : ByteArray := prog_13_method_15_code
def yX11_hasLike : MethodName := ⟨RX11, "hasLike", "(IIII)Z"⟩
abbrev cX11_isMiddle : ByteArray := prog_13_method_16_code
def yX11_isMiddle : MethodName := ⟨RX11, "isMiddle", "(IIII)Z"⟩
abbrev cX11_maySpeak : ByteArray := prog_13_method_17_code
def yX11_maySpeak : MethodName := ⟨RX11, "maySpeak", "(III)Z"⟩
abbrev cX11_of : ByteArray := prog_13_method_18_code
def yX11_of : MethodName := ⟨RX11, "of", "(II)I"⟩
abbrev cX11_learn : ByteArray := prog_13_method_19_code
def yX11_learn : MethodName := ⟨RX11, "learn", "(II)I"⟩
abbrev cX11_room : ByteArray := prog_13_method_20_code
def yX11_room : MethodName := ⟨RX11, "room", "(III)I"⟩
abbrev cX11_inside : ByteArray := prog_13_method_21_code
def yX11_inside : MethodName := ⟨RX11, "inside", "(II)I"⟩
abbrev cX11_feed : ByteArray := prog_13_method_22_code
def yX11_feed : MethodName := ⟨RX11, "feed", "(I)I"⟩
abbrev cX11_next : ByteArray := prog_13_method_23_code
def yX11_next : MethodName := ⟨RX11, "next", "()I"⟩
abbrev cX11_takes : ByteArray := prog_13_method_25_code
def yX11_takes : MethodName := ⟨RX11, "takes", "(I)Z"⟩
abbrev cX11_takesWord : ByteArray := prog_13_method_26_code
def yX11_takesWord : MethodName := ⟨RX11, "takesWord", "(II)Z"⟩
abbrev cX11_isDigit : ByteArray := prog_13_method_27_code
def yX11_isDigit : MethodName := ⟨RX11, "isDigit", "()Z"⟩
abbrev cX11_takesNumber : ByteArray := prog_13_method_28_code
def yX11_takesNumber : MethodName := ⟨RX11, "takesNumber", "()Z"⟩
abbrev cX11_put : ByteArray := prog_13_method_29_code
def yX11_put : MethodName := ⟨RX11, "put", "(I)V"⟩
abbrev cX11_whole : ByteArray := prog_13_method_30_code
def yX11_whole : MethodName := ⟨RX11, "whole", "()V"⟩
abbrev cX11_settle : ByteArray := prog_13_method_31_code
def yX11_settle : MethodName := ⟨RX11, "settle", "(I)V"⟩
abbrev cX11_place : ByteArray := prog_13_method_32_code
def yX11_place : MethodName := ⟨RX11, "place", "(I)I"⟩
abbrev cX11_takesTest : ByteArray := prog_13_method_33_code
def yX11_takesTest : MethodName := ⟨RX11, "takesTest", "()Z"⟩
abbrev cX11_takesE : ByteArray := prog_13_method_34_code
def yX11_takesE : MethodName := ⟨RX11, "takesE", "(I)Z"⟩
abbrev cX11_takesHead : ByteArray := prog_13_method_35_code
def yX11_takesHead : MethodName := ⟨RX11, "takesHead", "(I)Z"⟩
abbrev cX11_takesClause : ByteArray := prog_13_method_36_code
def yX11_takesClause : MethodName := ⟨RX11, "takesClause", "(I)Z"⟩
abbrev cX11_goesText : ByteArray := prog_13_method_37_code
def yX11_goesText : MethodName := ⟨RX11, "goesText", "(I)Z"⟩
abbrev cX11_house : ByteArray := prog_13_method_38_code
def yX11_house : MethodName := ⟨RX11, "house", "()I"⟩
abbrev cX11_first : ByteArray := prog_13_method_39_code
def yX11_first : MethodName := ⟨RX11, "first", "()I"⟩
abbrev cX11_behind : ByteArray := prog_13_method_40_code
def yX11_behind : MethodName := ⟨RX11, "behind", "()I"⟩
abbrev cX11_sameNow : ByteArray := prog_13_method_41_code
def yX11_sameNow : MethodName := ⟨RX11, "sameNow", "()I"⟩
abbrev cX11_told : ByteArray := prog_13_method_42_code
def yX11_told : MethodName := ⟨RX11, "told", "(I)I"⟩
abbrev cX11_factOf : ByteArray := prog_13_method_43_code
def yX11_factOf : MethodName := ⟨RX11, "factOf", "(IIIII)I"⟩
abbrev cX11_holds : ByteArray := prog_13_method_44_code
def yX11_holds : MethodName := ⟨RX11, "holds", "(IIIII)Z"⟩
abbrev cX11_sumOf : ByteArray := prog_13_method_45_code
def yX11_sumOf : MethodName := ⟨RX11, "sumOf", "(IIIII)I"⟩
abbrev cX11_isBarred : ByteArray := prog_13_method_46_code
def yX11_isBarred : MethodName := ⟨RX11, "isBarred", "(III)Z"⟩
abbrev cX11_layComings : ByteArray := prog_13_method_47_code
def yX11_layComings : MethodName := ⟨RX11, "layComings", "()V"⟩
abbrev cX11_comingOf : ByteArray := prog_13_method_48_code
def yX11_comingOf : MethodName := ⟨RX11, "comingOf", "(III)I"⟩
abbrev cX11_mayCome : ByteArray := prog_13_method_49_code
def yX11_mayCome : MethodName := ⟨RX11, "mayCome", "(III)Z"⟩
abbrev cX11_coming : ByteArray := prog_13_method_50_code
def yX11_coming : MethodName := ⟨RX11, "coming", "(III)I"⟩
abbrev cX11_come : ByteArray := prog_13_method_51_code
def yX11_come : MethodName := ⟨RX11, "come", "(II)I"⟩
abbrev cX11_said : ByteArray := prog_13_method_52_code
def yX11_said : MethodName := ⟨RX11, "said", "(II)I"⟩
abbrev cX11_say : ByteArray := prog_13_method_53_code
def yX11_say : MethodName := ⟨RX11, "say", "(II)I"⟩
abbrev cX11_places : ByteArray := prog_13_method_54_code
def yX11_places : MethodName := ⟨RX11, "places", "()I"⟩
abbrev cX11_beginAt : ByteArray := prog_13_method_55_code
def yX11_beginAt : MethodName := ⟨RX11, "beginAt", "(I)V"⟩
abbrev cX11_goOn : ByteArray := prog_13_method_56_code
def yX11_goOn : MethodName := ⟨RX11, "goOn", "()V"⟩
abbrev cX11_canSpeak : ByteArray := prog_13_method_57_code
def yX11_canSpeak : MethodName := ⟨RX11, "canSpeak", "(III)Z"⟩
abbrev cX11_soonestOf : ByteArray := prog_13_method_58_code
def yX11_soonestOf : MethodName := ⟨RX11, "soonestOf", "(II)I"⟩
abbrev cX11_leadsBy : ByteArray := prog_13_method_59_code
def yX11_leadsBy : MethodName := ⟨RX11, "leadsBy", "(IIII)Z"⟩
abbrev cX11_soonest : ByteArray := prog_13_method_60_code
def yX11_soonest : MethodName := ⟨RX11, "soonest", "(III)I"⟩
abbrev cX11_goOnCheap : ByteArray := prog_13_method_61_code
def yX11_goOnCheap : MethodName := ⟨RX11, "goOnCheap", "()V"⟩
abbrev cX11_cheapest : ByteArray := prog_13_method_62_code
def yX11_cheapest : MethodName := ⟨RX11, "cheapest", "(III)I"⟩
abbrev cX11_never : ByteArray := prog_13_method_63_code
def yX11_never : MethodName := ⟨RX11, "never", "(I)I"⟩
abbrev cX11_spread : ByteArray := prog_13_method_64_code
def yX11_spread : MethodName := ⟨RX11, "spread", "(III)I"⟩
abbrev cX11_goOnKnown : ByteArray := prog_13_method_65_code
def yX11_goOnKnown : MethodName := ⟨RX11, "goOnKnown", "(I)V"⟩
abbrev cX11_fewestBy : ByteArray := prog_13_method_66_code
def yX11_fewestBy : MethodName := ⟨RX11, "fewestBy", "(III)I"⟩
abbrev cX11_heard : ByteArray := prog_13_method_67_code
def yX11_heard : MethodName := ⟨RX11, "heard", "(I)I"⟩
abbrev cX11_secret : ByteArray := prog_13_method_68_code
def yX11_secret : MethodName := ⟨RX11, "secret", "(III)I"⟩
abbrev cX11_isWon : ByteArray := prog_13_method_69_code
def yX11_isWon : MethodName := ⟨RX11, "isWon", "(IIII)Z"⟩
abbrev cX11_mayTurn : ByteArray := prog_13_method_70_code
def yX11_mayTurn : MethodName := ⟨RX11, "mayTurn", "(II)Z"⟩
abbrev cX11_behindTurn : ByteArray := prog_13_method_71_code
def yX11_behindTurn : MethodName := ⟨RX11, "behindTurn", "(II)I"⟩
abbrev cX11_turns : ByteArray := prog_13_method_72_code
def yX11_turns : MethodName := ⟨RX11, "turns", "()I"⟩
abbrev cX11_winsThird : ByteArray := prog_13_method_73_code
def yX11_winsThird : MethodName := ⟨RX11, "winsThird", "(IIIIZ)Z"⟩
abbrev cX11_winsSecond : ByteArray := prog_13_method_74_code
def yX11_winsSecond : MethodName := ⟨RX11, "winsSecond", "(IIIII)Z"⟩
abbrev cX11_game : ByteArray := prog_13_method_75_code
def yX11_game : MethodName := ⟨RX11, "game", "(III)I"⟩
abbrev cX11_votes : ByteArray := prog_13_method_76_code
def yX11_votes : MethodName := ⟨RX11, "votes", "(II)I"⟩
abbrev cX11_spoken : ByteArray := prog_13_method_77_code
def yX11_spoken : MethodName := ⟨RX11, "spoken", "(II)I"⟩
abbrev cX11_layOrder : ByteArray := prog_13_method_78_code
def yX11_layOrder : MethodName := ⟨RX11, "layOrder", "(I)Z"⟩
abbrev cX11_goesWithRows : ByteArray := prog_13_method_79_code
def yX11_goesWithRows : MethodName := ⟨RX11, "goesWithRows", "()Z"⟩
abbrev cX11_fits : ByteArray := prog_13_method_80_code
def yX11_fits : MethodName := ⟨RX11, "fits", "()I"⟩
abbrev cX11_divisor : ByteArray := prog_13_method_81_code
def yX11_divisor : MethodName := ⟨RX11, "divisor", "(JJ)J"⟩
abbrev cX11_waysFrom : ByteArray := prog_13_method_82_code
def yX11_waysFrom : MethodName := ⟨RX11, "waysFrom", "(I)I"⟩
abbrev cX11_speaksBehind : ByteArray := prog_13_method_83_code
def yX11_speaksBehind : MethodName := ⟨RX11, "speaksBehind", "(III)I"⟩
abbrev cX11_addLot : ByteArray := prog_13_method_84_code
def yX11_addLot : MethodName := ⟨RX11, "addLot", "(JJ)V"⟩
abbrev cX11_addFrom : ByteArray := prog_13_method_85_code
def yX11_addFrom : MethodName := ⟨RX11, "addFrom", "(IIII)V"⟩
abbrev cX11_layLot : ByteArray := prog_13_method_86_code
def yX11_layLot : MethodName := ⟨RX11, "layLot", "(II)V"⟩
abbrev cX11_lot : ByteArray := prog_13_method_87_code
def yX11_lot : MethodName := ⟨RX11, "lot", "(III)J"⟩
abbrev cX11_book : ByteArray := prog_13_method_88_code
def yX11_book : MethodName := ⟨RX11, "book", "(I)I"⟩
abbrev cX11_readBook : ByteArray := prog_13_method_89_code
def yX11_readBook : MethodName := ⟨RX11, "readBook", "()I"⟩
abbrev cX11_judge : ByteArray := prog_13_method_90_code
def yX11_judge : MethodName := ⟨RX11, "judge", "(II)I"⟩
abbrev cX11_image : ByteArray := prog_13_method_91_code
def yX11_image : MethodName := ⟨RX11, "image", "()I"⟩
abbrev cX11_undo : ByteArray := prog_13_method_92_code
def yX11_undo : MethodName := ⟨RX11, "undo", "()I"⟩
abbrev cX11_body : ByteArray := prog_13_method_93_code
def yX11_body : MethodName := ⟨RX11, "body", "(I)V"⟩
abbrev cX11_roomHears : ByteArray := prog_13_method_94_code
def yX11_roomHears : MethodName := ⟨RX11, "roomHears", "(II)I"⟩
abbrev cX11_hearsAct : ByteArray := prog_13_method_95_code
def yX11_hearsAct : MethodName := ⟨RX11, "hearsAct", "(II)I"⟩
abbrev cX11_roomSpeaks : ByteArray := prog_13_method_96_code
def yX11_roomSpeaks : MethodName := ⟨RX11, "roomSpeaks", "(II)I"⟩
abbrev cX11_lowerSpeaks : ByteArray := prog_13_method_97_code
def yX11_lowerSpeaks : MethodName := ⟨RX11, "lowerSpeaks", "(II)I"⟩
abbrev cX11_speaksAct : ByteArray := prog_13_method_98_code
def yX11_speaksAct : MethodName := ⟨RX11, "speaksAct", "(II)I"⟩
abbrev cX11_roomTells : ByteArray := prog_13_method_99_code
def yX11_roomTells : MethodName := ⟨RX11, "roomTells", "(II)I"⟩
abbrev cX11_tellsAct : ByteArray := prog_13_method_100_code
def yX11_tellsAct : MethodName := ⟨RX11, "tellsAct", "(II)I"⟩
abbrev cX11_act : ByteArray := prog_13_method_101_code
def yX11_act : MethodName := ⟨RX11, "act", "(III)I"⟩
abbrev cX11_trace : ByteArray := prog_13_method_102_code
def yX11_trace : MethodName := ⟨RX11, "trace", "(I)I"⟩
abbrev cX11_taken : ByteArray := prog_13_method_103_code
def yX11_taken : MethodName := ⟨RX11, "taken", "(II)I"⟩
abbrev cX11_count : ByteArray := prog_13_method_104_code
def yX11_count : MethodName := ⟨RX11, "count", "(I)I"⟩
abbrev cX11_isTape : ByteArray := prog_13_method_105_code
def yX11_isTape : MethodName := ⟨RX11, "isTape", "(I)Z"⟩
abbrev cX11_tape : ByteArray := prog_13_method_106_code
def yX11_tape : MethodName := ⟨RX11, "tape", "(III)I"⟩
abbrev cX11_narrow : ByteArray := prog_13_method_107_code
def yX11_narrow : MethodName := ⟨RX11, "narrow", "(IJ)J"⟩
abbrev cX11_item : ByteArray := prog_13_method_108_code
def yX11_item : MethodName := ⟨RX11, "item", "(IIJ)I"⟩
abbrev cX11_read : ByteArray := prog_13_method_109_code
def yX11_read : MethodName := ⟨RX11, "read", "(II)J"⟩
abbrev cX11_shift : ByteArray := prog_13_method_110_code
def yX11_shift : MethodName := ⟨RX11, "shift", "(IIIII)I"⟩
def RJx145de : String := "java/io/Serializable"
def RJx9f9b0 : String := "java/lang/CharSequence"
def RJ11 : String := "java/lang/Character"
abbrev cJ11_isValidCodePoint_9a6ad : ByteArray := prog_14_method_11_code
def yJ11_isValidCodePoint_9a6ad : MethodName := ⟨RJ11, "isValidCodePoint", "(I)Z"⟩
abbrev cJ11_highSurrogate_5068e : ByteArray := prog_14_method_28_code
def yJ11_highSurrogate_5068e : MethodName := ⟨RJ11, "highSurrogate", "(I)C"⟩
abbrev cJ11_lowSurrogate_5068e : ByteArray := prog_14_method_29_code
def yJ11_lowSurrogate_5068e : MethodName := ⟨RJ11, "lowSurrogate", "(I)C"⟩
def RJxb160c : String := "java/lang/Comparable"
def RJ6 : String := "java/lang/Integer"
abbrev cJ6_bitCount_0f7a4 : ByteArray := prog_15_method_49_code
def yJ6_bitCount_0f7a4 : MethodName := ⟨RJ6, "bitCount", "(I)I"⟩
def RJ9 : String := "java/lang/Math"
abbrev cJ9_max_7cf53 : ByteArray := prog_16_method_65_code
def yJ9_max_7cf53 : MethodName := ⟨RJ9, "max", "(II)I"⟩
abbrev cJ9_min_7cf53 : ByteArray := prog_16_method_69_code
def yJ9_min_7cf53 : MethodName := ⟨RJ9, "min", "(II)I"⟩
def RJ0 : String := "java/lang/String"
abbrev cJ0_length_8abf5 : ByteArray := prog_17_method_54_code
def yJ0_length_8abf5 : MethodName := ⟨RJ0, "length", "()I"⟩
abbrev cJ0_charAt_5068e : ByteArray := prog_17_method_56_code
def yJ0_charAt_5068e : MethodName := ⟨RJ0, "charAt", "(I)C"⟩
abbrev cJ0_indexOf_0f7a4 : ByteArray := prog_17_method_79_code
def yJ0_indexOf_0f7a4 : MethodName := ⟨RJ0, "indexOf", "(I)I"⟩
abbrev cJ0_indexOf_7cf53 : ByteArray := prog_17_method_80_code
def yJ0_indexOf_7cf53 : MethodName := ⟨RJ0, "indexOf", "(II)I"⟩
abbrev cJ0_coder_7d493 : ByteArray := prog_17_method_152_code
def yJ0_coder_7d493 : MethodName := ⟨RJ0, "coder", "()B"⟩
abbrev cJ0_isLatin1_aae02 : ByteArray := prog_17_method_154_code
def yJ0_isLatin1_aae02 : MethodName := ⟨RJ0, "isLatin1", "()Z"⟩
abbrev cJ0_checkIndex_df160 : ByteArray := prog_17_method_155_code
def yJ0_checkIndex_df160 : MethodName := ⟨RJ0, "checkIndex", "(II)V"⟩
abbrev cJ0_checkBoundsBeginEnd_23922 : ByteArray := prog_17_method_158_code
def yJ0_checkBoundsBeginEnd_23922 : MethodName := ⟨RJ0, "checkBoundsBeginEnd", "(III)V"⟩
def RJ1 : String := "java/lang/StringLatin1"
abbrev cJ1_charAt_3b067 : ByteArray := prog_18_method_2_code
def yJ1_charAt_3b067 : MethodName := ⟨RJ1, "charAt", "([BI)C"⟩
abbrev cJ1_canEncode_9a6ad : ByteArray := prog_18_method_4_code
def yJ1_canEncode_9a6ad : MethodName := ⟨RJ1, "canEncode", "(I)Z"⟩
abbrev cJ1_indexOf_4cfef : ByteArray := prog_18_method_22_code
def yJ1_indexOf_4cfef : MethodName := ⟨RJ1, "indexOf", "([BIII)I"⟩
abbrev cJ1_indexOfChar_4cfef : ByteArray := prog_18_method_23_code
def yJ1_indexOfChar_4cfef : MethodName := ⟨RJ1, "indexOfChar", "([BIII)I"⟩
def RJ2 : String := "java/lang/StringUTF16"
abbrev cJ2_getChar_3b067 : ByteArray := prog_19_method_5_code
def yJ2_getChar_3b067 : MethodName := ⟨RJ2, "getChar", "([BI)C"⟩
abbrev cJ2_length_9d52b : ByteArray := prog_19_method_6_code
def yJ2_length_9d52b : MethodName := ⟨RJ2, "length", "([B)I"⟩
abbrev cJ2_indexOf_4cfef : ByteArray := prog_19_method_40_code
def yJ2_indexOf_4cfef : MethodName := ⟨RJ2, "indexOf", "([BIII)I"⟩
abbrev cJ2_indexOfChar_4cfef : ByteArray := prog_19_method_47_code
def yJ2_indexOfChar_4cfef : MethodName := ⟨RJ2, "indexOfChar", "([BIII)I"⟩
abbrev cJ2_indexOfCharUnsafe_4cfef : ByteArray := prog_19_method_48_code
def yJ2_indexOfCharUnsafe_4cfef : MethodName := ⟨RJ2, "indexOfCharUnsafe", "([BIII)I"⟩
abbrev cJ2_indexOfSupplementary_4cfef : ByteArray := prog_19_method_49_code
def yJ2_indexOfSupplementary_4cfef : MethodName := ⟨RJ2, "indexOfSupplementary", "([BIII)I"⟩
abbrev cJ2_charAt_3b067 : ByteArray := prog_19_method_83_code
def yJ2_charAt_3b067 : MethodName := ⟨RJ2, "charAt", "([BI)C"⟩
abbrev cJ2_checkIndex_2214a : ByteArray := prog_19_method_91_code
def yJ2_checkIndex_2214a : MethodName := ⟨RJ2, "checkIndex", "(I[B)V"⟩
abbrev cJ2_checkBoundsBeginEnd_d044e : ByteArray := prog_19_method_93_code
def yJ2_checkBoundsBeginEnd_d044e : MethodName := ⟨RJ2, "checkBoundsBeginEnd", "(II[B)V"⟩
def RJ10 : String := "java/lang/System"
def RJxfd54e : String := "java/lang/constant/Constable"
def RJx3cf43 : String := "java/lang/constant/ConstantDesc"
def RJ7 : String := "java/util/Arrays"
abbrev cJ7_fill_d0a16 : ByteArray := prog_21_method_101_code
def yJ7_fill_d0a16 : MethodName := ⟨RJ7, "fill", "([JJ)V"⟩
abbrev cJ7_fill_53178 : ByteArray := prog_21_method_103_code
def yJ7_fill_53178 : MethodName := ⟨RJ7, "fill", "([II)V"⟩
def RJ3 : String := "jdk/internal/util/Preconditions"
abbrev cJ3_checkIndex_8e157 : ByteArray := prog_22_method_11_code
def yJ3_checkIndex_8e157 : MethodName := ⟨RJ3, "checkIndex", "(IILjava/util/function/BiFunction;)I"⟩
abbrev cJ3_checkFromToIndex_8c36e : ByteArray := prog_22_method_12_code
def yJ3_checkFromToIndex_8c36e : MethodName := ⟨RJ3, "checkFromToIndex", "(IIILjava/util/function/BiFunction;)I"⟩
def RL : String := "MiddleSpeaksLaw"
abbrev cL_law : ByteArray := code
def yL_law : MethodName := ⟨RL, "law", "([I)Z"⟩
abbrev vwCl : List vw_C := [(RX0, TX0, 5), (RX1, TX1, 7), (RX2, TX2, 7), (RX3, TX3, 4), (RX4, TX4, 2), (RX5, TX5, 15), (RX6, TX6, 7), (RX7, TX7, 3), (RX8, TX8, 1), (RX9, TX9, 8), (RX10, TX10, 16), (RX11, TX11, 67)]
end
section

abbrev zq_M : Type := (Nat → Nat → Int32) × (Nat → Nat → Int64) × (Nat → Nat → Option Nat)
abbrev zq_S : Type := (Nat × List Nat) ⊕ (Nat × Nat)
abbrev zq_H : Type := Nat → Option zq_S
abbrev zq_W : Type := zq_H × Nat × zq_M
abbrev zq_G : Type := Launch × va_G × Nat × (Nat → ClassId) × Nat × Nat × (Nat → Nat) × (Nat → Nat)
abbrev zq_Y : Type := MethodName × ByteArray × Nat × Option FieldType
abbrev zq_L : Type := Nat × Nat × Nat
def zq_ad (G : zq_G) (c : Nat) : Nat := G.2.2.1 + c
def zq_aC (G : zq_G) (k : Nat) : ClassId := G.2.2.2.1 k
def zq_up {α : Type} (f : Nat → Nat → α) (c k : Nat) (v : α) : Nat → Nat → α := fun c' k' => if c' = c ∧ k' = k then v else f c' k'
def zq_u1 (X : zq_M) (c k : Nat) (v : Int32) : zq_M := (zq_up X.1 c k v, X.2.1, X.2.2)
def zq_u2 (X : zq_M) (c k : Nat) (v : Int64) : zq_M := (X.1, zq_up X.2.1 c k v, X.2.2)
def zq_u3 (X : zq_M) (c k : Nat) (v : Option Nat) : zq_M := (X.1, X.2.1, zq_up X.2.2 c k v)
def zq_z (X : zq_M) (c : Nat) : zq_M := (fun c' k => if c' = c then 0 else X.1 c' k, fun c' k => if c' = c then 0 else X.2.1 c' k, fun c' k => if c' = c then none else X.2.2 c' k)
def zq_us (sh : zq_H) (c : Nat) (s : zq_S) : zq_H := fun c' => if c' = c then some s else sh c'
def zq_fv (G : zq_G) (f1 : Nat → Int32) (f2 : Nat → Int64) (f3 : Nat → Option Nat) (k kd : Nat) : Value := match kd with
  | 0 => .int (f1 k)
  | 1 => .long (f2 k)
  | 2 => va_rf ((f3 k).map (zq_ad G))
  | 3 => .null
  | j + 4 => .ref (zq_ad G j)
def zq_fs (G : zq_G) (f1 : Nat → Int32) (f2 : Nat → Int64) (f3 : Nat → Option Nat) (ks : List Nat) : List Value := ks.mapIdx (fun k kd => zq_fv G f1 f2 f3 k kd)
def zq_ar (G : zq_G) (f1 : Nat → Int32) (f2 : Nat → Int64) (f3 : Nat → Option Nat) (kd n : Nat) : vp_A := match kd with
  | 0 => (n, .inl f1)
  | 1 => (n, .inl f1)
  | 2 => (n, .inr (.inl f2))
  | _ => (n, .inr (.inr (.inr (.inr (fun j => (f3 j).map (zq_ad G))))))
def zq_cel (G : zq_G) (f1 : Nat → Int32) (f2 : Nat → Int64) (f3 : Nat → Option Nat) (s : zq_S) : va_E := match s with
  | .inl (ci, ks) => .inr (ci, zq_fs G f1 f2 f3 ks)
  | .inr (kd, n) => .inl (zq_aC G kd, zq_ar G f1 f2 f3 kd n)
def zq_cell (G : zq_G) (X : zq_M) (c : Nat) (s : zq_S) : va_E := zq_cel G (X.1 c) (X.2.1 c) (X.2.2 c) s
def zq_P (G : zq_G) (sh : zq_H) (X : zq_M) (H : Heap) : Prop := ∀ (c : Nat) (s : zq_S), sh c = some s → va_at G.2.1 vwCl (zq_ad G c, zq_cell G X c s) H
def zq_ty (G : zq_G) : List (ClassId × FieldType) := [(zq_aC G 0, .int), (zq_aC G 1, .boolean), (zq_aC G 2, .long), (zq_aC G 3, .object "MiddleSpeaks$House"), (zq_aC G 4, .object "MiddleSpeaks$Tape")]
def zq_T : List Cond := lw_tbl.filter goodWord
theorem zq_mem {w : Cond} (i : Nat) (h : lw_tbl[i]? = some w) (hg : goodWord w = true) : w ∈ zq_T := List.mem_filter.mpr ⟨List.mem_of_getElem? h, hg⟩
def zq_above : List Int32 := [-1, 0, 0, 0, 1, 2, 3]
def zq_own : List Int32 := [10, 11, 12, 0, 20, 0, 30, 0, 0, 0, 0, 40, 50, 51, 0, 0, 0, 60, 71, 70, 0]
def zq_len : List Nat := [5, 3, 5, 4, 10, 6, 3]
def zq_byt : List (List Int32) := [[112, 114, 105, 99, 101], [98, 97, 114], [119, 111, 114, 116, 104], [115, 97, 109, 101], [48, 49, 50, 51, 52, 53, 54, 55, 56, 57], [112, 114, 97, 110, 107, 116], [60, 61, 62]]
def zq_sr : List (Nat × String × Nat) := [(57, "price", 0), (63, "bar", 1), (65, "worth", 2), (67, "same", 3), (94, "0123456789", 4), (82, "prankt", 5), (88, "<=>", 6)]
def zq_nM : List (String × Nat × MethodName × String) := [(RX10, 11, yX5_init, RX10), (RX10, 31, yX2_init, RX10), (RX10, 38, yX3_init, RX10), (RX3, 17, yX2_init, RX10), (RX10, 86, yX0_init, RX10), (RX10, 97, yX7_init, RX10), (RX6, 89, yX10_isRoom, RX10), (RX6, 136, yX10_isFromTo, RX10), (RX0, 25, yX10_isFromTo, RX10)]
def zq_E (G : zq_G) (A : Nat → Prop) (s : State) (H : Heap) : Prop :=
  (∀ q ∈ zq_nM, va_Nw (.methodLinkNest q.1 q.2.1 q.2.2.1 q.2.2.2) s) ∧ va_Nw (.fieldLinkNest "MiddleSpeaks$Acts" 45 "MiddleSpeaks" "ABOVE" "[I" "MiddleSpeaks") s ∧ va_AO "MiddleSpeaks$House" s ∧ va_AO "MiddleSpeaks$Tape" s ∧
  (∀ q ∈ zq_sr, vk_R "MiddleSpeaks$HouseReader" q.1 q.2.1 (G.2.2.2.2.2.2.1 q.2.2) s) ∧
  va_Z "MiddleSpeaks" "ABOVE" "[I" (.ref G.2.2.2.2.1) A s H ∧ va_T .int G.2.2.2.2.1 7 (fun j => .int (zq_above.getD j 0)) A s H ∧
  va_Z "MiddleSpeaks$Acts" "OWN" "[I" (.ref G.2.2.2.2.2.1) A s H ∧ va_T .int G.2.2.2.2.2.1 21 (fun j => .int (zq_own.getD j 0)) A s H ∧
  va_Z "java/lang/String" "COMPACT_STRINGS" "Z" (.int 1) A s H ∧ vk_S 7 zq_len zq_byt G.2.2.2.2.2.2.1 G.2.2.2.2.2.2.2 A s H
theorem zq_E.same {G : zq_G} {A : Nat → Prop} {s U : State} {H : Heap} (hv : s.vm = U.vm) (h : zq_E G A s H) : zq_E G A U H := by
  have hA : s.vm.Alike U.vm := by rw [hv]; exact Vm.Alike.refl _
  obtain ⟨h1, h2, h3, h4, h5, h6, h7, h8, h9, h10, h11⟩ := h
  exact ⟨fun q hq => va_Nw.same rfl hv (h1 q hq), va_Nw.same rfl hv h2, va_AO.moved hA h3, va_AO.moved hA h4, fun q hq => vk_R.same hv.symm (h5 q hq), h6.moved hA, h7.moved hA, h8.moved hA, h9.moved hA, h10.moved hA, h11.moved hA⟩
theorem zq_E.go {G : zq_G} {A A0 : Nat → Prop} {s U : State} {H H1 : Heap} (hW : s.WarmedH U.vm) (hq : ∀ a : Nat, a < H.size → ¬ A a → H1[a]? = H[a]?) (hAB : ∀ q, A0 q → A q) (h : zq_E G A s H) : zq_E G A0 U H1 := by
  have hA : s.vm.Alike U.vm := hW.alike
  obtain ⟨h1, h2, h3, h4, h5, h6, h7, h8, h9, h10, h11⟩ := h
  exact ⟨fun q hq => va_Nw.warmM hW (h1 q hq), va_Nw.warmF hW h2, va_AO.moved hA h3, va_AO.moved hA h4, fun q hq => vk_R.warm hW (h5 q hq), ((h6.moved hA).kept hq).narrow hAB, ((h7.moved hA).kept hq).narrow hAB, ((h8.moved hA).kept hq).narrow hAB, ((h9.moved hA).kept hq).narrow hAB, ((h10.moved hA).kept hq).narrow hAB, ((h11.moved hA).kept hq).narrow hAB⟩
def zq_C (G : zq_G) (Y : zq_Y) (p : Program) (s : State) (m : MethodId) (args : Array Value) (meth : Method) (c : Code) (A : Nat → Prop) : Prop :=
  p.tables.exec = Jvm.exec ∧ c.code = Y.2.1 ∧ meth.sig.returnType = Y.2.2.2 ∧ c.maxLocals = Y.2.2.1 ∧ s.vm.findClass Y.1.cls = some m.cls ∧ (∀ w ∈ zq_T, w.before args s = true) ∧ meth.locks = false ∧ meth.name = Y.1.name ∧ va_K G.2.1 vwCl (zq_ty G) s ∧ zq_E G A s s.heap ∧ (∀ q, s.heap.size ≤ q → A q)
def zq_R (lv : zq_L) : Room := { frames := lv.1, cells := lv.2.1, slots := lv.2.2, locals := 60 * lv.1 }
def zq_Q (G : zq_G) (A : Nat → Prop) (v : Option Value × zq_W) : Array Value → State → Outcome → State → Prop := fun _ st oc t => oc = .returned v.1 ∧ t.heap.size = v.2.2.1 ∧ zq_P G v.2.1 v.2.2.2 t.heap ∧ (∀ c s, v.2.1 c = some s → A (zq_ad G c)) ∧ va_F A st t
def zq_V {ρ : Type} (G : zq_G) (Y : zq_Y) (lv : zq_L) (enc : ρ → Option Value × zq_W) (kc kn pc : Nat) (lo : List (Nat × Value)) (st : List Value) (sh : zq_H) (z : Nat) (X : zq_M) (o : Option ρ) : Prop :=
  ∀ r : ρ, o = some r → ∀ (p : Program) (e : Env) (s : State) (m : MethodId) (args : Array Value) (below : List Frame) (meth : Method) (c : Code) (A : Nat → Prop) (H : Heap) (locs : List Loc) (ls : Array Slot), zq_C G Y p s m args meth c A → H.size = z → va_S A s.heap H locs → (∀ c s, sh c = some s → A (zq_ad G c)) → zq_P G sh X H → lv_has ls Y.2.2.1 lo →
    W p G.1 e (zq_R lv) s m args below meth c H locs kc kn (MQ below (zq_Q G A (enc r)) args s lv.2.1 lv.2.2 A) (F0 m pc ls st)
def zq_b {α β : Type} (a : α) (f : α → β) : β := f a
def zq_ck {ρ : Type} (i : Int32) (n : Nat) (o : Option ρ) : Option ρ := if i < 0 ∨ n ≤ i.toNatClampNeg then none else o
def zq_ix (i : Int32) : Nat := i.toNatClampNeg
def zq_dv {ρ : Type} (y : Int32) (o : Option ρ) : Option ρ := if y = 0 then none else o
def zq_dw {ρ : Type} (y : Int64) (o : Option ρ) : Option ρ := if y = 0 then none else o
def zq_gd {ρ : Type} (b : Bool) (o : Option ρ) : Option ρ := if b = true then o else none
def zq_nn {ρ : Type} (r : Option Nat) (b : Nat → Bool) (f : Nat → Option ρ) : Option ρ := match r with
  | none => none
  | some h => if b h = true then f h else none
def zq_irem (x y : Int32) : Int32 := x - x / y * y
def zq_lrem (x y : Int64) : Int64 := x - x / y * y
def zq_shl (x y : Int32) : Int32 := x <<< (y &&& 31)
def zq_shr (x y : Int32) : Int32 := x >>> (y &&& 31)
def zq_ushr (x y : Int32) : Int32 := (x.toUInt32 >>> (y.toUInt32 &&& Int32.toUInt32 31)).toInt32
def zq_lshl (x : Int64) (y : Int32) : Int64 := x <<< (y.toInt64 &&& 63)
def zq_st (i : Nat) (lo : List (Nat × Value)) : List (Nat × Value) := lo.filter (fun q => !(q.1 == i) && !(q.1 + 1 == i && q.2.category == 2))
def zq_st2 (i : Nat) (lo : List (Nat × Value)) : List (Nat × Value) := lo.filter (fun q => !(q.1 == i) && (!(q.1 == i + 1) && !(q.1 + 1 == i && q.2.category == 2)))
def zq_ei (sh : zq_H) (z : Nat) (X : zq_M) (r : Int32) : Option Value × zq_W := (some (.int r), sh, z, X)
def zq_si (sh : zq_H) (z : Nat) (q : Int32 × zq_M) : Option Value × zq_W := (some (.int q.1), sh, z, q.2)
def zq_el (sh : zq_H) (z : Nat) (X : zq_M) (r : Int64) : Option Value × zq_W := (some (.long r), sh, z, X)
def zq_sl (sh : zq_H) (z : Nat) (q : Int64 × zq_M) : Option Value × zq_W := (some (.long q.1), sh, z, q.2)
def zq_sv (sh : zq_H) (z : Nat) (X : zq_M) : Option Value × zq_W := (none, sh, z, X)
def zq_er (G : zq_G) (sh : zq_H) (z : Nat) (X : zq_M) (r : Nat) : Option Value × zq_W := (some (.ref (zq_ad G r)), sh, z, X)
def zq_kd (sh : zq_H) (c k : Nat) : Option (Nat × Nat) := match sh c with
  | some (.inl (ci, ks)) => (ks[k]?).map (fun kd => (ci, kd))
  | _ => none
def zq_FL (own : String) (idx ci k : Nat) : Prop := ∃ q : vw_C, vwCl[ci]? = some q ∧ k < q.2.2 ∧ Cond.fieldLink own idx (q.2.1 k).1 (q.2.1 k).2.1 (q.2.1 k).2.2.1 ∈ zq_T
def zq_gz {ρ : Type} (v : Int32) (o : Option ρ) : Option ρ := if v = 0 ∨ v = 1 then o else none
def zq_dec (tab : List (Nat × Instr × Nat)) (cc : ByteArray) : Prop := ∀ q ∈ tab, decode cc q.1 = .ok q.2
theorem zq_d {tab : List (Nat × Instr × Nat)} {cc : ByteArray} (h : zq_dec tab cc) {pc : Nat} {x : Instr × Nat} (k : Nat) (hk : tab[k]? = some (pc, x)) : decode cc pc = .ok x := h (pc, x) (List.mem_of_getElem? hk)

section
variable {ρ : Type} {G : zq_G} {Y : zq_Y} {lv : zq_L} {enc : ρ → Option Value × zq_W} {kc kn pc : Nat} {lo : List (Nat × Value)} {st : List Value} {sh : zq_H} {z : Nat} {X : zq_M} {o : Option ρ}
theorem zr_none {pc : Nat} : zq_V G Y lv enc kc kn (pc) lo (st) sh z X none := fun r h => by cases h
theorem zr_iconst {n : Int} {v : Int32} (hd : decode Y.2.1 pc = .ok (.iconst n, 1)) (hv : Int32.ofInt n = v) (K : zq_V G Y lv enc kc kn (pc + 1) lo (.int v :: st) sh z X o) : zq_V G Y lv enc kc kn (pc) lo (st) sh z X o := by
  intro r hr p e s m args below meth c A H locs ls C hz hS hA hP hl
  exact lv_iconst C.1 C.2.1 hd hv (K r hr p e s m args below meth c A H locs ls C hz hS hA hP hl)
theorem zr_bipush {n : Int} {v : Int32} (hd : decode Y.2.1 pc = .ok (.bipush n, 2)) (hv : (Int8.ofInt n).toInt32 = v) (K : zq_V G Y lv enc kc kn (pc + 2) lo (.int v :: st) sh z X o) : zq_V G Y lv enc kc kn (pc) lo (st) sh z X o := by
  intro r hr p e s m args below meth c A H locs ls C hz hS hA hP hl
  exact lv_bipush C.1 C.2.1 hd hv (K r hr p e s m args below meth c A H locs ls C hz hS hA hP hl)
theorem zr_sipush {n : Int} {v : Int32} (hd : decode Y.2.1 pc = .ok (.sipush n, 3)) (hv : (Int16.ofInt n).toInt32 = v) (K : zq_V G Y lv enc kc kn (pc + 3) lo (.int v :: st) sh z X o) : zq_V G Y lv enc kc kn (pc) lo (st) sh z X o := by
  intro r hr p e s m args below meth c A H locs ls C hz hS hA hP hl
  exact lv_sipush C.1 C.2.1 hd hv (K r hr p e s m args below meth c A H locs ls C hz hS hA hP hl)
theorem zr_lconst {n : Fin 2} {v : Int64} (hd : decode Y.2.1 pc = .ok (.lconst n, 1)) (hv : Int64.ofNat (n : Nat) = v) (K : zq_V G Y lv enc kc kn (pc + 1) lo (.long v :: st) sh z X o) : zq_V G Y lv enc kc kn (pc) lo (st) sh z X o := by
  intro r hr p e s m args below meth c A H locs ls C hz hS hA hP hl
  exact lv_lconst C.1 C.2.1 hd hv (K r hr p e s m args below meth c A H locs ls C hz hS hA hP hl)
theorem zr_iload_n {k : Fin 4} {x : Int32} (hd : decode Y.2.1 pc = .ok (.iload_n k, 1)) (j : Nat) {i : Nat} (hi : (k : Nat) = i) (hj : lo[j]? = some (i, .int x)) (K : zq_V G Y lv enc kc kn (pc + 1) lo (.int x :: st) sh z X o) : zq_V G Y lv enc kc kn (pc) lo (st) sh z X o := by
  intro r hr p e s m args below meth c A H locs ls C hz hS hA hP hl
  exact lv_iload_n C.1 C.2.1 hd hi (lv_at hl j hj) (K r hr p e s m args below meth c A H locs ls C hz hS hA hP hl)
theorem zr_iload {i : Nat} {x : Int32} (hd : decode Y.2.1 pc = .ok (.iload i, 2)) (j : Nat) (hj : lo[j]? = some (i, .int x)) (K : zq_V G Y lv enc kc kn (pc + 2) lo (.int x :: st) sh z X o) : zq_V G Y lv enc kc kn (pc) lo (st) sh z X o := by
  intro r hr p e s m args below meth c A H locs ls C hz hS hA hP hl
  exact lv_iload C.1 C.2.1 hd (lv_at hl j hj) (K r hr p e s m args below meth c A H locs ls C hz hS hA hP hl)
theorem zr_lload_n {k : Fin 4} {x : Int64} (hd : decode Y.2.1 pc = .ok (.lload_n k, 1)) (j : Nat) {i : Nat} (hi : (k : Nat) = i) (hj : lo[j]? = some (i, .long x)) (K : zq_V G Y lv enc kc kn (pc + 1) lo (.long x :: st) sh z X o) : zq_V G Y lv enc kc kn (pc) lo (st) sh z X o := by
  intro r hr p e s m args below meth c A H locs ls C hz hS hA hP hl
  exact lv_lload_n C.1 C.2.1 hd hi (lv_at hl j hj) (K r hr p e s m args below meth c A H locs ls C hz hS hA hP hl)
theorem zr_lload {i : Nat} {x : Int64} (hd : decode Y.2.1 pc = .ok (.lload i, 2)) (j : Nat) (hj : lo[j]? = some (i, .long x)) (K : zq_V G Y lv enc kc kn (pc + 2) lo (.long x :: st) sh z X o) : zq_V G Y lv enc kc kn (pc) lo (st) sh z X o := by
  intro r hr p e s m args below meth c A H locs ls C hz hS hA hP hl
  exact lv_lload C.1 C.2.1 hd (lv_at hl j hj) (K r hr p e s m args below meth c A H locs ls C hz hS hA hP hl)
theorem zr_aload_n {k : Fin 4} {x : Nat} (hd : decode Y.2.1 pc = .ok (.aload_n k, 1)) (j : Nat) {i : Nat} (hi : (k : Nat) = i) (hj : lo[j]? = some (i, .ref x)) (K : zq_V G Y lv enc kc kn (pc + 1) lo (.ref x :: st) sh z X o) : zq_V G Y lv enc kc kn (pc) lo (st) sh z X o := by
  intro r hr p e s m args below meth c A H locs ls C hz hS hA hP hl
  exact lv_aload_n C.1 C.2.1 hd hi (lv_at hl j hj) (K r hr p e s m args below meth c A H locs ls C hz hS hA hP hl)
theorem zr_aload {i : Nat} {x : Nat} (hd : decode Y.2.1 pc = .ok (.aload i, 2)) (j : Nat) (hj : lo[j]? = some (i, .ref x)) (K : zq_V G Y lv enc kc kn (pc + 2) lo (.ref x :: st) sh z X o) : zq_V G Y lv enc kc kn (pc) lo (st) sh z X o := by
  intro r hr p e s m args below meth c A H locs ls C hz hS hA hP hl
  exact lv_aload C.1 C.2.1 hd (lv_at hl j hj) (K r hr p e s m args below meth c A H locs ls C hz hS hA hP hl)
theorem zr_istore_n {k : Fin 4} {i : Nat} {x : Int32} {lo2 : List (Nat × Value)} (hd : decode Y.2.1 pc = .ok (.istore_n k, 1)) (hi : (k : Nat) = i) (hn : i < Y.2.2.1) (h2 : (i, .int x) :: zq_st i lo = lo2) (K : zq_V G Y lv enc kc kn (pc + 1) lo2 (st) sh z X o) : zq_V G Y lv enc kc kn (pc) lo (.int x :: st) sh z X o := by
  intro r hr p e s m args below meth c A H locs ls C hz hS hA hP hl
  exact lv_istore_n C.1 C.2.1 hd hi hl hn h2 (fun ls2 hl2 => K r hr p e s m args below meth c A H locs ls2 C hz hS hA hP hl2)
theorem zr_istore {i : Nat} {x : Int32} {lo2 : List (Nat × Value)} (hd : decode Y.2.1 pc = .ok (.istore i, 2)) (hn : i < Y.2.2.1) (h2 : (i, .int x) :: zq_st i lo = lo2) (K : zq_V G Y lv enc kc kn (pc + 2) lo2 (st) sh z X o) : zq_V G Y lv enc kc kn (pc) lo (.int x :: st) sh z X o := by
  intro r hr p e s m args below meth c A H locs ls C hz hS hA hP hl
  exact lv_istore C.1 C.2.1 hd hl hn h2 (fun ls2 hl2 => K r hr p e s m args below meth c A H locs ls2 C hz hS hA hP hl2)
theorem zr_lstore_n {k : Fin 4} {i : Nat} {x : Int64} {lo2 : List (Nat × Value)} (hd : decode Y.2.1 pc = .ok (.lstore_n k, 1)) (hi : (k : Nat) = i) (hn : i + 1 < Y.2.2.1) (h2 : (i, .long x) :: zq_st2 i lo = lo2) (K : zq_V G Y lv enc kc kn (pc + 1) lo2 (st) sh z X o) : zq_V G Y lv enc kc kn (pc) lo (.long x :: st) sh z X o := by
  intro r hr p e s m args below meth c A H locs ls C hz hS hA hP hl
  exact lv_lstore_n C.1 C.2.1 hd hi hl hn h2 (fun ls2 hl2 => K r hr p e s m args below meth c A H locs ls2 C hz hS hA hP hl2)
theorem zr_lstore {i : Nat} {x : Int64} {lo2 : List (Nat × Value)} (hd : decode Y.2.1 pc = .ok (.lstore i, 2)) (hn : i + 1 < Y.2.2.1) (h2 : (i, .long x) :: zq_st2 i lo = lo2) (K : zq_V G Y lv enc kc kn (pc + 2) lo2 (st) sh z X o) : zq_V G Y lv enc kc kn (pc) lo (.long x :: st) sh z X o := by
  intro r hr p e s m args below meth c A H locs ls C hz hS hA hP hl
  exact lv_lstore C.1 C.2.1 hd hl hn h2 (fun ls2 hl2 => K r hr p e s m args below meth c A H locs ls2 C hz hS hA hP hl2)
theorem zr_astore_n {k : Fin 4} {i : Nat} {x : Nat} {lo2 : List (Nat × Value)} (hd : decode Y.2.1 pc = .ok (.astore_n k, 1)) (hi : (k : Nat) = i) (hn : i < Y.2.2.1) (h2 : (i, .ref x) :: zq_st i lo = lo2) (K : zq_V G Y lv enc kc kn (pc + 1) lo2 (st) sh z X o) : zq_V G Y lv enc kc kn (pc) lo (.ref x :: st) sh z X o := by
  intro r hr p e s m args below meth c A H locs ls C hz hS hA hP hl
  exact lv_astore_n C.1 C.2.1 hd hi hl hn h2 (fun ls2 hl2 => K r hr p e s m args below meth c A H locs ls2 C hz hS hA hP hl2)
theorem zr_astore {i : Nat} {x : Nat} {lo2 : List (Nat × Value)} (hd : decode Y.2.1 pc = .ok (.astore i, 2)) (hn : i < Y.2.2.1) (h2 : (i, .ref x) :: zq_st i lo = lo2) (K : zq_V G Y lv enc kc kn (pc + 2) lo2 (st) sh z X o) : zq_V G Y lv enc kc kn (pc) lo (.ref x :: st) sh z X o := by
  intro r hr p e s m args below meth c A H locs ls C hz hS hA hP hl
  exact lv_astore C.1 C.2.1 hd hl hn h2 (fun ls2 hl2 => K r hr p e s m args below meth c A H locs ls2 C hz hS hA hP hl2)
theorem zr_iinc {i j : Nat} {n : Int} {x v : Int32} {lo2 : List (Nat × Value)} (hd : decode Y.2.1 pc = .ok (.iinc i n, 3)) (hj : lo[j]? = some (i, .int x)) (hv : x + Int32.ofInt n = v) (hn : i < Y.2.2.1) (h2 : (i, .int v) :: zq_st i lo = lo2) (K : zq_V G Y lv enc kc kn (pc + 3) lo2 (st) sh z X o) : zq_V G Y lv enc kc kn (pc) lo (st) sh z X o := by
  intro r hr p e s m args below meth c A H locs ls C hz hS hA hP hl
  exact lv_iinc C.1 C.2.1 hd hl (k := j) hj hv hn h2 (fun ls2 hl2 => K r hr p e s m args below meth c A H locs ls2 C hz hS hA hP hl2)
theorem zr_iadd {x y : Int32} (hd : decode Y.2.1 pc = .ok (.iadd, 1))  (K : zq_V G Y lv enc kc kn (pc + 1) lo (.int (x + y) :: st) sh z X o) : zq_V G Y lv enc kc kn (pc) lo (.int y :: .int x :: st) sh z X o := by
  intro r hr p e s m args below meth c A H locs ls C hz hS hA hP hl
  exact lv_iadd C.1 C.2.1 hd  (K r hr p e s m args below meth c A H locs ls C hz hS hA hP hl)
theorem zr_isub {x y : Int32} (hd : decode Y.2.1 pc = .ok (.isub, 1))  (K : zq_V G Y lv enc kc kn (pc + 1) lo (.int (x - y) :: st) sh z X o) : zq_V G Y lv enc kc kn (pc) lo (.int y :: .int x :: st) sh z X o := by
  intro r hr p e s m args below meth c A H locs ls C hz hS hA hP hl
  exact lv_isub C.1 C.2.1 hd  (K r hr p e s m args below meth c A H locs ls C hz hS hA hP hl)
theorem zr_imul {x y : Int32} (hd : decode Y.2.1 pc = .ok (.imul, 1))  (K : zq_V G Y lv enc kc kn (pc + 1) lo (.int (x * y) :: st) sh z X o) : zq_V G Y lv enc kc kn (pc) lo (.int y :: .int x :: st) sh z X o := by
  intro r hr p e s m args below meth c A H locs ls C hz hS hA hP hl
  exact lv_imul C.1 C.2.1 hd  (K r hr p e s m args below meth c A H locs ls C hz hS hA hP hl)
theorem zr_iand {x y : Int32} (hd : decode Y.2.1 pc = .ok (.iand, 1))  (K : zq_V G Y lv enc kc kn (pc + 1) lo (.int (x &&& y) :: st) sh z X o) : zq_V G Y lv enc kc kn (pc) lo (.int y :: .int x :: st) sh z X o := by
  intro r hr p e s m args below meth c A H locs ls C hz hS hA hP hl
  exact lv_iand C.1 C.2.1 hd  (K r hr p e s m args below meth c A H locs ls C hz hS hA hP hl)
theorem zr_ior {x y : Int32} (hd : decode Y.2.1 pc = .ok (.ior, 1))  (K : zq_V G Y lv enc kc kn (pc + 1) lo (.int (x ||| y) :: st) sh z X o) : zq_V G Y lv enc kc kn (pc) lo (.int y :: .int x :: st) sh z X o := by
  intro r hr p e s m args below meth c A H locs ls C hz hS hA hP hl
  exact lv_ior C.1 C.2.1 hd  (K r hr p e s m args below meth c A H locs ls C hz hS hA hP hl)
theorem zr_ixor {x y : Int32} (hd : decode Y.2.1 pc = .ok (.ixor, 1))  (K : zq_V G Y lv enc kc kn (pc + 1) lo (.int (x ^^^ y) :: st) sh z X o) : zq_V G Y lv enc kc kn (pc) lo (.int y :: .int x :: st) sh z X o := by
  intro r hr p e s m args below meth c A H locs ls C hz hS hA hP hl
  exact lv_ixor C.1 C.2.1 hd  (K r hr p e s m args below meth c A H locs ls C hz hS hA hP hl)
theorem zr_ishl {x y : Int32} (hd : decode Y.2.1 pc = .ok (.ishl, 1))  (K : zq_V G Y lv enc kc kn (pc + 1) lo (.int (zq_shl x y) :: st) sh z X o) : zq_V G Y lv enc kc kn (pc) lo (.int y :: .int x :: st) sh z X o := by
  intro r hr p e s m args below meth c A H locs ls C hz hS hA hP hl
  exact lv_ishl C.1 C.2.1 hd  (K r hr p e s m args below meth c A H locs ls C hz hS hA hP hl)
theorem zr_ishr {x y : Int32} (hd : decode Y.2.1 pc = .ok (.ishr, 1))  (K : zq_V G Y lv enc kc kn (pc + 1) lo (.int (zq_shr x y) :: st) sh z X o) : zq_V G Y lv enc kc kn (pc) lo (.int y :: .int x :: st) sh z X o := by
  intro r hr p e s m args below meth c A H locs ls C hz hS hA hP hl
  exact lv_ishr C.1 C.2.1 hd  (K r hr p e s m args below meth c A H locs ls C hz hS hA hP hl)
theorem zr_iushr {x y : Int32} (hd : decode Y.2.1 pc = .ok (.iushr, 1))  (K : zq_V G Y lv enc kc kn (pc + 1) lo (.int (zq_ushr x y) :: st) sh z X o) : zq_V G Y lv enc kc kn (pc) lo (.int y :: .int x :: st) sh z X o := by
  intro r hr p e s m args below meth c A H locs ls C hz hS hA hP hl
  exact lv_iushr C.1 C.2.1 hd rfl (K r hr p e s m args below meth c A H locs ls C hz hS hA hP hl)
theorem zr_ladd {x y : Int64} (hd : decode Y.2.1 pc = .ok (.ladd, 1))  (K : zq_V G Y lv enc kc kn (pc + 1) lo (.long (x + y) :: st) sh z X o) : zq_V G Y lv enc kc kn (pc) lo (.long y :: .long x :: st) sh z X o := by
  intro r hr p e s m args below meth c A H locs ls C hz hS hA hP hl
  exact lv_ladd C.1 C.2.1 hd  (K r hr p e s m args below meth c A H locs ls C hz hS hA hP hl)
theorem zr_lsub {x y : Int64} (hd : decode Y.2.1 pc = .ok (.lsub, 1))  (K : zq_V G Y lv enc kc kn (pc + 1) lo (.long (x - y) :: st) sh z X o) : zq_V G Y lv enc kc kn (pc) lo (.long y :: .long x :: st) sh z X o := by
  intro r hr p e s m args below meth c A H locs ls C hz hS hA hP hl
  exact lv_lsub C.1 C.2.1 hd  (K r hr p e s m args below meth c A H locs ls C hz hS hA hP hl)
theorem zr_lmul {x y : Int64} (hd : decode Y.2.1 pc = .ok (.lmul, 1))  (K : zq_V G Y lv enc kc kn (pc + 1) lo (.long (x * y) :: st) sh z X o) : zq_V G Y lv enc kc kn (pc) lo (.long y :: .long x :: st) sh z X o := by
  intro r hr p e s m args below meth c A H locs ls C hz hS hA hP hl
  exact lv_lmul C.1 C.2.1 hd  (K r hr p e s m args below meth c A H locs ls C hz hS hA hP hl)
theorem zr_land {x y : Int64} (hd : decode Y.2.1 pc = .ok (.land, 1))  (K : zq_V G Y lv enc kc kn (pc + 1) lo (.long (x &&& y) :: st) sh z X o) : zq_V G Y lv enc kc kn (pc) lo (.long y :: .long x :: st) sh z X o := by
  intro r hr p e s m args below meth c A H locs ls C hz hS hA hP hl
  exact lv_land C.1 C.2.1 hd  (K r hr p e s m args below meth c A H locs ls C hz hS hA hP hl)
theorem zr_lor {x y : Int64} (hd : decode Y.2.1 pc = .ok (.lor, 1))  (K : zq_V G Y lv enc kc kn (pc + 1) lo (.long (x ||| y) :: st) sh z X o) : zq_V G Y lv enc kc kn (pc) lo (.long y :: .long x :: st) sh z X o := by
  intro r hr p e s m args below meth c A H locs ls C hz hS hA hP hl
  exact lv_lor C.1 C.2.1 hd  (K r hr p e s m args below meth c A H locs ls C hz hS hA hP hl)
theorem zr_ineg {x : Int32} (hd : decode Y.2.1 pc = .ok (.ineg, 1))  (K : zq_V G Y lv enc kc kn (pc + 1) lo (.int (-x) :: st) sh z X o) : zq_V G Y lv enc kc kn (pc) lo (.int x :: st) sh z X o := by
  intro r hr p e s m args below meth c A H locs ls C hz hS hA hP hl
  exact lv_ineg C.1 C.2.1 hd  (K r hr p e s m args below meth c A H locs ls C hz hS hA hP hl)
theorem zr_lshl {x : Int64} {y : Int32} (hd : decode Y.2.1 pc = .ok (.lshl, 1))  (K : zq_V G Y lv enc kc kn (pc + 1) lo (.long (zq_lshl x y) :: st) sh z X o) : zq_V G Y lv enc kc kn (pc) lo (.int y :: .long x :: st) sh z X o := by
  intro r hr p e s m args below meth c A H locs ls C hz hS hA hP hl
  exact lv_lshl C.1 C.2.1 hd rfl (K r hr p e s m args below meth c A H locs ls C hz hS hA hP hl)
theorem zr_lcmp {x y : Int64} (hd : decode Y.2.1 pc = .ok (.lcmp, 1))  (K : zq_V G Y lv enc kc kn (pc + 1) lo (.int (lg_cmp x y) :: st) sh z X o) : zq_V G Y lv enc kc kn (pc) lo (.long y :: .long x :: st) sh z X o := by
  intro r hr p e s m args below meth c A H locs ls C hz hS hA hP hl
  exact W.lcmp C.1 C.2.1 hd  (K r hr p e s m args below meth c A H locs ls C hz hS hA hP hl)
theorem zr_i2l {x : Int32} (hd : decode Y.2.1 pc = .ok (.i2l, 1))  (K : zq_V G Y lv enc kc kn (pc + 1) lo (.long (x.toInt64) :: st) sh z X o) : zq_V G Y lv enc kc kn (pc) lo (.int x :: st) sh z X o := by
  intro r hr p e s m args below meth c A H locs ls C hz hS hA hP hl
  exact lv_i2l C.1 C.2.1 hd rfl (K r hr p e s m args below meth c A H locs ls C hz hS hA hP hl)
theorem zr_l2i {x : Int64} (hd : decode Y.2.1 pc = .ok (.l2i, 1))  (K : zq_V G Y lv enc kc kn (pc + 1) lo (.int (x.toInt32) :: st) sh z X o) : zq_V G Y lv enc kc kn (pc) lo (.long x :: st) sh z X o := by
  intro r hr p e s m args below meth c A H locs ls C hz hS hA hP hl
  exact lv_l2i C.1 C.2.1 hd rfl (K r hr p e s m args below meth c A H locs ls C hz hS hA hP hl)
theorem zr_i2b {x : Int32} (hd : decode Y.2.1 pc = .ok (.i2b, 1))  (K : zq_V G Y lv enc kc kn (pc + 1) lo (.int (x.toInt8.toInt32) :: st) sh z X o) : zq_V G Y lv enc kc kn (pc) lo (.int x :: st) sh z X o := by
  intro r hr p e s m args below meth c A H locs ls C hz hS hA hP hl
  exact lv_i2b C.1 C.2.1 hd rfl (K r hr p e s m args below meth c A H locs ls C hz hS hA hP hl)
theorem zr_i2s {x : Int32} (hd : decode Y.2.1 pc = .ok (.i2s, 1))  (K : zq_V G Y lv enc kc kn (pc + 1) lo (.int (x.toInt16.toInt32) :: st) sh z X o) : zq_V G Y lv enc kc kn (pc) lo (.int x :: st) sh z X o := by
  intro r hr p e s m args below meth c A H locs ls C hz hS hA hP hl
  exact lv_i2s C.1 C.2.1 hd rfl (K r hr p e s m args below meth c A H locs ls C hz hS hA hP hl)
theorem zr_i2c {x : Int32} (hd : decode Y.2.1 pc = .ok (.i2c, 1))  (K : zq_V G Y lv enc kc kn (pc + 1) lo (.int ((x.toUInt32 % 65536).toInt32) :: st) sh z X o) : zq_V G Y lv enc kc kn (pc) lo (.int x :: st) sh z X o := by
  intro r hr p e s m args below meth c A H locs ls C hz hS hA hP hl
  exact lv_i2c C.1 C.2.1 hd rfl (K r hr p e s m args below meth c A H locs ls C hz hS hA hP hl)
theorem zr_idivk {x y : Int32} (hd : decode Y.2.1 pc = .ok (.idiv, 1)) (hy : ¬ y = 0) (K : zq_V G Y lv enc kc kn (pc + 1) lo (.int (x / y) :: st) sh z X o) : zq_V G Y lv enc kc kn (pc) lo (.int y :: .int x :: st) sh z X o := by
  intro r hr p e s m args below meth c A H locs ls C hz hS hA hP hl
  exact lv_idiv C.1 C.2.1 hd hy (K r hr p e s m args below meth c A H locs ls C hz hS hA hP hl)
theorem zr_iremk {x y : Int32} (hd : decode Y.2.1 pc = .ok (.irem, 1)) (hy : ¬ y = 0) (K : zq_V G Y lv enc kc kn (pc + 1) lo (.int (zq_irem x y) :: st) sh z X o) : zq_V G Y lv enc kc kn (pc) lo (.int y :: .int x :: st) sh z X o := by
  intro r hr p e s m args below meth c A H locs ls C hz hS hA hP hl
  exact lv_irem C.1 C.2.1 hd hy (K r hr p e s m args below meth c A H locs ls C hz hS hA hP hl)
theorem zr_idiv {x y : Int32} (hd : decode Y.2.1 pc = .ok (.idiv, 1)) (K : zq_V G Y lv enc kc kn (pc + 1) lo (.int (x / y) :: st) sh z X o) : zq_V G Y lv enc kc kn (pc) lo (.int y :: .int x :: st) sh z X (zq_dv y o) := by
  intro r hr p e s m args below meth c A H locs ls C hz hS hA hP hl
  unfold zq_dv at hr
  split at hr
  · cases hr
  · rename_i hy
    exact lv_idiv C.1 C.2.1 hd hy (K r hr p e s m args below meth c A H locs ls C hz hS hA hP hl)
theorem zr_irem {x y : Int32} (hd : decode Y.2.1 pc = .ok (.irem, 1)) (K : zq_V G Y lv enc kc kn (pc + 1) lo (.int (zq_irem x y) :: st) sh z X o) : zq_V G Y lv enc kc kn (pc) lo (.int y :: .int x :: st) sh z X (zq_dv y o) := by
  intro r hr p e s m args below meth c A H locs ls C hz hS hA hP hl
  unfold zq_dv at hr
  split at hr
  · cases hr
  · rename_i hy
    exact lv_irem C.1 C.2.1 hd hy (K r hr p e s m args below meth c A H locs ls C hz hS hA hP hl)
theorem zr_ldiv {x y : Int64} (hd : decode Y.2.1 pc = .ok (.ldiv, 1)) (K : zq_V G Y lv enc kc kn (pc + 1) lo (.long (x / y) :: st) sh z X o) : zq_V G Y lv enc kc kn (pc) lo (.long y :: .long x :: st) sh z X (zq_dw y o) := by
  intro r hr p e s m args below meth c A H locs ls C hz hS hA hP hl
  unfold zq_dw at hr
  split at hr
  · cases hr
  · rename_i hy
    exact lv_ldiv C.1 C.2.1 hd hy (K r hr p e s m args below meth c A H locs ls C hz hS hA hP hl)
theorem zr_lrem {x y : Int64} (hd : decode Y.2.1 pc = .ok (.lrem, 1)) (K : zq_V G Y lv enc kc kn (pc + 1) lo (.long (zq_lrem x y) :: st) sh z X o) : zq_V G Y lv enc kc kn (pc) lo (.long y :: .long x :: st) sh z X (zq_dw y o) := by
  intro r hr p e s m args below meth c A H locs ls C hz hS hA hP hl
  unfold zq_dw at hr
  split at hr
  · cases hr
  · rename_i hy
    exact lv_lrem C.1 C.2.1 hd hy (K r hr p e s m args below meth c A H locs ls C hz hS hA hP hl)
theorem zr_dup {v : Value} (hd : decode Y.2.1 pc = .ok (.dup, 1)) (hv : v.category = 1) (K : zq_V G Y lv enc kc kn (pc + 1) lo (v :: v :: st) sh z X o) : zq_V G Y lv enc kc kn (pc) lo (v :: st) sh z X o := by
  intro r hr p e s m args below meth c A H locs ls C hz hS hA hP hl
  exact lv_dup C.1 C.2.1 hd hv (K r hr p e s m args below meth c A H locs ls C hz hS hA hP hl)
theorem zr_pop {v : Value} (hd : decode Y.2.1 pc = .ok (.pop, 1)) (hv : v.category = 1) (K : zq_V G Y lv enc kc kn (pc + 1) lo (st) sh z X o) : zq_V G Y lv enc kc kn (pc) lo (v :: st) sh z X o := by
  intro r hr p e s m args below meth c A H locs ls C hz hS hA hP hl
  exact lv_pop C.1 C.2.1 hd hv (K r hr p e s m args below meth c A H locs ls C hz hS hA hP hl)
theorem zr_dup2 {v u : Value} (hd : decode Y.2.1 pc = .ok (.dup2, 1)) (hv : v.category = 1) (hu : u.category = 1) (K : zq_V G Y lv enc kc kn (pc + 1) lo (v :: u :: v :: u :: st) sh z X o) : zq_V G Y lv enc kc kn (pc) lo (v :: u :: st) sh z X o := by
  intro r hr p e s m args below meth c A H locs ls C hz hS hA hP hl
  exact lv_dup2_11 C.1 C.2.1 hd hv hu (K r hr p e s m args below meth c A H locs ls C hz hS hA hP hl)
theorem zr_goto {off : Int} (tgt : Nat) (hd : decode Y.2.1 pc = .ok (.goto off, 3)) (ht : (pc : Int) + off = (tgt : Int)) (K : zq_V G Y lv enc kc kn (tgt) lo (st) sh z X o) : zq_V G Y lv enc kc kn (pc) lo (st) sh z X o := by
  intro r hr p e s m args below meth c A H locs ls C hz hS hA hP hl
  exact lv_goto C.1 C.2.1 hd ht (K r hr p e s m args below meth c A H locs ls C hz hS hA hP hl)
theorem zr_if_eq {x : Int32} {off : Int} {o1 o2 : Option ρ} {D : Decidable (x = 0)} (tgt : Nat) (hd : decode Y.2.1 pc = .ok (.ifCond .eq off, 3)) (ht : (pc : Int) + off = (tgt : Int)) (KT : x = 0 → zq_V G Y lv enc kc kn (tgt) lo (st) sh z X o1) (KF : ¬ x = 0 → zq_V G Y lv enc kc kn (pc + 3) lo (st) sh z X o2) : zq_V G Y lv enc kc kn (pc) lo (.int x :: st) sh z X (@ite _ (x = 0) D o1 o2) := by
  intro r hr p e s m args below meth c A H locs ls C hz hS hA hP hl
  by_cases hc : x = 0
  · rw [if_pos hc] at hr
    exact lv_if_eq C.1 C.2.1 hd ht (fun _ => KT hc r hr p e s m args below meth c A H locs ls C hz hS hA hP hl) (fun h => absurd hc h)
  · rw [if_neg hc] at hr
    exact lv_if_eq C.1 C.2.1 hd ht (fun h => absurd h hc) (fun h => KF h r hr p e s m args below meth c A H locs ls C hz hS hA hP hl)
theorem zr_if_ne {x : Int32} {off : Int} {o1 o2 : Option ρ} {D : Decidable (¬ x = 0)} (tgt : Nat) (hd : decode Y.2.1 pc = .ok (.ifCond .ne off, 3)) (ht : (pc : Int) + off = (tgt : Int)) (KT : ¬ x = 0 → zq_V G Y lv enc kc kn (tgt) lo (st) sh z X o1) (KF : x = 0 → zq_V G Y lv enc kc kn (pc + 3) lo (st) sh z X o2) : zq_V G Y lv enc kc kn (pc) lo (.int x :: st) sh z X (@ite _ (¬ x = 0) D o1 o2) := by
  intro r hr p e s m args below meth c A H locs ls C hz hS hA hP hl
  by_cases hc : ¬ x = 0
  · rw [if_pos hc] at hr
    exact lv_if_ne C.1 C.2.1 hd ht (fun _ => KT hc r hr p e s m args below meth c A H locs ls C hz hS hA hP hl) (fun h => absurd h hc)
  · rw [if_neg hc] at hr
    exact lv_if_ne C.1 C.2.1 hd ht (fun h => absurd h hc) (fun h => KF h r hr p e s m args below meth c A H locs ls C hz hS hA hP hl)
theorem zr_if_lt {x : Int32} {off : Int} {o1 o2 : Option ρ} {D : Decidable (x < 0)} (tgt : Nat) (hd : decode Y.2.1 pc = .ok (.ifCond .lt off, 3)) (ht : (pc : Int) + off = (tgt : Int)) (KT : x < 0 → zq_V G Y lv enc kc kn (tgt) lo (st) sh z X o1) (KF : ¬ x < 0 → zq_V G Y lv enc kc kn (pc + 3) lo (st) sh z X o2) : zq_V G Y lv enc kc kn (pc) lo (.int x :: st) sh z X (@ite _ (x < 0) D o1 o2) := by
  intro r hr p e s m args below meth c A H locs ls C hz hS hA hP hl
  by_cases hc : x < 0
  · rw [if_pos hc] at hr
    exact lv_if_lt C.1 C.2.1 hd ht (fun _ => KT hc r hr p e s m args below meth c A H locs ls C hz hS hA hP hl) (fun h => absurd hc h)
  · rw [if_neg hc] at hr
    exact lv_if_lt C.1 C.2.1 hd ht (fun h => absurd h hc) (fun h => KF h r hr p e s m args below meth c A H locs ls C hz hS hA hP hl)
theorem zr_if_ge {x : Int32} {off : Int} {o1 o2 : Option ρ} {D : Decidable (0 ≤ x)} (tgt : Nat) (hd : decode Y.2.1 pc = .ok (.ifCond .ge off, 3)) (ht : (pc : Int) + off = (tgt : Int)) (KT : 0 ≤ x → zq_V G Y lv enc kc kn (tgt) lo (st) sh z X o1) (KF : ¬ 0 ≤ x → zq_V G Y lv enc kc kn (pc + 3) lo (st) sh z X o2) : zq_V G Y lv enc kc kn (pc) lo (.int x :: st) sh z X (@ite _ (0 ≤ x) D o1 o2) := by
  intro r hr p e s m args below meth c A H locs ls C hz hS hA hP hl
  by_cases hc : 0 ≤ x
  · rw [if_pos hc] at hr
    exact lv_if_ge C.1 C.2.1 hd ht (fun _ => KT hc r hr p e s m args below meth c A H locs ls C hz hS hA hP hl) (fun h => absurd hc h)
  · rw [if_neg hc] at hr
    exact lv_if_ge C.1 C.2.1 hd ht (fun h => absurd h hc) (fun h => KF h r hr p e s m args below meth c A H locs ls C hz hS hA hP hl)
theorem zr_if_gt {x : Int32} {off : Int} {o1 o2 : Option ρ} {D : Decidable (0 < x)} (tgt : Nat) (hd : decode Y.2.1 pc = .ok (.ifCond .gt off, 3)) (ht : (pc : Int) + off = (tgt : Int)) (KT : 0 < x → zq_V G Y lv enc kc kn (tgt) lo (st) sh z X o1) (KF : ¬ 0 < x → zq_V G Y lv enc kc kn (pc + 3) lo (st) sh z X o2) : zq_V G Y lv enc kc kn (pc) lo (.int x :: st) sh z X (@ite _ (0 < x) D o1 o2) := by
  intro r hr p e s m args below meth c A H locs ls C hz hS hA hP hl
  by_cases hc : 0 < x
  · rw [if_pos hc] at hr
    exact lv_if_gt C.1 C.2.1 hd ht (fun _ => KT hc r hr p e s m args below meth c A H locs ls C hz hS hA hP hl) (fun h => absurd hc h)
  · rw [if_neg hc] at hr
    exact lv_if_gt C.1 C.2.1 hd ht (fun h => absurd h hc) (fun h => KF h r hr p e s m args below meth c A H locs ls C hz hS hA hP hl)
theorem zr_if_le {x : Int32} {off : Int} {o1 o2 : Option ρ} {D : Decidable (x ≤ 0)} (tgt : Nat) (hd : decode Y.2.1 pc = .ok (.ifCond .le off, 3)) (ht : (pc : Int) + off = (tgt : Int)) (KT : x ≤ 0 → zq_V G Y lv enc kc kn (tgt) lo (st) sh z X o1) (KF : ¬ x ≤ 0 → zq_V G Y lv enc kc kn (pc + 3) lo (st) sh z X o2) : zq_V G Y lv enc kc kn (pc) lo (.int x :: st) sh z X (@ite _ (x ≤ 0) D o1 o2) := by
  intro r hr p e s m args below meth c A H locs ls C hz hS hA hP hl
  by_cases hc : x ≤ 0
  · rw [if_pos hc] at hr
    exact lv_if_le C.1 C.2.1 hd ht (fun _ => KT hc r hr p e s m args below meth c A H locs ls C hz hS hA hP hl) (fun h => absurd hc h)
  · rw [if_neg hc] at hr
    exact lv_if_le C.1 C.2.1 hd ht (fun h => absurd h hc) (fun h => KF h r hr p e s m args below meth c A H locs ls C hz hS hA hP hl)
theorem zr_icmp_eq {x y : Int32} {off : Int} {o1 o2 : Option ρ} {D : Decidable (x = y)} (tgt : Nat) (hd : decode Y.2.1 pc = .ok (.if_icmp .eq off, 3)) (ht : (pc : Int) + off = (tgt : Int)) (KT : x = y → zq_V G Y lv enc kc kn (tgt) lo (st) sh z X o1) (KF : ¬ x = y → zq_V G Y lv enc kc kn (pc + 3) lo (st) sh z X o2) : zq_V G Y lv enc kc kn (pc) lo (.int y :: .int x :: st) sh z X (@ite _ (x = y) D o1 o2) := by
  intro r hr p e s m args below meth c A H locs ls C hz hS hA hP hl
  by_cases hc : x = y
  · rw [if_pos hc] at hr
    exact lv_icmp_eq C.1 C.2.1 hd ht (fun _ => KT hc r hr p e s m args below meth c A H locs ls C hz hS hA hP hl) (fun h => absurd hc h)
  · rw [if_neg hc] at hr
    exact lv_icmp_eq C.1 C.2.1 hd ht (fun h => absurd h hc) (fun h => KF h r hr p e s m args below meth c A H locs ls C hz hS hA hP hl)
theorem zr_icmp_ne {x y : Int32} {off : Int} {o1 o2 : Option ρ} {D : Decidable (¬ x = y)} (tgt : Nat) (hd : decode Y.2.1 pc = .ok (.if_icmp .ne off, 3)) (ht : (pc : Int) + off = (tgt : Int)) (KT : ¬ x = y → zq_V G Y lv enc kc kn (tgt) lo (st) sh z X o1) (KF : x = y → zq_V G Y lv enc kc kn (pc + 3) lo (st) sh z X o2) : zq_V G Y lv enc kc kn (pc) lo (.int y :: .int x :: st) sh z X (@ite _ (¬ x = y) D o1 o2) := by
  intro r hr p e s m args below meth c A H locs ls C hz hS hA hP hl
  by_cases hc : ¬ x = y
  · rw [if_pos hc] at hr
    exact lv_icmp_ne C.1 C.2.1 hd ht (fun _ => KT hc r hr p e s m args below meth c A H locs ls C hz hS hA hP hl) (fun h => absurd h hc)
  · rw [if_neg hc] at hr
    exact lv_icmp_ne C.1 C.2.1 hd ht (fun h => absurd h hc) (fun h => KF h r hr p e s m args below meth c A H locs ls C hz hS hA hP hl)
theorem zr_icmp_lt {x y : Int32} {off : Int} {o1 o2 : Option ρ} {D : Decidable (x < y)} (tgt : Nat) (hd : decode Y.2.1 pc = .ok (.if_icmp .lt off, 3)) (ht : (pc : Int) + off = (tgt : Int)) (KT : x < y → zq_V G Y lv enc kc kn (tgt) lo (st) sh z X o1) (KF : ¬ x < y → zq_V G Y lv enc kc kn (pc + 3) lo (st) sh z X o2) : zq_V G Y lv enc kc kn (pc) lo (.int y :: .int x :: st) sh z X (@ite _ (x < y) D o1 o2) := by
  intro r hr p e s m args below meth c A H locs ls C hz hS hA hP hl
  by_cases hc : x < y
  · rw [if_pos hc] at hr
    exact lv_icmp_lt C.1 C.2.1 hd ht (fun _ => KT hc r hr p e s m args below meth c A H locs ls C hz hS hA hP hl) (fun h => absurd hc h)
  · rw [if_neg hc] at hr
    exact lv_icmp_lt C.1 C.2.1 hd ht (fun h => absurd h hc) (fun h => KF h r hr p e s m args below meth c A H locs ls C hz hS hA hP hl)
theorem zr_icmp_ge {x y : Int32} {off : Int} {o1 o2 : Option ρ} {D : Decidable (y ≤ x)} (tgt : Nat) (hd : decode Y.2.1 pc = .ok (.if_icmp .ge off, 3)) (ht : (pc : Int) + off = (tgt : Int)) (KT : y ≤ x → zq_V G Y lv enc kc kn (tgt) lo (st) sh z X o1) (KF : ¬ y ≤ x → zq_V G Y lv enc kc kn (pc + 3) lo (st) sh z X o2) : zq_V G Y lv enc kc kn (pc) lo (.int y :: .int x :: st) sh z X (@ite _ (y ≤ x) D o1 o2) := by
  intro r hr p e s m args below meth c A H locs ls C hz hS hA hP hl
  by_cases hc : y ≤ x
  · rw [if_pos hc] at hr
    exact lv_icmp_ge C.1 C.2.1 hd ht (fun _ => KT hc r hr p e s m args below meth c A H locs ls C hz hS hA hP hl) (fun h => absurd hc h)
  · rw [if_neg hc] at hr
    exact lv_icmp_ge C.1 C.2.1 hd ht (fun h => absurd h hc) (fun h => KF h r hr p e s m args below meth c A H locs ls C hz hS hA hP hl)
theorem zr_icmp_gt {x y : Int32} {off : Int} {o1 o2 : Option ρ} {D : Decidable (y < x)} (tgt : Nat) (hd : decode Y.2.1 pc = .ok (.if_icmp .gt off, 3)) (ht : (pc : Int) + off = (tgt : Int)) (KT : y < x → zq_V G Y lv enc kc kn (tgt) lo (st) sh z X o1) (KF : ¬ y < x → zq_V G Y lv enc kc kn (pc + 3) lo (st) sh z X o2) : zq_V G Y lv enc kc kn (pc) lo (.int y :: .int x :: st) sh z X (@ite _ (y < x) D o1 o2) := by
  intro r hr p e s m args below meth c A H locs ls C hz hS hA hP hl
  by_cases hc : y < x
  · rw [if_pos hc] at hr
    exact lv_icmp_gt C.1 C.2.1 hd ht (fun _ => KT hc r hr p e s m args below meth c A H locs ls C hz hS hA hP hl) (fun h => absurd hc h)
  · rw [if_neg hc] at hr
    exact lv_icmp_gt C.1 C.2.1 hd ht (fun h => absurd h hc) (fun h => KF h r hr p e s m args below meth c A H locs ls C hz hS hA hP hl)
theorem zr_icmp_le {x y : Int32} {off : Int} {o1 o2 : Option ρ} {D : Decidable (x ≤ y)} (tgt : Nat) (hd : decode Y.2.1 pc = .ok (.if_icmp .le off, 3)) (ht : (pc : Int) + off = (tgt : Int)) (KT : x ≤ y → zq_V G Y lv enc kc kn (tgt) lo (st) sh z X o1) (KF : ¬ x ≤ y → zq_V G Y lv enc kc kn (pc + 3) lo (st) sh z X o2) : zq_V G Y lv enc kc kn (pc) lo (.int y :: .int x :: st) sh z X (@ite _ (x ≤ y) D o1 o2) := by
  intro r hr p e s m args below meth c A H locs ls C hz hS hA hP hl
  by_cases hc : x ≤ y
  · rw [if_pos hc] at hr
    exact lv_icmp_le C.1 C.2.1 hd ht (fun _ => KT hc r hr p e s m args below meth c A H locs ls C hz hS hA hP hl) (fun h => absurd hc h)
  · rw [if_neg hc] at hr
    exact lv_icmp_le C.1 C.2.1 hd ht (fun h => absurd h hc) (fun h => KF h r hr p e s m args below meth c A H locs ls C hz hS hA hP hl)
end
end
section
theorem zq_hi0 : ∀ w ∈ u_ws RX0 TX0 5, w ∈ zq_T := by decide +kernel
theorem zq_hi1 : ∀ w ∈ u_ws RX1 TX1 7, w ∈ zq_T := by decide +kernel
theorem zq_hi2 : ∀ w ∈ u_ws RX2 TX2 7, w ∈ zq_T := by decide +kernel
theorem zq_hi3 : ∀ w ∈ u_ws RX3 TX3 4, w ∈ zq_T := by decide +kernel
theorem zq_hi4 : ∀ w ∈ u_ws RX4 TX4 2, w ∈ zq_T := by decide +kernel
theorem zq_hi5 : ∀ w ∈ u_ws RX5 TX5 15, w ∈ zq_T := by decide +kernel
theorem zq_hi6 : ∀ w ∈ u_ws RX6 TX6 7, w ∈ zq_T := by decide +kernel
theorem zq_hi7 : ∀ w ∈ u_ws RX7 TX7 3, w ∈ zq_T := by decide +kernel
theorem zq_hi8 : ∀ w ∈ u_ws RX8 TX8 1, w ∈ zq_T := by decide +kernel
theorem zq_hi9 : ∀ w ∈ u_ws RX9 TX9 8, w ∈ zq_T := by decide +kernel
theorem zq_hi10 : ∀ w ∈ u_ws RX10 TX10 16, w ∈ zq_T := by decide +kernel
theorem zq_hi11 : ∀ w ∈ u_ws RX11 TX11 67, w ∈ zq_T := by decide +kernel
theorem zq_hin : ∀ (ci : Nat) (q : vw_C), vwCl[ci]? = some q → ∀ w ∈ u_ws q.1 q.2.1 q.2.2, w ∈ zq_T := by
  intro ci q h
  match ci, h with
  | 0, h => cases h; exact zq_hi0
  | 1, h => cases h; exact zq_hi1
  | 2, h => cases h; exact zq_hi2
  | 3, h => cases h; exact zq_hi3
  | 4, h => cases h; exact zq_hi4
  | 5, h => cases h; exact zq_hi5
  | 6, h => cases h; exact zq_hi6
  | 7, h => cases h; exact zq_hi7
  | 8, h => cases h; exact zq_hi8
  | 9, h => cases h; exact zq_hi9
  | 10, h => cases h; exact zq_hi10
  | 11, h => cases h; exact zq_hi11
  | k + 12, h => cases h
def zq_tyf (ci : Nat) : Nat → FieldType := match ci with
  | 0 => tyX0
  | 1 => tyX1
  | 2 => tyX2
  | 3 => tyX3
  | 4 => tyX4
  | 5 => tyX5
  | 6 => tyX6
  | 7 => tyX7
  | 8 => tyX8
  | 9 => tyX9
  | 10 => tyX10
  | 11 => tyX11
  | _ => fun _ => .int
theorem zq_tyo : ∀ (ci : Nat) (q : vw_C), vwCl[ci]? = some q → (∀ k, k < q.2.2 → parseFieldDescriptor (q.2.1 k).2.2.1 = some (zq_tyf ci k)) ∧ ∀ a, a < q.2.2 → ∀ b, b < q.2.2 → a ≠ b → (q.2.1 a).2.1 ≠ (q.2.1 b).2.1 := by
  intro ci q h
  match ci, h with
  | 0, h => cases h; exact ⟨tyX0_ok, nmX0⟩
  | 1, h => cases h; exact ⟨tyX1_ok, nmX1⟩
  | 2, h => cases h; exact ⟨tyX2_ok, nmX2⟩
  | 3, h => cases h; exact ⟨tyX3_ok, nmX3⟩
  | 4, h => cases h; exact ⟨tyX4_ok, nmX4⟩
  | 5, h => cases h; exact ⟨tyX5_ok, nmX5⟩
  | 6, h => cases h; exact ⟨tyX6_ok, nmX6⟩
  | 7, h => cases h; exact ⟨tyX7_ok, nmX7⟩
  | 8, h => cases h; exact ⟨tyX8_ok, nmX8⟩
  | 9, h => cases h; exact ⟨tyX9_ok, nmX9⟩
  | 10, h => cases h; exact ⟨tyX10_ok, nmX10⟩
  | 11, h => cases h; exact ⟨tyX11_ok, nmX11⟩
  | k + 12, h => cases h

theorem zq_ad_inj {G : zq_G} {a b : Nat} (h : zq_ad G a = zq_ad G b) : a = b := by unfold zq_ad at h; omega
theorem zq_one {G : zq_G} {sh : zq_H} {X : zq_M} {H : Heap} {c : Nat} {s : zq_S} (hP : zq_P G sh X H) (hs : sh c = some s) : va_P G.2.1 vwCl [(zq_ad G c, zq_cell G X c s)] H := by
  intro k q hq
  match k, hq with
  | 0, hq => cases hq; exact hP c s hs
  | k + 1, hq => simp at hq
theorem zq_P.upd {G : zq_G} {sh sh1 : zq_H} {X X1 : zq_M} {H H1 : Heap} {c : Nat} {s1 : zq_S} (hP : zq_P G sh X H) (hc : va_at G.2.1 vwCl (zq_ad G c, zq_cell G X1 c s1) H1) (hs : sh1 c = some s1) (hsh : ∀ d, d ≠ c → sh1 d = sh d)
    (hX : ∀ d, d ≠ c → X1.1 d = X.1 d ∧ X1.2.1 d = X.2.1 d ∧ X1.2.2 d = X.2.2 d) (hq : ∀ d s, d ≠ c → sh d = some s → H1[zq_ad G d]? = H[zq_ad G d]?) : zq_P G sh1 X1 H1 := by
  intro d s hd
  by_cases h : d = c
  · subst h
    rw [hs] at hd
    cases hd
    exact hc
  · rw [hsh d h] at hd
    obtain ⟨e1, e2, e3⟩ := hX d h
    have h1 := hP d s hd
    have h2 : va_at G.2.1 vwCl (zq_ad G d, zq_cell G X d s) H1 := h1.kept (hq d s h hd)
    unfold zq_cell at h2 ⊢
    rw [e1, e2, e3]
    exact h2
theorem zq_up_ne {α : Type} {f : Nat → Nat → α} {c k d : Nat} {v : α} (h : d ≠ c) : zq_up f c k v d = f d := by
  funext j
  simp [zq_up, h]
theorem zq_up_eq {α : Type} {f : Nat → Nat → α} {c k : Nat} {v : α} : zq_up f c k v c = fun j => if j = k then v else f c j := by
  funext j
  simp [zq_up]
theorem zq_u1_ne {X : zq_M} {c k d : Nat} {v : Int32} (h : d ≠ c) : (zq_u1 X c k v).1 d = X.1 d ∧ (zq_u1 X c k v).2.1 d = X.2.1 d ∧ (zq_u1 X c k v).2.2 d = X.2.2 d := ⟨zq_up_ne h, rfl, rfl⟩
theorem zq_u2_ne {X : zq_M} {c k d : Nat} {v : Int64} (h : d ≠ c) : (zq_u2 X c k v).1 d = X.1 d ∧ (zq_u2 X c k v).2.1 d = X.2.1 d ∧ (zq_u2 X c k v).2.2 d = X.2.2 d := ⟨rfl, zq_up_ne h, rfl⟩
theorem zq_u3_ne {X : zq_M} {c k d : Nat} {v : Option Nat} (h : d ≠ c) : (zq_u3 X c k v).1 d = X.1 d ∧ (zq_u3 X c k v).2.1 d = X.2.1 d ∧ (zq_u3 X c k v).2.2 d = X.2.2 d := ⟨rfl, rfl, zq_up_ne h⟩
theorem zq_z_ne {X : zq_M} {c d : Nat} (h : d ≠ c) : (zq_z X c).1 d = X.1 d ∧ (zq_z X c).2.1 d = X.2.1 d ∧ (zq_z X c).2.2 d = X.2.2 d := by
  refine ⟨?_, ?_, ?_⟩ <;> (funext j; simp [zq_z, h])
theorem zq_fs_get {G : zq_G} {f1 : Nat → Int32} {f2 : Nat → Int64} {f3 : Nat → Option Nat} {ks : List Nat} {k kd : Nat} (h : ks[k]? = some kd) : (zq_fs G f1 f2 f3 ks)[k]? = some (zq_fv G f1 f2 f3 k kd) := by
  unfold zq_fs
  rw [List.getElem?_mapIdx, h]
  rfl
theorem zq_fs_len {G : zq_G} {f1 : Nat → Int32} {f2 : Nat → Int64} {f3 : Nat → Option Nat} {ks : List Nat} : (zq_fs G f1 f2 f3 ks).length = ks.length := by
  unfold zq_fs
  simp
theorem zq_fs_set {G : zq_G} {f1 g1 : Nat → Int32} {f2 g2 : Nat → Int64} {f3 g3 : Nat → Option Nat} {ks : List Nat} {k kd : Nat} {v : Value} (hk : k < ks.length) (hv : zq_fv G g1 g2 g3 k kd = v) (h1 : ∀ j, j ≠ k → g1 j = f1 j) (h2 : ∀ j, j ≠ k → g2 j = f2 j) (h3 : ∀ j, j ≠ k → g3 j = f3 j) : (zq_fs G f1 f2 f3 ks).set k v = zq_fs G g1 g2 g3 (ks.set k kd) := by
  apply List.ext_getElem?
  intro j
  by_cases hj : k = j
  · subst hj
    rw [List.getElem?_set_self (by rw [zq_fs_len]; exact hk)]
    rw [zq_fs_get (kd := kd) (by rw [List.getElem?_set_self hk]), hv]
  · rw [List.getElem?_set_ne hj]
    unfold zq_fs
    rw [List.getElem?_mapIdx, List.getElem?_mapIdx, List.getElem?_set_ne hj]
    cases ks[j]? with
    | none => rfl
    | some d =>
      have hj' : j ≠ k := fun e => hj e.symm
      show some _ = some _
      congr 1
      unfold zq_fv
      rw [h1 j hj', h2 j hj', h3 j hj']
theorem zq_kd_spec {sh : zq_H} {c k ci kd : Nat} (h : zq_kd sh c k = some (ci, kd)) : ∃ ks : List Nat, sh c = some (.inl (ci, ks)) ∧ ks[k]? = some kd := by
  unfold zq_kd at h
  split at h
  · rename_i ci' ks hs
    cases hk : ks[k]? with
    | none => rw [hk] at h; cases h
    | some d =>
      rw [hk] at h
      cases h
      exact ⟨ks, hs, hk⟩
  · cases h
section
variable {ρ : Type} {G : zq_G} {Y : zq_Y} {lv : zq_L} {enc : ρ → Option Value × zq_W} {kc kn pc : Nat} {lo : List (Nat × Value)} {st : List Value} {sh : zq_H} {z : Nat} {X : zq_M} {o : Option ρ}
theorem zr_getG {c k ci kd idx : Nat} (hk : zq_kd sh c k = some (ci, kd)) (hf : zq_FL Y.1.cls idx ci k) (hd : decode Y.2.1 pc = .ok (.getfield idx, 3)) (K : zq_V G Y lv enc kc kn (pc + 3) lo (zq_fv G (X.1 c) (X.2.1 c) (X.2.2 c) k kd :: st) sh z X o) : zq_V G Y lv enc kc kn pc lo (.ref (zq_ad G c) :: st) sh z X o := by
  intro r hr p e s m args below meth c' A H locs ls C hz hS hA hP hl
  obtain ⟨ks, h1, h2⟩ := zq_kd_spec hk
  obtain ⟨q, hq, hk2, hw⟩ := hf
  exact va_get (ci := ci) (C := q.1) (T := q.2.1) (N := q.2.2) C.1 C.2.1 C.2.2.2.2.2.1 (zq_hin ci q hq) C.2.2.2.2.1 C.2.2.2.2.2.2.2.2.1 (zq_one hP h1) 0 rfl hq k hk2 (C.2.2.2.2.2.1 _ hw) (fun x h => h) (zq_fs_get h2) hd (K r hr p e s m args below meth c' A H locs ls C hz hS hA hP hl)
theorem zr_getI {c k ci idx : Nat} (hd : decode Y.2.1 pc = .ok (.getfield idx, 3)) (hf : zq_FL Y.1.cls idx ci k) (hk : zq_kd sh c k = some (ci, 0)) (K : zq_V G Y lv enc kc kn (pc + 3) lo (.int (X.1 c k) :: st) sh z X o) : zq_V G Y lv enc kc kn pc lo (.ref (zq_ad G c) :: st) sh z X o := zr_getG hk hf hd K
theorem zr_getL {c k ci idx : Nat} (hd : decode Y.2.1 pc = .ok (.getfield idx, 3)) (hf : zq_FL Y.1.cls idx ci k) (hk : zq_kd sh c k = some (ci, 1)) (K : zq_V G Y lv enc kc kn (pc + 3) lo (.long (X.2.1 c k) :: st) sh z X o) : zq_V G Y lv enc kc kn pc lo (.ref (zq_ad G c) :: st) sh z X o := zr_getG hk hf hd K
theorem zr_getC {c k ci j idx : Nat} (hd : decode Y.2.1 pc = .ok (.getfield idx, 3)) (hf : zq_FL Y.1.cls idx ci k) (hk : zq_kd sh c k = some (ci, j + 4)) (K : zq_V G Y lv enc kc kn (pc + 3) lo (.ref (zq_ad G j) :: st) sh z X o) : zq_V G Y lv enc kc kn pc lo (.ref (zq_ad G c) :: st) sh z X o := zr_getG hk hf hd K
theorem zr_getR {c k ci idx : Nat} {b : Nat → Bool} {f : Nat → Option ρ} (hd : decode Y.2.1 pc = .ok (.getfield idx, 3)) (hf : zq_FL Y.1.cls idx ci k) (hk : zq_kd sh c k = some (ci, 2)) (K : ∀ h, b h = true → zq_V G Y lv enc kc kn (pc + 3) lo (.ref (zq_ad G h) :: st) sh z X (f h)) : zq_V G Y lv enc kc kn pc lo (.ref (zq_ad G c) :: st) sh z X (zq_nn (X.2.2 c k) b f) := by
  intro r hr
  unfold zq_nn at hr
  cases hX : X.2.2 c k with
  | none => rw [hX] at hr; cases hr
  | some h =>
    rw [hX] at hr
    by_cases hb : b h = true
    · simp only [hb, if_true] at hr
      refine zr_getG (o := some r) hk hf hd ?_ r rfl
      show zq_V G Y lv enc kc kn (pc + 3) lo (va_rf ((X.2.2 c k).map (zq_ad G)) :: st) sh z X (some r)
      rw [hX, ← hr]
      exact K h hb
    · simp only [hb] at hr
      cases hr
theorem zq_putG {c k ci idx : Nat} {ks : List Nat} {X1 : zq_M} {kd1 : Nat} {v : Value} {ty : FieldType} (fin : Bool) (hs : sh c = some (.inl (ci, ks))) (hk : k < ks.length) (hf : zq_FL Y.1.cls idx ci k) (hd : decode Y.2.1 pc = .ok (.putfield idx, 3))
    (hty : zq_tyf ci k = ty) (hn : narrow ty v = v) (hfit : fits ty v = true) (hfin : ∀ q : vw_C, vwCl[ci]? = some q → (q.2.1 k).2.2.2 = fin) (hin : fin = true → Y.1.name = "<init>" ∧ ∀ q : vw_C, vwCl[ci]? = some q → (q.2.1 k).1 = Y.1.cls)
    (hv : zq_fv G (X1.1 c) (X1.2.1 c) (X1.2.2 c) k kd1 = v) (h1 : ∀ j, j ≠ k → X1.1 c j = X.1 c j) (h2 : ∀ j, j ≠ k → X1.2.1 c j = X.2.1 c j) (h3 : ∀ j, j ≠ k → X1.2.2 c j = X.2.2 c j) (hX : ∀ d, d ≠ c → X1.1 d = X.1 d ∧ X1.2.1 d = X.2.1 d ∧ X1.2.2 d = X.2.2 d)
    (K : zq_V G Y lv enc kc kn (pc + 3) lo st (zq_us sh c (.inl (ci, ks.set k kd1))) z X1 o) : zq_V G Y lv enc kc kn pc lo (v :: .ref (zq_ad G c) :: st) sh z X o := by
  intro r hr p e s m args below meth c' A H locs ls C hz hS hA hP hl
  obtain ⟨q, hq, hk2, hw⟩ := hf
  have hts := C.2.2.2.2.2.1
  have hK := C.2.2.2.2.2.2.2.2.1
  have hcl := zq_hin ci q hq
  obtain ⟨hto, hnm⟩ := zq_tyo ci q hq
  have hpd : parseFieldDescriptor (q.2.1 k).2.2.1 = some ty := by rw [← hty]; exact hto k hk2
  have hap := va_apart (own := Y.1.cls) hts hcl (zq_tyf ci) hto hnm hK hq
  obtain ⟨r', g1, cell, q1, q2, q3, q4⟩ := hP c _ hs
  have hr' : r' = q := Option.some.inj (g1.symm.trans hq)
  subst hr'
  obtain ⟨hSl, hfc, kC, hkC, hkind⟩ := hK.1 ci _ hq
  obtain ⟨cf, kf, fi, f, hi, hsl⟩ := hSl k hk2
  have hst := (u_facts hfc hkC (u_lays hts hcl hk2) hi).1
  have hlen : k < (zq_fs G (X.1 c) (X.2.1 c) (X.2.2 c) ks).length := by rw [zq_fs_len]; exact hk
  have hset : (zq_fs G (X.1 c) (X.2.1 c) (X.2.2 c) ks).set k v = zq_fs G (X1.1 c) (X1.2.1 c) (X1.2.2 c) (ks.set k kd1) := zq_fs_set hk hv h1 h2 h3
  have fin2 : ∀ H1 : Heap, H1[zq_ad G c]? = some (cell.setSlot (G.2.1.2 ci k) v) → H1.size = H.size → (∀ q : Nat, q ≠ zq_ad G c → H1[q]? = H[q]?) → W p G.1 e (zq_R lv) s m args below meth c' H1 (locs ++ [⟨zq_ad G c, G.2.1.2 ci k⟩]) kc kn (MQ below (zq_Q G A (enc r)) args s lv.2.1 lv.2.2 A) (F0 m (pc + 3) ls st) := by
    intro H1 e1 e2 e3
    refine K r hr p e s m args below meth c' A H1 _ ls C (e2.trans hz) (hS.put e2 e3 (hA c _ hs)) ?_ ?_ hl
    · intro d s' hd'
      by_cases hdc : d = c
      · subst hdc
        exact hA d _ hs
      · rw [show zq_us sh c (.inl (ci, ks.set k kd1)) d = sh d from if_neg hdc] at hd'
        exact hA d _ hd'
    · refine hP.upd (c := c) (s1 := .inl (ci, ks.set k kd1)) ?_ (if_pos rfl) (fun d hd' => if_neg hd') hX (fun d _ hd' _ => e3 _ (fun e => hd' (zq_ad_inj e)))
      show va_at G.2.1 vwCl (zq_ad G c, .inr (ci, zq_fs G (X1.1 c) (X1.2.1 c) (X1.2.2 c) (ks.set k kd1))) H1
      rw [← hset]
      exact ⟨_, hq, t_OB.to (V := updV (vp_V (zq_fs G (X.1 c) (X.2.1 c) (X.2.2 c) ks)) k v) ⟨_, e1, q2, q3, t_set q4 hap hk2 v⟩ (fun j _ => vp_updV_set hlen v j)⟩
  cases fin with
  | false =>
    have hlay := hts _ (hcl _ (u_in_lay hk2))
    unfold u_lay at hlay
    rw [if_neg (by rw [hfin _ hq]; decide)] at hlay
    have h6 := u_store hfc hkC hkind hlay hi hpd hn hfit
    refine W.putK C.1 C.2.1 (f := f) ⟨C.2.2.2.2.1, hts _ hw, ⟨_, _, _, hi⟩, hst⟩ (by rw [q2]; exact h6) q1 q3 (by rw [hsl]; exact k2_hasslot (q4 k hk2)) rfl rfl hd fun H' e1 e2 e3 => ?_
    rw [hsl] at e1 ⊢
    exact fin2 H' e1 e2 e3
  | true =>
    have hlay := hts _ (hcl _ (u_in_lay hk2))
    unfold u_lay at hlay
    rw [if_pos (hfin _ hq)] at hlay
    obtain ⟨hn1, hn2⟩ := hin rfl
    have hcf : m.cls = cf := by
      obtain ⟨_, _, c2, _, _, _, -, -, hf', -, -, -, hown2, -⟩ := Cond.laysFinal_spec hlay
      have e1 : c2 = cf := by have := hi.symm.trans hf'; simp at this; exact this.1.symm
      rw [hn2 _ hq] at hown2
      rw [← e1]; exact Option.some.inj (C.2.2.2.2.1.symm.trans hown2)
    have h6 := u_fits hfc hkC hkind (Or.inr hlay) hi hpd hn hfit
    refine W.putFinK C.1 C.2.1 C.2.2.2.2.1 (hts _ hw) hi hst hcf (C.2.2.2.2.2.2.2.1.trans hn1) (by rw [q2]; exact h6) q1 q3 (by rw [hsl]; exact k2_hasslot (q4 k hk2)) rfl rfl hd fun H' e1 e2 e3 => ?_
    rw [hsl] at e1 ⊢
    exact fin2 H' e1 e2 e3
theorem zq_us_self {sh : zq_H} {c : Nat} {s : zq_S} (h : sh c = some s) : zq_us sh c s = sh := by
  funext d
  unfold zq_us
  by_cases hd : d = c
  · subst hd; rw [if_pos rfl, h]
  · rw [if_neg hd]
theorem zq_set_self {ks : List Nat} {k kd : Nat} (h : ks[k]? = some kd) : ks.set k kd = ks := by
  apply List.ext_getElem?
  intro j
  by_cases hj : k = j
  · subst hj
    rw [List.getElem?_set_self (List.getElem?_eq_some_iff.mp h).1, h]
  · rw [List.getElem?_set_ne hj]
def zq_nf (ci k : Nat) (fin : Bool) (ty : FieldType) : Prop := zq_tyf ci k = ty ∧ ∀ q : vw_C, vwCl[ci]? = some q → (q.2.1 k).2.2.2 = fin
theorem zr_putI {c k ci idx : Nat} {v : Int32} {f : zq_M → Option ρ} (hd : decode Y.2.1 pc = .ok (.putfield idx, 3)) (hf : zq_FL Y.1.cls idx ci k) (hk : zq_kd sh c k = some (ci, 0)) (ht : zq_nf ci k false .int) (K : ∀ X1, zq_V G Y lv enc kc kn (pc + 3) lo st sh z X1 (f X1)) : zq_V G Y lv enc kc kn pc lo (.int v :: .ref (zq_ad G c) :: st) sh z X (zq_b (zq_u1 X c k v) f) := by
  obtain ⟨ks, h1, h2⟩ := zq_kd_spec hk
  refine zq_putG (X1 := zq_u1 X c k v) (kd1 := 0) false h1 (List.getElem?_eq_some_iff.mp h2).1 hf hd ht.1 rfl rfl ht.2 (fun h => by cases h) ?_ ?_ (fun _ _ => rfl) (fun _ _ => rfl) (fun d hd' => zq_u1_ne hd') ?_
  · show Value.int (zq_up X.1 c k v c k) = _
    simp [zq_up]
  · intro j hj
    show zq_up X.1 c k v c j = X.1 c j
    simp [zq_up, hj]
  · rw [zq_set_self h2, zq_us_self h1]
    exact K _
theorem zr_putL {c k ci idx : Nat} {v : Int64} {f : zq_M → Option ρ} (hd : decode Y.2.1 pc = .ok (.putfield idx, 3)) (hf : zq_FL Y.1.cls idx ci k) (hk : zq_kd sh c k = some (ci, 1)) (ht : zq_nf ci k false .long) (K : ∀ X1, zq_V G Y lv enc kc kn (pc + 3) lo st sh z X1 (f X1)) : zq_V G Y lv enc kc kn pc lo (.long v :: .ref (zq_ad G c) :: st) sh z X (zq_b (zq_u2 X c k v) f) := by
  obtain ⟨ks, h1, h2⟩ := zq_kd_spec hk
  refine zq_putG (X1 := zq_u2 X c k v) (kd1 := 1) false h1 (List.getElem?_eq_some_iff.mp h2).1 hf hd ht.1 rfl rfl ht.2 (fun h => by cases h) ?_ (fun _ _ => rfl) ?_ (fun _ _ => rfl) (fun d hd' => zq_u2_ne hd') ?_
  · show Value.long (zq_up X.2.1 c k v c k) = _
    simp [zq_up]
  · intro j hj
    show zq_up X.2.1 c k v c j = X.2.1 c j
    simp [zq_up, hj]
  · rw [zq_set_self h2, zq_us_self h1]
    exact K _
theorem zr_putZ {c k ci idx : Nat} {v : Int32} {f : zq_M → Option ρ} (hd : decode Y.2.1 pc = .ok (.putfield idx, 3)) (hf : zq_FL Y.1.cls idx ci k) (hk : zq_kd sh c k = some (ci, 0)) (ht : zq_nf ci k false .boolean) (K : ∀ X1, zq_V G Y lv enc kc kn (pc + 3) lo st sh z X1 (f X1)) : zq_V G Y lv enc kc kn pc lo (.int v :: .ref (zq_ad G c) :: st) sh z X (zq_gz v (zq_b (zq_u1 X c k v) f)) := by
  intro r hr
  unfold zq_gz at hr
  by_cases hv : v = 0 ∨ v = 1
  · rw [if_pos hv] at hr
    obtain ⟨ks, h1, h2⟩ := zq_kd_spec hk
    have hn : narrow .boolean (.int v) = .int v := by rcases hv with h | h <;> (subst h; rfl)
    have hfit : fits .boolean (.int v) = true := by rcases hv with h | h <;> (subst h; rfl)
    have key : zq_V G Y lv enc kc kn pc lo (.int v :: .ref (zq_ad G c) :: st) sh z X (zq_b (zq_u1 X c k v) f) := by
      refine zq_putG (X1 := zq_u1 X c k v) (kd1 := 0) false h1 (List.getElem?_eq_some_iff.mp h2).1 hf hd ht.1 hn hfit ht.2 (fun h => by cases h) ?_ ?_ (fun _ _ => rfl) (fun _ _ => rfl) (fun d hd' => zq_u1_ne hd') ?_
      · show Value.int (zq_up X.1 c k v c k) = _
        simp [zq_up]
      · intro j hj
        show zq_up X.1 c k v c j = X.1 c j
        simp [zq_up, hj]
      · rw [zq_set_self h2, zq_us_self h1]
        exact K _
    exact key r hr
  · rw [if_neg hv] at hr
    cases hr
theorem zr_putR {c k ci idx j : Nat} {ty : FieldType} {f : zq_M → Option ρ} (hd : decode Y.2.1 pc = .ok (.putfield idx, 3)) (hf : zq_FL Y.1.cls idx ci k) (hk : zq_kd sh c k = some (ci, 2)) (ht : zq_nf ci k false ty) (hn : narrow ty (.ref (zq_ad G j)) = .ref (zq_ad G j)) (hfit : fits ty (.ref (zq_ad G j)) = true) (K : ∀ X1, zq_V G Y lv enc kc kn (pc + 3) lo st sh z X1 (f X1)) : zq_V G Y lv enc kc kn pc lo (.ref (zq_ad G j) :: .ref (zq_ad G c) :: st) sh z X (zq_b (zq_u3 X c k (some j)) f) := by
  obtain ⟨ks, h1, h2⟩ := zq_kd_spec hk
  refine zq_putG (X1 := zq_u3 X c k (some j)) (kd1 := 2) false h1 (List.getElem?_eq_some_iff.mp h2).1 hf hd ht.1 hn hfit ht.2 (fun h => by cases h) ?_ (fun _ _ => rfl) (fun _ _ => rfl) ?_ (fun d hd' => zq_u3_ne hd') ?_
  · show va_rf ((zq_up X.2.2 c k (some j) c k).map (zq_ad G)) = _
    simp [zq_up, va_rf]
  · intro i hi
    show zq_up X.2.2 c k (some j) c i = X.2.2 c i
    simp [zq_up, hi]
  · rw [zq_set_self h2, zq_us_self h1]
    exact K _
theorem zr_putC {c k ci idx j : Nat} {ty : FieldType} {ks : List Nat} (hd : decode Y.2.1 pc = .ok (.putfield idx, 3)) (hf : zq_FL Y.1.cls idx ci k) (hk : zq_kd sh c k = some (ci, 3)) (hs : sh c = some (.inl (ci, ks))) (ht : zq_nf ci k true ty) (hi : Y.1.name = "<init>") (ho : ∀ q : vw_C, vwCl[ci]? = some q → (q.2.1 k).1 = Y.1.cls) (hn : narrow ty (.ref (zq_ad G j)) = .ref (zq_ad G j)) (hfit : fits ty (.ref (zq_ad G j)) = true) (K : zq_V G Y lv enc kc kn (pc + 3) lo st (zq_us sh c (.inl (ci, ks.set k (j + 4)))) z X o) : zq_V G Y lv enc kc kn pc lo (.ref (zq_ad G j) :: .ref (zq_ad G c) :: st) sh z X o := by
  obtain ⟨ks', h1, h2⟩ := zq_kd_spec hk
  cases h1.symm.trans hs
  exact zq_putG (X1 := X) (kd1 := j + 4) true hs (List.getElem?_eq_some_iff.mp h2).1 hf hd ht.1 hn hfit ht.2 (fun _ => ⟨hi, ho⟩) rfl (fun _ _ => rfl) (fun _ _ => rfl) (fun _ _ => rfl) (fun d _ => ⟨rfl, rfl, rfl⟩) K
end
section
variable {ρ : Type} {G : zq_G} {Y : zq_Y} {lv : zq_L} {enc : ρ → Option Value × zq_W} {kc kn pc : Nat} {lo : List (Nat × Value)} {st : List Value} {sh : zq_H} {z : Nat} {X : zq_M} {o : Option ρ}
def zq_tk (kd : Nat) : FieldType := match kd with
  | 0 => .int
  | 1 => .boolean
  | 2 => .long
  | 3 => .object "MiddleSpeaks$House"
  | _ => .object "MiddleSpeaks$Tape"
theorem zq_ck_some {i : Int32} {n : Nat} {r : ρ} (h : zq_ck i n o = some r) : vp_in i n ∧ o = some r := by
  unfold zq_ck at h
  split at h
  · cases h
  · rename_i g
    exact ⟨g, h⟩
theorem zr_iald {a n : Nat} {i : Int32} (hd : decode Y.2.1 pc = .ok (.iaload, 1)) (ha : sh a = some (.inr (0, n))) (K : zq_V G Y lv enc kc kn (pc + 1) lo (.int (X.1 a (zq_ix i)) :: st) sh z X o) : zq_V G Y lv enc kc kn pc lo (.int i :: .ref (zq_ad G a) :: st) sh z X (zq_ck i n o) := by
  intro r hr p e s m args below meth c A H locs ls C hz hS hA hP hl
  obtain ⟨hi, hr⟩ := zq_ck_some hr
  exact va_iald C.1 C.2.1 C.2.2.2.2.2.2.2.2.1 (zq_one hP ha) 0 0 rfl rfl hi hd (K r hr p e s m args below meth c A H locs ls C hz hS hA hP hl)
theorem zr_zald {a n : Nat} {i : Int32} (hd : decode Y.2.1 pc = .ok (.baload, 1)) (ha : sh a = some (.inr (1, n))) (K : zq_V G Y lv enc kc kn (pc + 1) lo (.int (X.1 a (zq_ix i)) :: st) sh z X o) : zq_V G Y lv enc kc kn pc lo (.int i :: .ref (zq_ad G a) :: st) sh z X (zq_ck i n o) := by
  intro r hr p e s m args below meth c A H locs ls C hz hS hA hP hl
  obtain ⟨hi, hr⟩ := zq_ck_some hr
  exact va_zald C.1 C.2.1 C.2.2.2.2.2.2.2.2.1 (zq_one hP ha) 0 1 rfl rfl hi hd (K r hr p e s m args below meth c A H locs ls C hz hS hA hP hl)
theorem zr_lald {a n : Nat} {i : Int32} (hd : decode Y.2.1 pc = .ok (.laload, 1)) (ha : sh a = some (.inr (2, n))) (K : zq_V G Y lv enc kc kn (pc + 1) lo (.long (X.2.1 a (zq_ix i)) :: st) sh z X o) : zq_V G Y lv enc kc kn pc lo (.int i :: .ref (zq_ad G a) :: st) sh z X (zq_ck i n o) := by
  intro r hr p e s m args below meth c A H locs ls C hz hS hA hP hl
  obtain ⟨hi, hr⟩ := zq_ck_some hr
  exact va_lald C.1 C.2.1 C.2.2.2.2.2.2.2.2.1 (zq_one hP ha) 0 2 rfl rfl hi hd (K r hr p e s m args below meth c A H locs ls C hz hS hA hP hl)
theorem zr_aald {a n kd : Nat} {C0 : String} {i : Int32} {b : Nat → Bool} {f : Nat → Option ρ} (hd : decode Y.2.1 pc = .ok (.aaload, 1)) (ha : sh a = some (.inr (kd, n))) (hk : (zq_ty G)[kd]? = some (zq_aC G kd, .object C0)) (hk3 : ∀ f1 f2 f3, zq_ar G f1 f2 f3 kd n = (n, .inr (.inr (.inr (.inr (fun j => (f3 j).map (zq_ad G))))))) (K : ∀ h, b h = true → zq_V G Y lv enc kc kn (pc + 1) lo (.ref (zq_ad G h) :: st) sh z X (f h)) : zq_V G Y lv enc kc kn pc lo (.int i :: .ref (zq_ad G a) :: st) sh z X (zq_ck i n (zq_nn (X.2.2 a (zq_ix i)) b f)) := by
  intro r hr p e s m args below meth c A H locs ls C hz hS hA hP hl
  obtain ⟨hi, hr⟩ := zq_ck_some hr
  have h1 := zq_one hP ha
  unfold zq_cell zq_cel at h1
  simp only [hk3] at h1
  refine va_aldq C.1 C.2.1 C.2.2.2.2.2.2.2.2.1 h1 0 kd rfl hk hi hd ?_
  unfold zq_nn at hr
  show W p G.1 e (zq_R lv) s m args below meth c H locs kc kn _ (F0 m (pc + 1) ls (va_rf ((X.2.2 a (zq_ix i)).map (zq_ad G)) :: st))
  cases hX : X.2.2 a (zq_ix i) with
  | none => rw [hX] at hr; cases hr
  | some h =>
    rw [hX] at hr
    by_cases hb : b h = true
    · simp only [hb, if_true] at hr
      exact K h hb r hr p e s m args below meth c A H locs ls C hz hS hA hP hl
    · simp only [hb] at hr
      cases hr
theorem zq_arW {c a n kd : Nat} {X1 : zq_M} {H1 : Heap} {p : Program} {e : Env} {s : State} {m : MethodId} {args : Array Value} {below : List Frame} {meth : Method} {c' : Code} {A : Nat → Prop} {H : Heap} {locs : List Loc} {ls : Array Slot} {r : ρ} (hr : o = some r) (ha : sh a = some (.inr (kd, n))) (C : zq_C G Y p s m args meth c' A) (hz : H.size = z) (hS : va_S A s.heap H locs) (hA : ∀ c s, sh c = some s → A (zq_ad G c)) (hP : zq_P G sh X H) (hl : lv_has ls Y.2.2.1 lo) (K : zq_V G Y lv enc kc kn c lo st sh z X1 o) (hX : ∀ d, d ≠ a → X1.1 d = X.1 d ∧ X1.2.1 d = X.2.1 d ∧ X1.2.2 d = X.2.2 d) {k : Nat} (hc : H1[zq_ad G a]? = some (vp_cell (zq_aC G kd) (zq_ar G (X1.1 a) (X1.2.1 a) (X1.2.2 a) kd n))) (e2 : H1.size = H.size) (e3 : ∀ q : Nat, q ≠ zq_ad G a → H1[q]? = H[q]?) : W p G.1 e (zq_R lv) s m args below meth c' H1 (locs ++ [⟨zq_ad G a, k⟩]) kc kn (MQ below (zq_Q G A (enc r)) args s lv.2.1 lv.2.2 A) (F0 m c ls st) :=
  K r hr p e s m args below meth c' A H1 _ ls C (e2.trans hz) (hS.put e2 e3 (hA a _ ha)) hA (hP.upd (c := a) (s1 := .inr (kd, n)) hc ha (fun _ _ => rfl) hX (fun d _ hd' _ => e3 _ (fun e => hd' (zq_ad_inj e)))) hl
theorem zr_iast {a n : Nat} {i v : Int32} {f : zq_M → Option ρ} (hd : decode Y.2.1 pc = .ok (.iastore, 1)) (ha : sh a = some (.inr (0, n))) (K : ∀ X1, zq_V G Y lv enc kc kn (pc + 1) lo st sh z X1 (f X1)) : zq_V G Y lv enc kc kn pc lo (.int v :: .int i :: .ref (zq_ad G a) :: st) sh z X (zq_ck i n (zq_b (zq_u1 X a (zq_ix i) v) f)) := by
  intro r hr p e s m args below meth c A H locs ls C hz hS hA hP hl
  obtain ⟨hi, hr⟩ := zq_ck_some hr
  refine W.iast C.1 C.2.1 (hP a _ ha) ((C.2.2.2.2.2.2.2.2.1.2 0 _ rfl).1 n (fun j => .int (X.1 a j))) (fun q => by cases q) (by show ¬ (i < 0 ∨ (arrV _ _ _).slots.size ≤ _); rw [arrV_size]; exact hi) rfl rfl hd fun H1 e1 e2 e3 => ?_
  refine zq_arW hr ha C hz hS hA hP hl (K (zq_u1 X a (zq_ix i) v)) (fun d hd' => zq_u1_ne hd') ?_ e2 e3
  rw [e1]
  show some ((arrV (zq_aC G 0) n (fun j => .int (X.1 a j))).setSlot _ _) = some (arrV (zq_aC G 0) n (fun j => .int (zq_up X.1 a (zq_ix i) v a j)))
  rw [arrV_store]
  congr 2
  funext q
  by_cases hq : q = i.toNatClampNeg
  · subst hq
    simp [updV, zq_up, zq_ix]
  · simp [updV, zq_up, zq_ix, hq]
theorem zr_zast {a n : Nat} {i v : Int32} {f : zq_M → Option ρ} (hd : decode Y.2.1 pc = .ok (.bastore, 1)) (ha : sh a = some (.inr (1, n))) (K : ∀ X1, zq_V G Y lv enc kc kn (pc + 1) lo st sh z X1 (f X1)) : zq_V G Y lv enc kc kn pc lo (.int v :: .int i :: .ref (zq_ad G a) :: st) sh z X (zq_ck i n (zq_b (zq_u1 X a (zq_ix i) (vp_nar .boolean v)) f)) := by
  intro r hr p e s m args below meth c A H locs ls C hz hS hA hP hl
  obtain ⟨hi, hr⟩ := zq_ck_some hr
  refine W.zast C.1 C.2.1 (hP a _ ha) ((C.2.2.2.2.2.2.2.2.1.2 1 _ rfl).1 n (fun j => .int (X.1 a j))) (fun q => by cases q) (by show ¬ (i < 0 ∨ (arrV _ _ _).slots.size ≤ _); rw [arrV_size]; exact hi) rfl rfl hd fun H1 e1 e2 e3 => ?_
  refine zq_arW hr ha C hz hS hA hP hl (K (zq_u1 X a (zq_ix i) (vp_nar .boolean v))) (fun d hd' => zq_u1_ne hd') ?_ e2 e3
  rw [e1]
  show some ((arrV (zq_aC G 1) n (fun j => .int (X.1 a j))).setSlot _ _) = some (arrV (zq_aC G 1) n (fun j => .int (zq_up X.1 a (zq_ix i) (vp_nar .boolean v) a j)))
  rw [arrV_store]
  congr 2
  funext q
  by_cases hq : q = i.toNatClampNeg
  · subst hq
    simp [updV, zq_up, zq_ix, vp_nar]
    try rfl
  · simp [updV, zq_up, zq_ix, hq]
theorem zr_last {a n : Nat} {i : Int32} {v : Int64} {f : zq_M → Option ρ} (hd : decode Y.2.1 pc = .ok (.lastore, 1)) (ha : sh a = some (.inr (2, n))) (K : ∀ X1, zq_V G Y lv enc kc kn (pc + 1) lo st sh z X1 (f X1)) : zq_V G Y lv enc kc kn pc lo (.long v :: .int i :: .ref (zq_ad G a) :: st) sh z X (zq_ck i n (zq_b (zq_u2 X a (zq_ix i) v) f)) := by
  intro r hr p e s m args below meth c A H locs ls C hz hS hA hP hl
  obtain ⟨hi, hr⟩ := zq_ck_some hr
  refine W.last C.1 C.2.1 (hP a _ ha) ((C.2.2.2.2.2.2.2.2.1.2 2 _ rfl).1 n (fun j => .long (X.2.1 a j))) (fun q => by cases q) (by show ¬ (i < 0 ∨ (arrV _ _ _).slots.size ≤ _); rw [arrV_size]; exact hi) rfl rfl hd fun H1 e1 e2 e3 => ?_
  refine zq_arW hr ha C hz hS hA hP hl (K (zq_u2 X a (zq_ix i) v)) (fun d hd' => zq_u2_ne hd') ?_ e2 e3
  rw [e1]
  show some ((arrV (zq_aC G 2) n (fun j => .long (X.2.1 a j))).setSlot _ _) = some (arrV (zq_aC G 2) n (fun j => .long (zq_up X.2.1 a (zq_ix i) v a j)))
  rw [arrV_store]
  congr 2
  funext q
  by_cases hq : q = i.toNatClampNeg
  · subst hq
    simp [updV, zq_up, zq_ix]
  · simp [updV, zq_up, zq_ix, hq]
theorem zr_alen {a n kd : Nat} {v : Int32} (hd : decode Y.2.1 pc = .ok (.arraylength, 1)) (ha : sh a = some (.inr (kd, n))) (hk : kd < 5) (hv : Int32.ofNat n = v) (K : zq_V G Y lv enc kc kn (pc + 1) lo (.int v :: st) sh z X o) : zq_V G Y lv enc kc kn pc lo (.ref (zq_ad G a) :: st) sh z X o := by
  intro r hr p e s m args below meth c A H locs ls C hz hS hA hP hl
  obtain ⟨ty, hty⟩ : ∃ ty, (zq_ty G)[kd]? = some (zq_aC G kd, ty) := by
    match kd, hk with
    | 0, _ => exact ⟨_, rfl⟩
    | 1, _ => exact ⟨_, rfl⟩
    | 2, _ => exact ⟨_, rfl⟩
    | 3, _ => exact ⟨_, rfl⟩
    | 4, _ => exact ⟨_, rfl⟩
  refine va_alen C.1 C.2.1 C.2.2.2.2.2.2.2.2.1 (zq_one hP ha) 0 kd (cA := zq_aC G kd) (x := zq_ar G (X.1 a) (X.2.1 a) (X.2.2 a) kd n) rfl hty ?_ hd (K r hr p e s m args below meth c A H locs ls C hz hS hA hP hl)
  rw [← hv]
  unfold zq_ar
  split <;> rfl
theorem zr_nm {v : Int32} {f : Int32 → Option ρ} (K : ∀ x, zq_V G Y lv enc kc kn pc lo (.int x :: st) sh z X (f x)) : zq_V G Y lv enc kc kn pc lo (.int v :: st) sh z X (zq_b v f) := K v
theorem zr_nml {v : Int64} {f : Int64 → Option ρ} (K : ∀ x, zq_V G Y lv enc kc kn pc lo (.long x :: st) sh z X (f x)) : zq_V G Y lv enc kc kn pc lo (.long v :: st) sh z X (zq_b v f) := K v
theorem zr_lo {l2 : List (Nat × Value)} (ks : List Nat) (h : lv_pick lo ks = l2) (K : zq_V G Y lv enc kc kn pc l2 st sh z X o) : zq_V G Y lv enc kc kn pc lo st sh z X o := by
  intro r hr p e s m args below meth c A H locs ls C hz hS hA hP hl
  exact K r hr p e s m args below meth c A H locs ls C hz hS hA hP (lv_sub hl ks h)
theorem zq_end {p : Program} {e : Env} {s : State} {m : MethodId} {args : Array Value} {below : List Frame} {meth : Method} {c : Code} {A : Nat → Prop} {H : Heap} {locs : List Loc} {g : JFrame} {w : Option Value × zq_W} {mc ms : Nat} (h1 : kc ≤ mc) (h2 : kn ≤ ms) (K : W p G.1 e (zq_R lv) s m args below meth c H locs mc ms (MQ below (zq_Q G A w) args s mc ms A) g) : W p G.1 e (zq_R lv) s m args below meth c H locs kc kn (MQ below (zq_Q G A w) args s mc ms A) g := W.widen h1 h2 K
theorem zr_ireturn {v : Int32} {q : ρ} (hd : decode Y.2.1 pc = .ok (.ireturn, 1)) (hy : Y.2.2.2 = some .int) (he : enc q = (some (.int v), sh, z, X)) (h1 : kc ≤ lv.2.1) (h2 : kn ≤ lv.2.2) : zq_V G Y lv enc kc kn pc lo [.int v] sh z X (some q) := by
  intro r hr p e s m args below meth c A H locs ls C hz hS hA hP hl
  cases hr
  refine zq_end h1 h2 (W.iret C.1 C.2.1 (C.2.2.1.trans hy) (fun t ht hW => ?_) hS.2.2 hd C.2.2.2.2.2.2.1)
  rw [he]
  exact ⟨rfl, by rw [ht]; exact hz, by rw [ht]; exact hP, hA, hS.F ht⟩
theorem zr_zreturn {v : Int32} {q : ρ} {ty : FieldType} (hd : decode Y.2.1 pc = .ok (.ireturn, 1)) (hy : Y.2.2.2 = some ty) (hn : narrow ty (.int v) = .int v) (he : enc q = (some (.int v), sh, z, X)) (h1 : kc ≤ lv.2.1) (h2 : kn ≤ lv.2.2) : zq_V G Y lv enc kc kn pc lo [.int v] sh z X (some q) := by
  intro r hr p e s m args below meth c A H locs ls C hz hS hA hP hl
  cases hr
  refine zq_end h1 h2 (W.zret C.1 C.2.1 (C.2.2.1.trans hy) hn (fun t ht hW => ?_) hS.2.2 hd C.2.2.2.2.2.2.1)
  rw [he]
  exact ⟨rfl, by rw [ht]; exact hz, by rw [ht]; exact hP, hA, hS.F ht⟩
theorem zr_zreturnG {v : Int32} {q : ρ} (hd : decode Y.2.1 pc = .ok (.ireturn, 1)) (hy : Y.2.2.2 = some .boolean) (he : enc q = (some (.int v), sh, z, X)) (h1 : kc ≤ lv.2.1) (h2 : kn ≤ lv.2.2) : zq_V G Y lv enc kc kn pc lo [.int v] sh z X (zq_gz v (some q)) := by
  intro r hr
  unfold zq_gz at hr
  by_cases hv : v = 0 ∨ v = 1
  · rw [if_pos hv] at hr
    have hn : narrow .boolean (.int v) = .int v := by rcases hv with h | h <;> (subst h; rfl)
    exact zr_zreturn (q := q) hd hy hn he h1 h2 r hr
  · rw [if_neg hv] at hr
    cases hr
theorem zr_lreturn {v : Int64} {q : ρ} (hd : decode Y.2.1 pc = .ok (.lreturn, 1)) (hy : Y.2.2.2 = some .long) (he : enc q = (some (.long v), sh, z, X)) (h1 : kc ≤ lv.2.1) (h2 : kn ≤ lv.2.2) : zq_V G Y lv enc kc kn pc lo [.long v] sh z X (some q) := by
  intro r hr p e s m args below meth c A H locs ls C hz hS hA hP hl
  cases hr
  refine zq_end h1 h2 (W.lret C.1 C.2.1 (C.2.2.1.trans hy) (fun t ht hW => ?_) hS.2.2 hd C.2.2.2.2.2.2.1)
  rw [he]
  exact ⟨rfl, by rw [ht]; exact hz, by rw [ht]; exact hP, hA, hS.F ht⟩
theorem zr_vreturn {q : ρ} (hd : decode Y.2.1 pc = .ok (.return_, 1)) (hy : Y.2.2.2 = none) (he : enc q = (none, sh, z, X)) (h1 : kc ≤ lv.2.1) (h2 : kn ≤ lv.2.2) : zq_V G Y lv enc kc kn pc lo [] sh z X (some q) := by
  intro r hr p e s m args below meth c A H locs ls C hz hS hA hP hl
  cases hr
  refine zq_end h1 h2 (W.vret C.1 C.2.1 (C.2.2.1.trans hy) (fun t ht hW => ?_) hS.2.2 hd C.2.2.2.2.2.2.1)
  rw [he]
  exact ⟨rfl, by rw [ht]; exact hz, by rw [ht]; exact hP, hA, hS.F ht⟩
theorem zr_areturn {j : Nat} {q : ρ} {C0 : String} (hd : decode Y.2.1 pc = .ok (.areturn, 1)) (hy : Y.2.2.2 = some (.object C0)) (he : enc q = (some (.ref (zq_ad G j)), sh, z, X)) (h1 : kc ≤ lv.2.1) (h2 : kn ≤ lv.2.2) : zq_V G Y lv enc kc kn pc lo [.ref (zq_ad G j)] sh z X (some q) := by
  intro r hr p e s m args below meth c A H locs ls C hz hS hA hP hl
  cases hr
  refine zq_end h1 h2 (W.aret C.1 C.2.1 (C.2.2.1.trans hy) (Or.inl ⟨_, rfl⟩) (Or.inr ⟨_, rfl⟩) (fun t ht hW => ?_) hS.2.2 hd C.2.2.2.2.2.2.1)
  rw [he]
  exact ⟨rfl, by rw [ht]; exact hz, by rw [ht]; exact hP, hA, hS.F ht⟩
end
end
section

def zq_A (G : zq_G) (sh : zq_H) (z : Nat) : Nat → Prop := fun q => (∃ (c : Nat) (s : zq_S), sh c = some s ∧ q = zq_ad G c) ∨ z ≤ q
def zq_B (G : zq_G) (sh : zq_H) (z : Nat) (X : zq_M) (U : State) : Prop := U.heap.size = z ∧ zq_P G sh X U.heap ∧ va_K G.2.1 vwCl (zq_ty G) U ∧ zq_E G (zq_A G sh z) U U.heap
def zq_ws (Y : zq_Y) : List Cond := Cond.code Y.1 Y.2.1 Y.2.2.1 Y.2.2.2 :: zq_T
theorem zq_good {ws : List Cond} (h : ∀ w ∈ ws, w ∈ zq_T) : GoodIn zq_T ws := fun w hw => ⟨h w hw, good_of_word (List.mem_filter.mp (h w hw)).2⟩
theorem zq_blind {G : zq_G} {sh : zq_H} {z : Nat} {X : zq_M} {args : List Value} : FrameBlind (va_Pc args (zq_B G sh z X)) := by
  intro a U g mk h
  obtain ⟨h0, h1, h2, h3, h4⟩ := h
  exact ⟨h0, h1, h2, va_K.moved (u := U) (U := U.calling g mk a) (Vm.Alike.refl U.vm) h3, zq_E.same (s := U) (U := U.calling g mk a) rfl h4⟩
theorem zq_met {ρ : Type} {G : zq_G} {Y : zq_Y} {lv : zq_L} {enc : ρ → Option Value × zq_W} {sh : zq_H} {z : Nat} {X : zq_M} {o : Option ρ} {args : List Value} {r : ρ} (hV : zq_V G Y lv enc 0 0 0 (lv_args 0 args) [] sh z X o) (hr : o = some r) (hp : plainName Y.1.cls = true) (hlen : (lg_sl args).length ≤ Y.2.2.1) :
    Met G.1 Y.1 (zq_ws Y) (zq_R lv) (va_Pc args (zq_B G sh z X)) (zq_Q G (zq_A G sh z) (enc r)) lv.2.1 lv.2.2 (zq_A G sh z) := by
  refine Met.ofW (cc := Y.2.1) (maxL := Y.2.2.1) (ret := Y.2.2.2) hp rfl ?_
  intro p e s m args' below meth c s₁ B hml hv
  obtain ⟨rfl, hz, hP, hK, hE⟩ := hv
  have hts := atoms_spec (ws := zq_ws Y) B.pre
  have hl := lv_entry args hlen
  rw [lg_entry_eq]
  exact hV r hr p e s m args.toArray below meth c (zq_A G sh z) s.heap [] _ ⟨B.exec, B.bytes, B.returns, hml, findClass_of_methodNamed B.named, fun w hw => hts w (List.mem_cons_of_mem _ hw), B.notSynchronized, (name_of_methodNamed B.named B.method).1, hK, hE, fun q hq => Or.inr (by rw [← hz]; exact hq)⟩ hz va_S.rf (fun c s hc => Or.inl ⟨c, s, hc, rfl⟩) hP hl
def zq_cd (Y : zq_Y) (n : Nat) : Prop := Cond.code Y.1 Y.2.1 Y.2.2.1 Y.2.2.2 ∈ zq_T ∧ Cond.initialized Y.1.cls ∈ zq_T ∧ (Y.1.cls ≠ "java/lang/invoke/MethodHandle" ∧ Y.1.cls ≠ "java/lang/invoke/VarHandle" ∧ (parseMethodDescriptor Y.1.desc).map (fun d => d.parameters.length) = some n) ∧ plainName Y.1.cls = true ∧ Y.2.2.1 ≤ 40
section
variable {ρ ρ1 : Type} {G : zq_G} {Y Y1 : zq_Y} {lv lv1 : zq_L} {enc : ρ → Option Value × zq_W} {enc1 : ρ1 → Option Value × zq_W} {kc kn pc : Nat} {lo : List (Nat × Value)} {st : List Value} {sh : zq_H} {z : Nat} {X : zq_M} {o1 : Option ρ1} {f : ρ1 → Option ρ}
theorem zq_after {rest : List Value} {r1 : ρ1} {p : Program} {e : Env} {s : State} {m : MethodId} {args a : Array Value} {below : List Frame} {meth : Method} {c : Code} {A : Nat → Prop} {H : Heap} {locs : List Loc} {ls : Array Slot} {r : ρ} {o : Option ρ} (hr : o = some r) (C : zq_C G Y p s m args meth c A) (hz : H.size = z) (hS : va_S A s.heap H locs) (hA : ∀ c s, sh c = some s → A (zq_ad G c)) (hl : lv_has ls Y.2.2.1 lo)
    (hrun : va_Run p G.1 e (zq_R lv) s m args below meth c H locs kc kn lv1.2.1 lv1.2.2 (F0 m pc ls st) rest (zq_Q G (zq_A G sh z) (enc1 r1) a) (zq_A G sh z))
    (K : zq_V G Y lv enc (kc + lv1.2.1) (kn + lv1.2.2) (pc + 3) lo ((enc1 r1).1.toList ++ rest) (enc1 r1).2.1 (enc1 r1).2.2.1 (enc1 r1).2.2.2 o) : W p G.1 e (zq_R lv) s m args below meth c H locs kc kn (MQ below (zq_Q G A (enc r)) args s lv.2.1 lv.2.2 A) (F0 m pc ls st) := by
  have hAA : ∀ q, zq_A G sh z q → A q := by
    intro q hq
    rcases hq with ⟨c, s, hc, rfl⟩ | hq
    · exact hA c s hc
    · exact C.2.2.2.2.2.2.2.2.2.2 q (Nat.le_trans hS.1 (by rw [hz]; exact hq))
  intro T hT X0
  obtain ⟨v, st₀, t, T', L, h0, X', hL, e1, e2, ⟨hv, hsz, hP1, hA1, hF1, hF2⟩, stp⟩ := hrun T hT X0
  cases hv
  rw [h0] at hF1 hF2
  obtain ⟨t2, a1, b1⟩ := K r hr p e s m args below meth c A T'.heap (locs ++ L) ls C (by rw [e1]; exact hsz) ⟨Nat.le_trans hS.1 (by rw [e1]; exact hF1), fun q h1 h2 => by rw [e1, hF2 q (Nat.lt_of_lt_of_le h1 hS.1) (fun y => h2 (hAA q y))]; exact hS.2.1 q h1 h2, fun q hq => by
      rcases List.mem_append.mp hq with h | h
      · exact hS.2.2 q h
      · exact hAA _ (hL q h)⟩ (fun c s hc => hAA _ (hA1 c s hc)) (by rw [e1]; exact hP1) hl T' rfl X'
  exact ⟨t2, stp t2 a1, b1⟩
theorem zq_preS {args : List Value} {p : Program} {s : State} {m : MethodId} {a : Array Value} {meth : Method} {c : Code} {A : Nat → Prop} {H : Heap} {locs : List Loc} (C : zq_C G Y p s m a meth c A) (hz : H.size = z) (hS : va_S A s.heap H locs) (hA : ∀ c s, sh c = some s → A (zq_ad G c)) (hP : zq_P G sh X H) : ∀ U : State, U.heap = H → s.WarmedH U.vm → va_Pc args (zq_B G sh z X) args.toArray U := by
  intro U hU hW
  refine ⟨rfl, by rw [hU]; exact hz, by rw [hU]; exact hP, va_K.moved hW.alike C.2.2.2.2.2.2.2.2.1, ?_⟩
  rw [hU]
  refine zq_E.go hW (fun q h1 h2 => hS.2.1 q h1 h2) (fun q hq => ?_) C.2.2.2.2.2.2.2.2.2.1
  rcases hq with ⟨c, s, hc, rfl⟩ | hq
  · exact hA c s hc
  · exact C.2.2.2.2.2.2.2.2.2.2 q (Nat.le_trans hS.1 (by rw [hz]; exact hq))
theorem zq_rm {lv lv1 : zq_L} {mL : Nat} (h : lv1.1 + 1 ≤ lv.1) (hm : mL ≤ 40) : (zq_R lv1).frames + 1 ≤ (zq_R lv).frames ∧ 8 + (mL + 11) + (zq_R lv1).locals ≤ (zq_R lv).locals := by
  refine ⟨h, ?_⟩
  show 8 + (mL + 11) + 60 * lv1.1 ≤ 60 * lv.1
  omega
theorem zr_callV {c ci n idx : Nat} {q : vw_C} {ks : List Nat} {As rest : List Value} (hd : decode Y.2.1 pc = .ok (.invokevirtual idx, 3)) (hV : zq_V G Y1 lv1 enc1 0 0 0 (lv_args 0 (.ref (zq_ad G c) :: As)) [] sh z X o1) (hcd : zq_cd Y1 n) (hin : Cond.instanceMethod Y1.1 ∈ zq_T) (hse : Cond.selects Y1.1.cls Y1.1 Y1.1 ∈ zq_T) (hlk : Cond.methodLink Y.1.cls idx Y1.1 ∈ zq_T) (hs : sh c = some (.inl (ci, ks))) (hci : vwCl[ci]? = some q) (hq : q.1 = Y1.1.cls) (hn : As.length = n) (hst : st = As.reverse ++ .ref (zq_ad G c) :: rest) (hcat : (rest.map fun v => v.category).sum ≤ 8) (hlen : (lg_sl (.ref (zq_ad G c) :: As)).length ≤ Y1.2.2.1) (hlv : lv1.1 + 1 ≤ lv.1) (hf : kc + lv1.2.1 ≤ lv.2.1 ∧ kn + lv1.2.2 ≤ lv.2.2)
    (K : ∀ r1, o1 = some r1 → zq_V G Y lv enc (kc + lv1.2.1) (kn + lv1.2.2) (pc + 3) lo ((enc1 r1).1.toList ++ rest) (enc1 r1).2.1 (enc1 r1).2.2.1 (enc1 r1).2.2.2 (f r1)) : zq_V G Y lv enc kc kn pc lo st sh z X (o1.bind f) := by
  intro r hr p e s m args below meth c' A H locs ls C hz hS hA hP hl
  cases ho : o1 with
  | none => rw [ho] at hr; cases hr
  | some r1 =>
    rw [ho] at hr
    obtain ⟨k1, k2, k3, k4, k5⟩ := hcd
    have hG : GoodIn zq_T (wsV Y.1.cls idx Y1.1.cls Y1.1 (zq_ws Y1)) := by
      refine zq_good (fun w hw => ?_)
      rcases List.mem_append.mp hw with h | h
      · simp only [List.mem_cons, List.not_mem_nil, or_false] at h
        rcases h with rfl | rfl | rfl | rfl <;> assumption
      · rcases List.mem_cons.mp h with rfl | h
        · exact k1
        · exact h
    refine zq_after hr C hz hS hA hl (va_runV (As := As) (rest := rest) ⟨C.1, C.2.1, C.2.2.2.1, C.2.2.2.2.1, C.2.2.2.2.2.1⟩ (zq_met hV ho k4 hlen) (cwV n C.2.2.2.2.2.1 hG rfl rfl rfl ⟨rfl, k3⟩ (zq_rm hlv k5)) ⟨zq_blind, ?_, zq_preS C hz hS hA hP⟩ rfl hn hl.1 hst (lv_room hcat) hd hf) (K r1 ho)
    obtain ⟨cell, g1, g2, g3⟩ := va_recv C.2.2.2.2.2.2.2.2.1 (zq_one hP hs) hci (q0 := 0) rfl
    exact ⟨cell, g1, g2, by rw [← hq]; exact g3⟩
theorem zr_callS {n idx : Nat} {As rest : List Value} (hd : decode Y.2.1 pc = .ok (.invokestatic idx, 3)) (hV : zq_V G Y1 lv1 enc1 0 0 0 (lv_args 0 As) [] sh z X o1) (hcd : zq_cd Y1 n) (hin : Cond.static Y1.1 ∈ zq_T) (hlk : Cond.methodLink Y.1.cls idx Y1.1 ∈ zq_T) (hn : As.length = n) (hst : st = As.reverse ++ rest) (hcat : (rest.map fun v => v.category).sum ≤ 8) (hlen : (lg_sl As).length ≤ Y1.2.2.1) (hlv : lv1.1 + 1 ≤ lv.1) (hf : kc + lv1.2.1 ≤ lv.2.1 ∧ kn + lv1.2.2 ≤ lv.2.2)
    (K : ∀ r1, o1 = some r1 → zq_V G Y lv enc (kc + lv1.2.1) (kn + lv1.2.2) (pc + 3) lo ((enc1 r1).1.toList ++ rest) (enc1 r1).2.1 (enc1 r1).2.2.1 (enc1 r1).2.2.2 (f r1)) : zq_V G Y lv enc kc kn pc lo st sh z X (o1.bind f) := by
  intro r hr p e s m args below meth c' A H locs ls C hz hS hA hP hl
  cases ho : o1 with
  | none => rw [ho] at hr; cases hr
  | some r1 =>
    rw [ho] at hr
    obtain ⟨k1, k2, k3, k4, k5⟩ := hcd
    have hG : GoodIn zq_T (va_wsS Y.1.cls idx Y1.1 (zq_ws Y1)) := by
      refine zq_good (fun w hw => ?_)
      rcases List.mem_append.mp hw with h | h
      · simp only [List.mem_cons, List.not_mem_nil, or_false] at h
        rcases h with rfl | rfl | rfl <;> assumption
      · rcases List.mem_cons.mp h with rfl | h
        · exact k1
        · exact h
    exact zq_after hr C hz hS hA hl (va_runS (As := As) (rest := rest) ⟨C.1, C.2.1, C.2.2.2.1, C.2.2.2.2.1, C.2.2.2.2.2.1⟩ (zq_met hV ho k4 hlen) (va_cwS n C.2.2.2.2.2.1 hG rfl rfl rfl k3 (zq_rm hlv k5)) ⟨zq_blind, zq_preS C hz hS hA hP⟩ rfl hn hl.1 hst (lv_room hcat) hd hf) (K r1 ho)
theorem zr_callI {c n idx : Nat} {As rest : List Value} (hd : decode Y.2.1 pc = .ok (.invokespecial idx, 3)) (hV : zq_V G Y1 lv1 enc1 0 0 0 (lv_args 0 (.ref (zq_ad G c) :: As)) [] sh z X o1) (hcd : zq_cd Y1 n) (hin : Cond.instanceMethod Y1.1 ∈ zq_T) (hi : Y1.1.name = "<init>") (hre : Y1.2.2.2 = none) (hlk : Cond.methodLink Y.1.cls idx Y1.1 ∈ zq_T) (hn : As.length = n) (hst : st = As.reverse ++ .ref (zq_ad G c) :: rest) (hcat : (rest.map fun v => v.category).sum ≤ 8) (hlen : (lg_sl (.ref (zq_ad G c) :: As)).length ≤ Y1.2.2.1) (hlv : lv1.1 + 1 ≤ lv.1) (hf : kc + lv1.2.1 ≤ lv.2.1 ∧ kn + lv1.2.2 ≤ lv.2.2)
    (K : ∀ r1, o1 = some r1 → zq_V G Y lv enc (kc + lv1.2.1) (kn + lv1.2.2) (pc + 3) lo ((enc1 r1).1.toList ++ rest) (enc1 r1).2.1 (enc1 r1).2.2.1 (enc1 r1).2.2.2 (f r1)) : zq_V G Y lv enc kc kn pc lo st sh z X (o1.bind f) := by
  intro r hr p e s m args below meth c' A H locs ls C hz hS hA hP hl
  cases ho : o1 with
  | none => rw [ho] at hr; cases hr
  | some r1 =>
    rw [ho] at hr
    obtain ⟨k1, k2, k3, k4, k5⟩ := hcd
    have hG : GoodIn zq_T (zq_ws Y1) := zq_good (fun w hw => by
      rcases List.mem_cons.mp hw with rfl | h
      · exact k1
      · exact h)
    exact zq_after hr C hz hS hA hl (va_runI (As := As) (rest := rest) ⟨C.1, C.2.1, C.2.2.2.1, C.2.2.2.2.1, C.2.2.2.2.2.1⟩ (zq_met hV ho k4 hlen) (cwI n C.2.2.2.2.2.1 hG (by unfold zq_ws; rw [hre]) rfl rfl (C.2.2.2.2.2.1 _ k2) (C.2.2.2.2.2.1 _ hlk) (C.2.2.2.2.2.1 _ hin) hi k3 (zq_rm hlv k5)) ⟨zq_blind, zq_preS C hz hS hA hP⟩ rfl hn hl.1 hst (lv_room hcat) hd hf) (K r1 ho)
theorem zr_callSN {n idx : Nat} {host : String} {As rest : List Value} (hd : decode Y.2.1 pc = .ok (.invokestatic idx, 3)) (hV : zq_V G Y1 lv1 enc1 0 0 0 (lv_args 0 As) [] sh z X o1) (hcd : zq_cd Y1 n) (hin : Cond.static Y1.1 ∈ zq_T) (hlk : (Y.1.cls, idx, Y1.1, host) ∈ zq_nM) (hn : As.length = n) (hst : st = As.reverse ++ rest) (hcat : (rest.map fun v => v.category).sum ≤ 8) (hlen : (lg_sl As).length ≤ Y1.2.2.1) (hlv : lv1.1 + 1 ≤ lv.1) (hf : kc + lv1.2.1 ≤ lv.2.1 ∧ kn + lv1.2.2 ≤ lv.2.2)
    (K : ∀ r1, o1 = some r1 → zq_V G Y lv enc (kc + lv1.2.1) (kn + lv1.2.2) (pc + 3) lo ((enc1 r1).1.toList ++ rest) (enc1 r1).2.1 (enc1 r1).2.2.1 (enc1 r1).2.2.2 (f r1)) : zq_V G Y lv enc kc kn pc lo st sh z X (o1.bind f) := by
  intro r hr p e s m args below meth c' A H locs ls C hz hS hA hP hl
  cases ho : o1 with
  | none => rw [ho] at hr; cases hr
  | some r1 =>
    rw [ho] at hr
    obtain ⟨k1, k2, k3, k4, k5⟩ := hcd
    have hG : GoodIn zq_T (zq_ws Y1) := zq_good (fun w hw => by
      rcases List.mem_cons.mp hw with rfl | h
      · exact k1
      · exact h)
    exact zq_after hr C hz hS hA hl (va_runSN (host := host) (As := As) (rest := rest) ⟨C.1, C.2.1, C.2.2.2.1, C.2.2.2.2.1, C.2.2.2.2.2.1⟩ (zq_met hV ho k4 hlen) ⟨va_cnB n C.2.2.2.2.2.1 hG rfl rfl rfl (C.2.2.2.2.2.2.2.2.2.1.1 _ hlk) (C.2.2.2.2.2.1 _ k2) k3 (zq_rm hlv k5), C.2.2.2.2.2.1 _ hin, trivial⟩ ⟨zq_blind, zq_preS C hz hS hA hP⟩ rfl hn hl.1 hst (lv_room hcat) hd hf) (K r1 ho)
theorem zr_callIN {c n idx : Nat} {host : String} {As rest : List Value} (hd : decode Y.2.1 pc = .ok (.invokespecial idx, 3)) (hV : zq_V G Y1 lv1 enc1 0 0 0 (lv_args 0 (.ref (zq_ad G c) :: As)) [] sh z X o1) (hcd : zq_cd Y1 n) (hin : Cond.instanceMethod Y1.1 ∈ zq_T) (hi : Y1.1.name = "<init>") (hre : Y1.2.2.2 = none) (hlk : (Y.1.cls, idx, Y1.1, host) ∈ zq_nM) (hn : As.length = n) (hst : st = As.reverse ++ .ref (zq_ad G c) :: rest) (hcat : (rest.map fun v => v.category).sum ≤ 8) (hlen : (lg_sl (.ref (zq_ad G c) :: As)).length ≤ Y1.2.2.1) (hlv : lv1.1 + 1 ≤ lv.1) (hf : kc + lv1.2.1 ≤ lv.2.1 ∧ kn + lv1.2.2 ≤ lv.2.2)
    (K : ∀ r1, o1 = some r1 → zq_V G Y lv enc (kc + lv1.2.1) (kn + lv1.2.2) (pc + 3) lo ((enc1 r1).1.toList ++ rest) (enc1 r1).2.1 (enc1 r1).2.2.1 (enc1 r1).2.2.2 (f r1)) : zq_V G Y lv enc kc kn pc lo st sh z X (o1.bind f) := by
  intro r hr p e s m args below meth c' A H locs ls C hz hS hA hP hl
  cases ho : o1 with
  | none => rw [ho] at hr; cases hr
  | some r1 =>
    rw [ho] at hr
    obtain ⟨k1, k2, k3, k4, k5⟩ := hcd
    have hG : GoodIn zq_T (zq_ws Y1) := zq_good (fun w hw => by
      rcases List.mem_cons.mp hw with rfl | h
      · exact k1
      · exact h)
    exact zq_after hr C hz hS hA hl (va_runIN (host := host) (As := As) (rest := rest) ⟨C.1, C.2.1, C.2.2.2.1, C.2.2.2.2.1, C.2.2.2.2.2.1⟩ (zq_met hV ho k4 hlen) ⟨va_cnB n C.2.2.2.2.2.1 hG (by unfold zq_ws; rw [hre]) rfl rfl (C.2.2.2.2.2.2.2.2.2.1.1 _ hlk) (C.2.2.2.2.2.1 _ k2) k3 (zq_rm hlv k5), hi, C.2.2.2.2.2.1 _ hin⟩ ⟨zq_blind, zq_preS C hz hS hA hP⟩ rfl hn hl.1 hst (lv_room hcat) hd hf) (K r1 ho)
end
section
variable {ρ : Type} {G : zq_G} {Y Y1 : zq_Y} {lv : zq_L} {l1 : Nat} {enc : ρ → Option Value × zq_W} {kc kn pc : Nat} {lo : List (Nat × Value)} {st : List Value} {sh : zq_H} {z : Nat} {X : zq_M}
theorem zr_Vi {o1 : Option (Int32)} {f : (Int32) → Option ρ} {c ci n idx : Nat} {q : vw_C} {ks : List Nat} {rest : List Value} (As : List Value) (hd : decode Y.2.1 pc = .ok (.invokevirtual idx, 3)) (hV : zq_V G Y1 (l1, 0, 0) (zq_ei sh z X) 0 0 0 (lv_args 0 (.ref (zq_ad G c) :: As)) [] sh z X o1) (hcd : zq_cd Y1 n ∧ Cond.instanceMethod Y1.1 ∈ zq_T ∧ Cond.selects Y1.1.cls Y1.1 Y1.1 ∈ zq_T) (hlk : Cond.methodLink Y.1.cls idx Y1.1 ∈ zq_T) (hs : sh c = some (.inl (ci, ks))) (hci : vwCl[ci]? = some q) (hq : q.1 = Y1.1.cls) (hn : As.length = n) (hst : st = As.reverse ++ .ref (zq_ad G c) :: rest) (hcat : (rest.map fun v => v.category).sum ≤ 8) (hlen : (lg_sl (.ref (zq_ad G c) :: As)).length ≤ Y1.2.2.1) (hlv : l1 + 1 ≤ lv.1) (hf : kc ≤ lv.2.1 ∧ kn ≤ lv.2.2) (K : ∀ r1, zq_V G Y lv enc kc kn (pc + 3) lo (.int r1 :: rest) sh z X (f r1)) : zq_V G Y lv enc kc kn pc lo st sh z X (o1.bind f) := zr_callV (enc1 := zq_ei sh z X) hd hV hcd.1 hcd.2.1 hcd.2.2 hlk hs hci hq hn hst hcat hlen hlv hf (fun r1 _ => K r1)
theorem zr_Si {o1 : Option (Int32)} {f : (Int32) → Option ρ} {n idx : Nat} {rest : List Value} (As : List Value) (hd : decode Y.2.1 pc = .ok (.invokestatic idx, 3)) (hV : zq_V G Y1 (l1, 0, 0) (zq_ei sh z X) 0 0 0 (lv_args 0 As) [] sh z X o1) (hcd : zq_cd Y1 n ∧ Cond.static Y1.1 ∈ zq_T) (hlk : Cond.methodLink Y.1.cls idx Y1.1 ∈ zq_T) (hn : As.length = n) (hst : st = As.reverse ++ rest) (hcat : (rest.map fun v => v.category).sum ≤ 8) (hlen : (lg_sl As).length ≤ Y1.2.2.1) (hlv : l1 + 1 ≤ lv.1) (hf : kc ≤ lv.2.1 ∧ kn ≤ lv.2.2) (K : ∀ r1, zq_V G Y lv enc kc kn (pc + 3) lo (.int r1 :: rest) sh z X (f r1)) : zq_V G Y lv enc kc kn pc lo st sh z X (o1.bind f) := zr_callS (enc1 := zq_ei sh z X) hd hV hcd.1 hcd.2 hlk hn hst hcat hlen hlv hf (fun r1 _ => K r1)
theorem zr_Ni {o1 : Option (Int32)} {f : (Int32) → Option ρ} {n idx : Nat} {rest : List Value} (host : String) (As : List Value) (hd : decode Y.2.1 pc = .ok (.invokestatic idx, 3)) (hV : zq_V G Y1 (l1, 0, 0) (zq_ei sh z X) 0 0 0 (lv_args 0 As) [] sh z X o1) (hcd : zq_cd Y1 n ∧ Cond.static Y1.1 ∈ zq_T) (hlk : (Y.1.cls, idx, Y1.1, host) ∈ zq_nM) (hn : As.length = n) (hst : st = As.reverse ++ rest) (hcat : (rest.map fun v => v.category).sum ≤ 8) (hlen : (lg_sl As).length ≤ Y1.2.2.1) (hlv : l1 + 1 ≤ lv.1) (hf : kc ≤ lv.2.1 ∧ kn ≤ lv.2.2) (K : ∀ r1, zq_V G Y lv enc kc kn (pc + 3) lo (.int r1 :: rest) sh z X (f r1)) : zq_V G Y lv enc kc kn pc lo st sh z X (o1.bind f) := zr_callSN (enc1 := zq_ei sh z X) hd hV hcd.1 hcd.2 hlk hn hst hcat hlen hlv hf (fun r1 _ => K r1)
theorem zr_Vsi {o1 : Option (Int32 × zq_M)} {f : (Int32 × zq_M) → Option ρ} {c ci n idx : Nat} {q : vw_C} {ks : List Nat} {rest : List Value} (As : List Value) (hd : decode Y.2.1 pc = .ok (.invokevirtual idx, 3)) (hV : zq_V G Y1 (l1, 0, 0) (zq_si sh z) 0 0 0 (lv_args 0 (.ref (zq_ad G c) :: As)) [] sh z X o1) (hcd : zq_cd Y1 n ∧ Cond.instanceMethod Y1.1 ∈ zq_T ∧ Cond.selects Y1.1.cls Y1.1 Y1.1 ∈ zq_T) (hlk : Cond.methodLink Y.1.cls idx Y1.1 ∈ zq_T) (hs : sh c = some (.inl (ci, ks))) (hci : vwCl[ci]? = some q) (hq : q.1 = Y1.1.cls) (hn : As.length = n) (hst : st = As.reverse ++ .ref (zq_ad G c) :: rest) (hcat : (rest.map fun v => v.category).sum ≤ 8) (hlen : (lg_sl (.ref (zq_ad G c) :: As)).length ≤ Y1.2.2.1) (hlv : l1 + 1 ≤ lv.1) (hf : kc ≤ lv.2.1 ∧ kn ≤ lv.2.2) (K : ∀ r1 X1, zq_V G Y lv enc kc kn (pc + 3) lo (.int r1 :: rest) sh z X1 (f (r1, X1))) : zq_V G Y lv enc kc kn pc lo st sh z X (o1.bind f) := zr_callV (enc1 := zq_si sh z) hd hV hcd.1 hcd.2.1 hcd.2.2 hlk hs hci hq hn hst hcat hlen hlv hf (fun r1 _ => K r1.1 r1.2)
theorem zr_Ssi {o1 : Option (Int32 × zq_M)} {f : (Int32 × zq_M) → Option ρ} {n idx : Nat} {rest : List Value} (As : List Value) (hd : decode Y.2.1 pc = .ok (.invokestatic idx, 3)) (hV : zq_V G Y1 (l1, 0, 0) (zq_si sh z) 0 0 0 (lv_args 0 As) [] sh z X o1) (hcd : zq_cd Y1 n ∧ Cond.static Y1.1 ∈ zq_T) (hlk : Cond.methodLink Y.1.cls idx Y1.1 ∈ zq_T) (hn : As.length = n) (hst : st = As.reverse ++ rest) (hcat : (rest.map fun v => v.category).sum ≤ 8) (hlen : (lg_sl As).length ≤ Y1.2.2.1) (hlv : l1 + 1 ≤ lv.1) (hf : kc ≤ lv.2.1 ∧ kn ≤ lv.2.2) (K : ∀ r1 X1, zq_V G Y lv enc kc kn (pc + 3) lo (.int r1 :: rest) sh z X1 (f (r1, X1))) : zq_V G Y lv enc kc kn pc lo st sh z X (o1.bind f) := zr_callS (enc1 := zq_si sh z) hd hV hcd.1 hcd.2 hlk hn hst hcat hlen hlv hf (fun r1 _ => K r1.1 r1.2)
theorem zr_Vl {o1 : Option (Int64)} {f : (Int64) → Option ρ} {c ci n idx : Nat} {q : vw_C} {ks : List Nat} {rest : List Value} (As : List Value) (hd : decode Y.2.1 pc = .ok (.invokevirtual idx, 3)) (hV : zq_V G Y1 (l1, 0, 0) (zq_el sh z X) 0 0 0 (lv_args 0 (.ref (zq_ad G c) :: As)) [] sh z X o1) (hcd : zq_cd Y1 n ∧ Cond.instanceMethod Y1.1 ∈ zq_T ∧ Cond.selects Y1.1.cls Y1.1 Y1.1 ∈ zq_T) (hlk : Cond.methodLink Y.1.cls idx Y1.1 ∈ zq_T) (hs : sh c = some (.inl (ci, ks))) (hci : vwCl[ci]? = some q) (hq : q.1 = Y1.1.cls) (hn : As.length = n) (hst : st = As.reverse ++ .ref (zq_ad G c) :: rest) (hcat : (rest.map fun v => v.category).sum ≤ 8) (hlen : (lg_sl (.ref (zq_ad G c) :: As)).length ≤ Y1.2.2.1) (hlv : l1 + 1 ≤ lv.1) (hf : kc ≤ lv.2.1 ∧ kn ≤ lv.2.2) (K : ∀ r1, zq_V G Y lv enc kc kn (pc + 3) lo (.long r1 :: rest) sh z X (f r1)) : zq_V G Y lv enc kc kn pc lo st sh z X (o1.bind f) := zr_callV (enc1 := zq_el sh z X) hd hV hcd.1 hcd.2.1 hcd.2.2 hlk hs hci hq hn hst hcat hlen hlv hf (fun r1 _ => K r1)
theorem zr_Sl {o1 : Option (Int64)} {f : (Int64) → Option ρ} {n idx : Nat} {rest : List Value} (As : List Value) (hd : decode Y.2.1 pc = .ok (.invokestatic idx, 3)) (hV : zq_V G Y1 (l1, 0, 0) (zq_el sh z X) 0 0 0 (lv_args 0 As) [] sh z X o1) (hcd : zq_cd Y1 n ∧ Cond.static Y1.1 ∈ zq_T) (hlk : Cond.methodLink Y.1.cls idx Y1.1 ∈ zq_T) (hn : As.length = n) (hst : st = As.reverse ++ rest) (hcat : (rest.map fun v => v.category).sum ≤ 8) (hlen : (lg_sl As).length ≤ Y1.2.2.1) (hlv : l1 + 1 ≤ lv.1) (hf : kc ≤ lv.2.1 ∧ kn ≤ lv.2.2) (K : ∀ r1, zq_V G Y lv enc kc kn (pc + 3) lo (.long r1 :: rest) sh z X (f r1)) : zq_V G Y lv enc kc kn pc lo st sh z X (o1.bind f) := zr_callS (enc1 := zq_el sh z X) hd hV hcd.1 hcd.2 hlk hn hst hcat hlen hlv hf (fun r1 _ => K r1)
theorem zr_Vsl {o1 : Option (Int64 × zq_M)} {f : (Int64 × zq_M) → Option ρ} {c ci n idx : Nat} {q : vw_C} {ks : List Nat} {rest : List Value} (As : List Value) (hd : decode Y.2.1 pc = .ok (.invokevirtual idx, 3)) (hV : zq_V G Y1 (l1, 0, 0) (zq_sl sh z) 0 0 0 (lv_args 0 (.ref (zq_ad G c) :: As)) [] sh z X o1) (hcd : zq_cd Y1 n ∧ Cond.instanceMethod Y1.1 ∈ zq_T ∧ Cond.selects Y1.1.cls Y1.1 Y1.1 ∈ zq_T) (hlk : Cond.methodLink Y.1.cls idx Y1.1 ∈ zq_T) (hs : sh c = some (.inl (ci, ks))) (hci : vwCl[ci]? = some q) (hq : q.1 = Y1.1.cls) (hn : As.length = n) (hst : st = As.reverse ++ .ref (zq_ad G c) :: rest) (hcat : (rest.map fun v => v.category).sum ≤ 8) (hlen : (lg_sl (.ref (zq_ad G c) :: As)).length ≤ Y1.2.2.1) (hlv : l1 + 1 ≤ lv.1) (hf : kc ≤ lv.2.1 ∧ kn ≤ lv.2.2) (K : ∀ r1 X1, zq_V G Y lv enc kc kn (pc + 3) lo (.long r1 :: rest) sh z X1 (f (r1, X1))) : zq_V G Y lv enc kc kn pc lo st sh z X (o1.bind f) := zr_callV (enc1 := zq_sl sh z) hd hV hcd.1 hcd.2.1 hcd.2.2 hlk hs hci hq hn hst hcat hlen hlv hf (fun r1 _ => K r1.1 r1.2)
theorem zr_Ssl {o1 : Option (Int64 × zq_M)} {f : (Int64 × zq_M) → Option ρ} {n idx : Nat} {rest : List Value} (As : List Value) (hd : decode Y.2.1 pc = .ok (.invokestatic idx, 3)) (hV : zq_V G Y1 (l1, 0, 0) (zq_sl sh z) 0 0 0 (lv_args 0 As) [] sh z X o1) (hcd : zq_cd Y1 n ∧ Cond.static Y1.1 ∈ zq_T) (hlk : Cond.methodLink Y.1.cls idx Y1.1 ∈ zq_T) (hn : As.length = n) (hst : st = As.reverse ++ rest) (hcat : (rest.map fun v => v.category).sum ≤ 8) (hlen : (lg_sl As).length ≤ Y1.2.2.1) (hlv : l1 + 1 ≤ lv.1) (hf : kc ≤ lv.2.1 ∧ kn ≤ lv.2.2) (K : ∀ r1 X1, zq_V G Y lv enc kc kn (pc + 3) lo (.long r1 :: rest) sh z X1 (f (r1, X1))) : zq_V G Y lv enc kc kn pc lo st sh z X (o1.bind f) := zr_callS (enc1 := zq_sl sh z) hd hV hcd.1 hcd.2 hlk hn hst hcat hlen hlv hf (fun r1 _ => K r1.1 r1.2)
theorem zr_Vv {o1 : Option (zq_M)} {f : (zq_M) → Option ρ} {c ci n idx : Nat} {q : vw_C} {ks : List Nat} {rest : List Value} (As : List Value) (hd : decode Y.2.1 pc = .ok (.invokevirtual idx, 3)) (hV : zq_V G Y1 (l1, 0, 0) (zq_sv sh z) 0 0 0 (lv_args 0 (.ref (zq_ad G c) :: As)) [] sh z X o1) (hcd : zq_cd Y1 n ∧ Cond.instanceMethod Y1.1 ∈ zq_T ∧ Cond.selects Y1.1.cls Y1.1 Y1.1 ∈ zq_T) (hlk : Cond.methodLink Y.1.cls idx Y1.1 ∈ zq_T) (hs : sh c = some (.inl (ci, ks))) (hci : vwCl[ci]? = some q) (hq : q.1 = Y1.1.cls) (hn : As.length = n) (hst : st = As.reverse ++ .ref (zq_ad G c) :: rest) (hcat : (rest.map fun v => v.category).sum ≤ 8) (hlen : (lg_sl (.ref (zq_ad G c) :: As)).length ≤ Y1.2.2.1) (hlv : l1 + 1 ≤ lv.1) (hf : kc ≤ lv.2.1 ∧ kn ≤ lv.2.2) (K : ∀ X1, zq_V G Y lv enc kc kn (pc + 3) lo rest sh z X1 (f X1)) : zq_V G Y lv enc kc kn pc lo st sh z X (o1.bind f) := zr_callV (enc1 := zq_sv sh z) hd hV hcd.1 hcd.2.1 hcd.2.2 hlk hs hci hq hn hst hcat hlen hlv hf (fun r1 _ => K r1)
theorem zr_Sv {o1 : Option (zq_M)} {f : (zq_M) → Option ρ} {n idx : Nat} {rest : List Value} (As : List Value) (hd : decode Y.2.1 pc = .ok (.invokestatic idx, 3)) (hV : zq_V G Y1 (l1, 0, 0) (zq_sv sh z) 0 0 0 (lv_args 0 As) [] sh z X o1) (hcd : zq_cd Y1 n ∧ Cond.static Y1.1 ∈ zq_T) (hlk : Cond.methodLink Y.1.cls idx Y1.1 ∈ zq_T) (hn : As.length = n) (hst : st = As.reverse ++ rest) (hcat : (rest.map fun v => v.category).sum ≤ 8) (hlen : (lg_sl As).length ≤ Y1.2.2.1) (hlv : l1 + 1 ≤ lv.1) (hf : kc ≤ lv.2.1 ∧ kn ≤ lv.2.2) (K : ∀ X1, zq_V G Y lv enc kc kn (pc + 3) lo rest sh z X1 (f X1)) : zq_V G Y lv enc kc kn pc lo st sh z X (o1.bind f) := zr_callS (enc1 := zq_sv sh z) hd hV hcd.1 hcd.2 hlk hn hst hcat hlen hlv hf (fun r1 _ => K r1)
theorem zr_Vr {o1 : Option (Nat)} {f : (Nat) → Option ρ} {c ci n idx : Nat} {q : vw_C} {ks : List Nat} {rest : List Value} (As : List Value) (hd : decode Y.2.1 pc = .ok (.invokevirtual idx, 3)) (hV : zq_V G Y1 (l1, 0, 0) (zq_er G sh z X) 0 0 0 (lv_args 0 (.ref (zq_ad G c) :: As)) [] sh z X o1) (hcd : zq_cd Y1 n ∧ Cond.instanceMethod Y1.1 ∈ zq_T ∧ Cond.selects Y1.1.cls Y1.1 Y1.1 ∈ zq_T) (hlk : Cond.methodLink Y.1.cls idx Y1.1 ∈ zq_T) (hs : sh c = some (.inl (ci, ks))) (hci : vwCl[ci]? = some q) (hq : q.1 = Y1.1.cls) (hn : As.length = n) (hst : st = As.reverse ++ .ref (zq_ad G c) :: rest) (hcat : (rest.map fun v => v.category).sum ≤ 8) (hlen : (lg_sl (.ref (zq_ad G c) :: As)).length ≤ Y1.2.2.1) (hlv : l1 + 1 ≤ lv.1) (hf : kc ≤ lv.2.1 ∧ kn ≤ lv.2.2) (K : ∀ r1, zq_V G Y lv enc kc kn (pc + 3) lo (.ref (zq_ad G r1) :: rest) sh z X (f r1)) : zq_V G Y lv enc kc kn pc lo st sh z X (o1.bind f) := zr_callV (enc1 := zq_er G sh z X) hd hV hcd.1 hcd.2.1 hcd.2.2 hlk hs hci hq hn hst hcat hlen hlv hf (fun r1 _ => K r1)
theorem zr_Sr {o1 : Option (Nat)} {f : (Nat) → Option ρ} {n idx : Nat} {rest : List Value} (As : List Value) (hd : decode Y.2.1 pc = .ok (.invokestatic idx, 3)) (hV : zq_V G Y1 (l1, 0, 0) (zq_er G sh z X) 0 0 0 (lv_args 0 As) [] sh z X o1) (hcd : zq_cd Y1 n ∧ Cond.static Y1.1 ∈ zq_T) (hlk : Cond.methodLink Y.1.cls idx Y1.1 ∈ zq_T) (hn : As.length = n) (hst : st = As.reverse ++ rest) (hcat : (rest.map fun v => v.category).sum ≤ 8) (hlen : (lg_sl As).length ≤ Y1.2.2.1) (hlv : l1 + 1 ≤ lv.1) (hf : kc ≤ lv.2.1 ∧ kn ≤ lv.2.2) (K : ∀ r1, zq_V G Y lv enc kc kn (pc + 3) lo (.ref (zq_ad G r1) :: rest) sh z X (f r1)) : zq_V G Y lv enc kc kn pc lo st sh z X (o1.bind f) := zr_callS (enc1 := zq_er G sh z X) hd hV hcd.1 hcd.2 hlk hn hst hcat hlen hlv hf (fun r1 _ => K r1)

theorem zr_gd {b : Bool} {o : Option ρ} (K : b = true → zq_V G Y lv enc kc kn pc lo st sh z X o) : zq_V G Y lv enc kc kn pc lo st sh z X (zq_gd b o) := by
  intro r hr
  unfold zq_gd at hr
  by_cases hb : b = true
  · rw [if_pos hb] at hr
    exact K hb r hr
  · rw [if_neg hb] at hr
    cases hr
theorem zr_min {idx : Nat} {x y : Int32} {o : Option ρ} {rest : List Value} (hd : decode Y.2.1 pc = .ok (.invokestatic idx, 3)) (hlk : Cond.methodLink Y.1.cls idx Lib.Math.min.name ∈ zq_T) (h1 : Cond.static Lib.Math.min.name ∈ zq_T) (h2 : Cond.initialized "java/lang/Math" ∈ zq_T) (h3 : Cond.code Lib.Math.min.name Lib.Math.min.code 2 (some .int) ∈ zq_T) (hlv : 1 ≤ lv.1) (hcat : (rest.map fun v => v.category).sum ≤ 8) (hf : kc ≤ lv.2.1 ∧ kn ≤ lv.2.2) (K : zq_V G Y lv enc kc kn (pc + 3) lo (.int (if y < x then y else x) :: rest) sh z X o) : zq_V G Y lv enc kc kn pc lo (.int y :: .int x :: rest) sh z X o := by
  intro r hr p e s m args below meth c A H locs ls C hz hS hA hP hl
  have hts := C.2.2.2.2.2.1
  exact va_mmin C.1 C.2.1 (C.2.2.2.1.trans hl.1.symm) C.2.2.2.2.1 (hts _ hlk) (hts _ h1) (hts _ h2) (hts _ h3) hlv (by show _ + 13 ≤ 60 * lv.1; omega) hf.1 hf.2 hd (K r hr p e s m args below meth c A H locs ls C hz hS hA hP hl)
theorem zr_oinit {idx c : Nat} {o : Option ρ} {rest : List Value} (hd : decode Y.2.1 pc = .ok (.invokespecial idx, 3)) (hlk : Cond.methodLink Y.1.cls idx Lib.objectInit ∈ zq_T) (h1 : Cond.instanceMethod Lib.objectInit ∈ zq_T) (h3 : Cond.code Lib.objectInit ⟨#[0xb1]⟩ 1 none ∈ zq_T) (hlv : 1 ≤ lv.1) (hcat : (rest.map fun v => v.category).sum ≤ 8) (K : zq_V G Y lv enc kc kn (pc + 3) lo rest sh z X o) : zq_V G Y lv enc kc kn pc lo (.ref (zq_ad G c) :: rest) sh z X o := by
  intro r hr p e s m args below meth c' A H locs ls C hz hS hA hP hl
  have hts := C.2.2.2.2.2.1
  exact W.objInit C.1 C.2.1 C.2.2.2.2.1 (hts _ hlk) (hts _ h1) (hts _ h3) rfl (hl.1.trans C.2.2.2.1.symm) rfl hd hlv (by have := lv_room (m := m) (pc := pc) (ls := ls) (rest := [Value.ref (zq_ad G c)]) hcat; show _ + 12 ≤ 60 * lv.1; revert this; show 2 * 0 + _ ≤ 8 → 2 * 0 + _ + 12 ≤ _; omega) (K r hr p e s m args below meth c' A H locs ls C hz hS hA hP hl)
end
end
section
abbrev YX0_init : zq_Y := (yX0_init, cX0_init, 1, none)
def tX0_init : List (Nat × Instr × Nat) := [(0, .aload_n 0, 1), (1, .invokespecial 3, 3), (4, .aload_n 0, 1), (5, .bipush 20, 2), (7, .newarray .int, 2), (9, .putfield 11, 3), (12, .return_, 1)]
set_option maxRecDepth 20000 in
theorem eX0_init : zq_dec tX0_init cX0_init := by unfold zq_dec; decide +kernel
abbrev YX0_forget : zq_Y := (yX0_forget, cX0_forget, 1, none)
def tX0_forget : List (Nat × Instr × Nat) := [(0, .aload_n 0, 1), (1, .iconst 0, 1), (2, .putfield 15, 3), (5, .return_, 1)]
set_option maxRecDepth 20000 in
theorem eX0_forget : zq_dec tX0_forget cX0_forget := by unfold zq_dec; decide +kernel
abbrev YX0_bodyAt : zq_Y := (yX0_bodyAt, cX0_bodyAt, 2, some .int)
def tX0_bodyAt : List (Nat × Instr × Nat) := [(0, .iload_n 1, 1), (1, .iconst 0, 1), (2, .aload_n 0, 1), (3, .getfield 15, 3), (6, .bipush 20, 2), (8, .invokestatic 19, 3), (11, .iconst 1, 1), (12, .isub, 1), (13, .invokestatic 25, 3), (16, .ifCond .eq 12, 3), (19, .aload_n 0, 1), (20, .getfield 11, 3), (23, .iload_n 1, 1), (24, .iaload, 1), (25, .goto 4, 3), (28, .iconst (-1), 1), (29, .ireturn, 1)]
set_option maxRecDepth 20000 in
theorem eX0_bodyAt : zq_dec tX0_bodyAt cX0_bodyAt := by unfold zq_dec; decide +kernel
abbrev YX0_start : zq_Y := (yX0_start, cX0_start, 6, some .int)
def tX0_start : List (Nat × Instr × Nat) := [(0, .aload_n 0, 1), (1, .iload_n 1, 1), (2, .putfield 29, 3), (5, .aload_n 0, 1), (6, .iload_n 2, 1), (7, .putfield 32, 3), (10, .aload_n 0, 1), (11, .iload_n 3, 1), (12, .putfield 35, 3), (15, .aload_n 0, 1), (16, .aload_n 0, 1), (17, .getfield 32, 3), (20, .iload 4, 2), (22, .iload 5, 2), (24, .iconst 0, 1), (25, .invokevirtual 38, 3), (28, .ireturn, 1)]
set_option maxRecDepth 20000 in
theorem eX0_start : zq_dec tX0_start cX0_start := by unfold zq_dec; decide +kernel
abbrev YX0_bodyFrom : zq_Y := (yX0_bodyFrom, cX0_bodyFrom, 5, some .int)
def tX0_bodyFrom : List (Nat × Instr × Nat) := [(0, .iload_n 0, 1), (1, .istore_n 2, 1), (2, .iconst 0, 1), (3, .istore_n 3, 1), (4, .iload_n 3, 1), (5, .bipush 7, 2), (7, .if_icmp .ge 38, 3), (10, .iload_n 2, 1), (11, .ifCond .lt 34, 3), (14, .getstatic 42, 3), (17, .iload_n 2, 1), (18, .iconst 3, 1), (19, .imul, 1), (20, .iload_n 1, 1), (21, .iadd, 1), (22, .iaload, 1), (23, .istore 4, 2), (25, .iload 4, 2), (27, .ifCond .eq 6, 3), (30, .iload 4, 2), (32, .ireturn, 1), (33, .getstatic 45, 3), (36, .iload_n 2, 1), (37, .iaload, 1), (38, .istore_n 2, 1), (39, .iinc 3 1, 3), (42, .goto (-38), 3), (45, .iconst 0, 1), (46, .ireturn, 1)]
set_option maxRecDepth 20000 in
theorem eX0_bodyFrom : zq_dec tX0_bodyFrom cX0_bodyFrom := by unfold zq_dec; decide +kernel
abbrev YX0_doFrom : zq_Y := (yX0_doFrom, cX0_doFrom, 8, some .int)
def tX0_doFrom : List (Nat × Instr × Nat) := [(0, .iload_n 1, 1), (1, .iload_n 2, 1), (2, .invokestatic 48, 3), (5, .istore 5, 2), (7, .iload 5, 2), (9, .ifCond .eq 10, 3), (12, .iload 4, 2), (14, .bipush 40, 2), (16, .if_icmp .le 5, 3), (19, .iconst 0, 1), (20, .ireturn, 1), (21, .aload_n 0, 1), (22, .iload 5, 2), (24, .invokevirtual 51, 3), (27, .getstatic 45, 3), (30, .iload 5, 2), (32, .bipush 10, 2), (34, .idiv, 1), (35, .iconst 1, 1), (36, .isub, 1), (37, .iaload, 1), (38, .istore 6, 2), (40, .iload 4, 2), (42, .iconst 1, 1), (43, .iadd, 1), (44, .istore 7, 2), (46, .iload 5, 2), (48, .lookupswitch 270 #[(10, 100), (11, 107), (12, 125), (20, 140), (30, 154), (40, 167), (50, 191), (51, 203), (60, 216), (70, 232), (71, 254)], 100), (148, .iload_n 3, 1), (149, .aload_n 0, 1), (150, .getfield 29, 3), (153, .iadd, 1), (154, .ireturn, 1), (155, .aload_n 0, 1), (156, .aload_n 0, 1), (157, .getfield 32, 3), (160, .iconst 0, 1), (161, .iload_n 3, 1), (162, .iload 7, 2), (164, .invokevirtual 38, 3), (167, .aload_n 0, 1), (168, .getfield 35, 3), (171, .isub, 1), (172, .ireturn, 1), (173, .aload_n 0, 1), (174, .aload_n 0, 1), (175, .getfield 32, 3), (178, .iconst 1, 1), (179, .iload_n 3, 1), (180, .iload 7, 2), (182, .invokevirtual 38, 3), (185, .iconst 2, 1), (186, .imul, 1), (187, .ireturn, 1), (188, .aload_n 0, 1), (189, .iload 6, 2), (191, .iconst 1, 1), (192, .iload_n 3, 1), (193, .iload 7, 2), (195, .invokevirtual 38, 3), (198, .bipush 6, 2), (200, .ixor, 1), (201, .ireturn, 1), (202, .aload_n 0, 1), (203, .iload 6, 2), (205, .iconst 0, 1), (206, .iload_n 3, 1), (207, .iconst 3, 1), (208, .imul, 1), (209, .iload 7, 2), (211, .invokevirtual 38, 3), (214, .ireturn, 1), (215, .aload_n 0, 1), (216, .iload 6, 2), (218, .iconst 2, 1), (219, .iload_n 3, 1), (220, .iload 7, 2), (222, .invokevirtual 38, 3), (225, .aload_n 0, 1), (226, .aload_n 0, 1), (227, .getfield 32, 3), (230, .iconst 1, 1), (231, .iconst 1, 1), (232, .iload 7, 2), (234, .invokevirtual 38, 3), (237, .iadd, 1), (238, .ireturn, 1), (239, .aload_n 0, 1), (240, .iload 6, 2), (242, .iconst 0, 1), (243, .iload_n 3, 1), (244, .iload 7, 2), (246, .invokevirtual 38, 3), (249, .ineg, 1), (250, .ireturn, 1), (251, .aload_n 0, 1), (252, .iload 6, 2), (254, .iconst 1, 1), (255, .iload_n 3, 1), (256, .iconst 1, 1), (257, .iadd, 1), (258, .iload 7, 2), (260, .invokevirtual 38, 3), (263, .ireturn, 1), (264, .aload_n 0, 1), (265, .iload 6, 2), (267, .iconst 2, 1), (268, .iload_n 3, 1), (269, .aload_n 0, 1), (270, .getfield 29, 3), (273, .isub, 1), (274, .iload 7, 2), (276, .invokevirtual 38, 3), (279, .ireturn, 1), (280, .aload_n 0, 1), (281, .iload 6, 2), (283, .iconst 1, 1), (284, .iload_n 3, 1), (285, .iload 7, 2), (287, .invokevirtual 38, 3), (290, .aload_n 0, 1), (291, .iload 6, 2), (293, .iconst 0, 1), (294, .iconst 2, 1), (295, .iload 7, 2), (297, .invokevirtual 38, 3), (300, .iadd, 1), (301, .ireturn, 1), (302, .aload_n 0, 1), (303, .iload 6, 2), (305, .iconst 0, 1), (306, .iload_n 3, 1), (307, .iload 7, 2), (309, .invokevirtual 38, 3), (312, .aload_n 0, 1), (313, .getfield 35, 3), (316, .ixor, 1), (317, .ireturn, 1), (318, .iconst 0, 1), (319, .ireturn, 1)]
set_option maxRecDepth 20000 in
theorem eX0_doFrom : zq_dec tX0_doFrom cX0_doFrom := by unfold zq_dec; decide +kernel
abbrev YX0_note : zq_Y := (yX0_note, cX0_note, 2, none)
def tX0_note : List (Nat × Instr × Nat) := [(0, .aload_n 0, 1), (1, .getfield 15, 3), (4, .bipush 20, 2), (6, .if_icmp .ge 13, 3), (9, .aload_n 0, 1), (10, .getfield 11, 3), (13, .aload_n 0, 1), (14, .getfield 15, 3), (17, .iload_n 1, 1), (18, .iastore, 1), (19, .aload_n 0, 1), (20, .dup, 1), (21, .getfield 15, 3), (24, .iconst 1, 1), (25, .iadd, 1), (26, .putfield 15, 3), (29, .return_, 1)]
set_option maxRecDepth 20000 in
theorem eX0_note : zq_dec tX0_note cX0_note := by unfold zq_dec; decide +kernel
abbrev YX1_init : zq_Y := (yX1_init, cX1_init, 2, none)
def tX1_init : List (Nat × Instr × Nat) := [(0, .aload_n 0, 1), (1, .invokespecial 3, 3), (4, .aload_n 0, 1), (5, .sipush 1024, 3), (8, .newarray .int, 2), (10, .putfield 11, 3), (13, .aload_n 0, 1), (14, .sipush 1024, 3), (17, .newarray .int, 2), (19, .putfield 17, 3), (22, .aload_n 0, 1), (23, .bipush 96, 2), (25, .newarray .int, 2), (27, .putfield 20, 3), (30, .aload_n 0, 1), (31, .iconst 3, 1), (32, .newarray .int, 2), (34, .putfield 23, 3), (37, .aload_n 0, 1), (38, .iconst 3, 1), (39, .newarray .int, 2), (41, .putfield 26, 3), (44, .aload_n 0, 1), (45, .aload_n 1, 1), (46, .putfield 29, 3), (49, .return_, 1)]
set_option maxRecDepth 20000 in
theorem eX1_init : zq_dec tX1_init cX1_init := by unfold zq_dec; decide +kernel
abbrev YX1_setsOfOneWithout : zq_Y := (yX1_setsOfOneWithout, cX1_setsOfOneWithout, 4, some .int)
def tX1_setsOfOneWithout : List (Nat × Instr × Nat) := [(0, .iconst 0, 1), (1, .istore_n 2, 1), (2, .iconst 0, 1), (3, .istore_n 3, 1), (4, .iload_n 3, 1), (5, .bipush 32, 2), (7, .if_icmp .ge 32, 3), (10, .iload_n 3, 1), (11, .iload_n 0, 1), (12, .ishr, 1), (13, .iconst 1, 1), (14, .iand, 1), (15, .iconst 1, 1), (16, .if_icmp .ne 17, 3), (19, .iload_n 3, 1), (20, .iload_n 1, 1), (21, .ishr, 1), (22, .iconst 1, 1), (23, .iand, 1), (24, .ifCond .ne 9, 3), (27, .iload_n 2, 1), (28, .iconst 1, 1), (29, .iload_n 3, 1), (30, .ishl, 1), (31, .ior, 1), (32, .istore_n 2, 1), (33, .iinc 3 1, 3), (36, .goto (-32), 3), (39, .iload_n 2, 1), (40, .ireturn, 1)]
set_option maxRecDepth 20000 in
theorem eX1_setsOfOneWithout : zq_dec tX1_setsOfOneWithout cX1_setsOfOneWithout := by unfold zq_dec; decide +kernel
abbrev YX1_fewestTill : zq_Y := (yX1_fewestTill, cX1_fewestTill, 4, some .int)
def tX1_fewestTill : List (Nat × Instr × Nat) := [(0, .aload_n 0, 1), (1, .iconst 1, 1), (2, .iconst 2, 1), (3, .aload_n 0, 1), (4, .getfield 29, 3), (7, .getfield 33, 3), (10, .getfield 37, 3), (13, .imul, 1), (14, .ishl, 1), (15, .putfield 43, 3), (18, .aload_n 0, 1), (19, .getfield 11, 3), (22, .iconst 0, 1), (23, .invokestatic 46, 3), (26, .aload_n 0, 1), (27, .getfield 11, 3), (30, .aload_n 0, 1), (31, .getfield 29, 3), (34, .invokevirtual 52, 3), (37, .iconst 1, 1), (38, .iload_n 1, 1), (39, .ishl, 1), (40, .iastore, 1), (41, .iconst 0, 1), (42, .istore_n 3, 1), (43, .iload_n 3, 1), (44, .bipush 6, 2), (46, .if_icmp .gt 32, 3), (49, .iload_n 3, 1), (50, .ifCond .le 7, 3), (53, .aload_n 0, 1), (54, .invokevirtual 56, 3), (57, .aload_n 0, 1), (58, .iload_n 3, 1), (59, .invokevirtual 59, 3), (62, .aload_n 0, 1), (63, .iload_n 2, 1), (64, .invokevirtual 63, 3), (67, .ifCond .eq 5, 3), (70, .iload_n 3, 1), (71, .ireturn, 1), (72, .iinc 3 1, 3), (75, .goto (-32), 3), (78, .bipush (-5), 2), (80, .ireturn, 1)]
set_option maxRecDepth 20000 in
theorem eX1_fewestTill : zq_dec tX1_fewestTill cX1_fewestTill := by unfold zq_dec; decide +kernel
abbrev YX1_goOn : zq_Y := (yX1_goOn, cX1_goOn, 2, none)
def tX1_goOn : List (Nat × Instr × Nat) := [(0, .aload_n 0, 1), (1, .getfield 17, 3), (4, .iconst 0, 1), (5, .invokestatic 46, 3), (8, .iconst 0, 1), (9, .istore_n 1, 1), (10, .iload_n 1, 1), (11, .aload_n 0, 1), (12, .getfield 43, 3), (15, .if_icmp .ge 23, 3), (18, .aload_n 0, 1), (19, .getfield 11, 3), (22, .iload_n 1, 1), (23, .iaload, 1), (24, .ifCond .eq 8, 3), (27, .aload_n 0, 1), (28, .iload_n 1, 1), (29, .invokevirtual 67, 3), (32, .iinc 1 1, 3), (35, .goto (-25), 3), (38, .aload_n 0, 1), (39, .getfield 17, 3), (42, .iconst 0, 1), (43, .aload_n 0, 1), (44, .getfield 11, 3), (47, .iconst 0, 1), (48, .aload_n 0, 1), (49, .getfield 43, 3), (52, .invokestatic 70, 3), (55, .return_, 1)]
set_option maxRecDepth 20000 in
theorem eX1_goOn : zq_dec tX1_goOn cX1_goOn := by unfold zq_dec; decide +kernel
abbrev YX1_leave : zq_Y := (yX1_leave, cX1_leave, 4, none)
def tX1_leave : List (Nat × Instr × Nat) := [(0, .iconst 0, 1), (1, .istore_n 2, 1), (2, .iload_n 2, 1), (3, .aload_n 0, 1), (4, .getfield 29, 3), (7, .getfield 33, 3), (10, .getfield 37, 3), (13, .if_icmp .ge 55, 3), (16, .iconst 0, 1), (17, .istore_n 3, 1), (18, .iload_n 3, 1), (19, .iconst 4, 1), (20, .if_icmp .ge 42, 3), (23, .aload_n 0, 1), (24, .getfield 29, 3), (27, .iload_n 1, 1), (28, .iload_n 2, 1), (29, .iload_n 3, 1), (30, .invokevirtual 76, 3), (33, .ifCond .eq 23, 3), (36, .aload_n 0, 1), (37, .getfield 17, 3), (40, .iload_n 1, 1), (41, .iload_n 2, 1), (42, .iload_n 3, 1), (43, .invokestatic 80, 3), (46, .dup2, 1), (47, .iaload, 1), (48, .aload_n 0, 1), (49, .getfield 11, 3), (52, .iload_n 1, 1), (53, .iaload, 1), (54, .ior, 1), (55, .iastore, 1), (56, .iinc 3 1, 3), (59, .goto (-41), 3), (62, .iinc 2 1, 3), (65, .goto (-63), 3), (68, .return_, 1)]
set_option maxRecDepth 20000 in
theorem eX1_leave : zq_dec tX1_leave cX1_leave := by unfold zq_dec; decide +kernel
abbrev YX1_sayAll : zq_Y := (yX1_sayAll, cX1_sayAll, 4, some .boolean)
def tX1_sayAll : List (Nat × Instr × Nat) := [(0, .iconst 0, 1), (1, .istore_n 2, 1), (2, .iconst 0, 1), (3, .istore_n 3, 1), (4, .iload_n 3, 1), (5, .aload_n 0, 1), (6, .getfield 43, 3), (9, .if_icmp .ge 48, 3), (12, .aload_n 0, 1), (13, .getfield 11, 3), (16, .iload_n 3, 1), (17, .iaload, 1), (18, .ifCond .eq 33, 3), (21, .aload_n 0, 1), (22, .getfield 11, 3), (25, .iload_n 3, 1), (26, .aload_n 0, 1), (27, .iload_n 3, 1), (28, .invokevirtual 84, 3), (31, .iastore, 1), (32, .iload_n 2, 1), (33, .aload_n 0, 1), (34, .getfield 11, 3), (37, .iload_n 3, 1), (38, .iaload, 1), (39, .iload_n 1, 1), (40, .iand, 1), (41, .ifCond .eq 7, 3), (44, .iconst 1, 1), (45, .goto 4, 3), (48, .iconst 0, 1), (49, .ior, 1), (50, .istore_n 2, 1), (51, .iinc 3 1, 3), (54, .goto (-50), 3), (57, .iload_n 2, 1), (58, .ireturn, 1)]
set_option maxRecDepth 20000 in
theorem eX1_sayAll : zq_dec tX1_sayAll cX1_sayAll := by unfold zq_dec; decide +kernel
abbrev YX1_tellSpeakers : zq_Y := (yX1_tellSpeakers, cX1_tellSpeakers, 4, none)
def tX1_tellSpeakers : List (Nat × Instr × Nat) := [(0, .iconst 0, 1), (1, .istore_n 2, 1), (2, .iload_n 2, 1), (3, .iconst 3, 1), (4, .if_icmp .ge 63, 3), (7, .iconst 0, 1), (8, .istore_n 3, 1), (9, .iload_n 3, 1), (10, .aload_n 0, 1), (11, .getfield 29, 3), (14, .getfield 33, 3), (17, .invokevirtual 88, 3), (20, .if_icmp .gt 41, 3), (23, .aload_n 0, 1), (24, .getfield 20, 3), (27, .iload_n 2, 1), (28, .bipush 32, 2), (30, .imul, 1), (31, .iload_n 3, 1), (32, .iadd, 1), (33, .aload_n 0, 1), (34, .getfield 29, 3), (37, .iload_n 2, 1), (38, .iload_n 3, 1), (39, .aload_n 0, 1), (40, .getfield 29, 3), (43, .getfield 33, 3), (46, .getfield 91, 3), (49, .iload_n 1, 1), (50, .iadd, 1), (51, .invokevirtual 94, 3), (54, .iastore, 1), (55, .iinc 3 1, 3), (58, .goto (-49), 3), (61, .iinc 2 1, 3), (64, .goto (-62), 3), (67, .return_, 1)]
set_option maxRecDepth 20000 in
theorem eX1_tellSpeakers : zq_dec tX1_tellSpeakers cX1_tellSpeakers := by unfold zq_dec; decide +kernel
abbrev YX1_saidIn : zq_Y := (yX1_saidIn, cX1_saidIn, 4, some .int)
def tX1_saidIn : List (Nat × Instr × Nat) := [(0, .iconst 0, 1), (1, .istore_n 2, 1), (2, .iload_n 2, 1), (3, .iconst 3, 1), (4, .if_icmp .ge 46, 3), (7, .aload_n 0, 1), (8, .getfield 23, 3), (11, .iload_n 2, 1), (12, .aload_n 0, 1), (13, .getfield 29, 3), (16, .iload_n 1, 1), (17, .iload_n 2, 1), (18, .invokevirtual 97, 3), (21, .iastore, 1), (22, .aload_n 0, 1), (23, .getfield 26, 3), (26, .iload_n 2, 1), (27, .aload_n 0, 1), (28, .getfield 20, 3), (31, .iload_n 2, 1), (32, .bipush 32, 2), (34, .imul, 1), (35, .aload_n 0, 1), (36, .getfield 23, 3), (39, .iload_n 2, 1), (40, .iaload, 1), (41, .iadd, 1), (42, .iaload, 1), (43, .iastore, 1), (44, .iinc 2 1, 3), (47, .goto (-45), 3), (50, .iconst 0, 1), (51, .istore_n 2, 1), (52, .iconst 0, 1), (53, .istore_n 3, 1), (54, .iload_n 3, 1), (55, .aload_n 0, 1), (56, .getfield 29, 3), (59, .getfield 33, 3), (62, .invokevirtual 88, 3), (65, .if_icmp .gt 33, 3), (68, .aload_n 0, 1), (69, .getfield 11, 3), (72, .iload_n 1, 1), (73, .iaload, 1), (74, .iload_n 3, 1), (75, .ishr, 1), (76, .iconst 1, 1), (77, .iand, 1), (78, .iconst 1, 1), (79, .if_icmp .ne 13, 3), (82, .iload_n 2, 1), (83, .iconst 1, 1), (84, .aload_n 0, 1), (85, .iload_n 3, 1), (86, .invokevirtual 101, 3), (89, .ishl, 1), (90, .ior, 1), (91, .istore_n 2, 1), (92, .iinc 3 1, 3), (95, .goto (-41), 3), (98, .iload_n 2, 1), (99, .ireturn, 1)]
set_option maxRecDepth 20000 in
theorem eX1_saidIn : zq_dec tX1_saidIn cX1_saidIn := by unfold zq_dec; decide +kernel
abbrev YX1_knowingThen : zq_Y := (yX1_knowingThen, cX1_knowingThen, 4, some .int)
def tX1_knowingThen : List (Nat × Instr × Nat) := [(0, .iload_n 1, 1), (1, .istore_n 2, 1), (2, .iconst 0, 1), (3, .istore_n 3, 1), (4, .iload_n 3, 1), (5, .iconst 3, 1), (6, .if_icmp .ge 29, 3), (9, .aload_n 0, 1), (10, .getfield 26, 3), (13, .iload_n 3, 1), (14, .iaload, 1), (15, .iload_n 1, 1), (16, .iand, 1), (17, .ifCond .eq 12, 3), (20, .iload_n 2, 1), (21, .aload_n 0, 1), (22, .getfield 23, 3), (25, .iload_n 3, 1), (26, .iaload, 1), (27, .ior, 1), (28, .istore_n 2, 1), (29, .iinc 3 1, 3), (32, .goto (-28), 3), (35, .iload_n 2, 1), (36, .ireturn, 1)]
set_option maxRecDepth 20000 in
theorem eX1_knowingThen : zq_dec tX1_knowingThen cX1_knowingThen := by unfold zq_dec; decide +kernel
abbrev YX2_init : zq_Y := (yX2_init, cX2_init, 1, none)
def tX2_init : List (Nat × Instr × Nat) := [(0, .aload_n 0, 1), (1, .invokespecial 3, 3), (4, .aload_n 0, 1), (5, .bipush 10, 2), (7, .newarray .int, 2), (9, .putfield 9, 3), (12, .aload_n 0, 1), (13, .bipush 10, 2), (15, .newarray .int, 2), (17, .putfield 15, 3), (20, .aload_n 0, 1), (21, .bipush 10, 2), (23, .newarray .int, 2), (25, .putfield 18, 3), (28, .aload_n 0, 1), (29, .bipush 100, 2), (31, .newarray .int, 2), (33, .putfield 21, 3), (36, .return_, 1)]
set_option maxRecDepth 20000 in
theorem eX2_init : zq_dec tX2_init cX2_init := by unfold zq_dec; decide +kernel
abbrev YX2_addStep : zq_Y := (yX2_addStep, cX2_addStep, 2, none)
def tX2_addStep : List (Nat × Instr × Nat) := [(0, .aload_n 0, 1), (1, .getfield 24, 3), (4, .bipush 100, 2), (6, .if_icmp .ge 23, 3), (9, .aload_n 0, 1), (10, .getfield 21, 3), (13, .aload_n 0, 1), (14, .getfield 24, 3), (17, .iload_n 1, 1), (18, .iastore, 1), (19, .aload_n 0, 1), (20, .dup, 1), (21, .getfield 24, 3), (24, .iconst 1, 1), (25, .iadd, 1), (26, .putfield 24, 3), (29, .return_, 1)]
set_option maxRecDepth 20000 in
theorem eX2_addStep : zq_dec tX2_addStep cX2_addStep := by unfold zq_dec; decide +kernel
abbrev YX2_addTest : zq_Y := (yX2_addTest, cX2_addTest, 4, none)
def tX2_addTest : List (Nat × Instr × Nat) := [(0, .aload_n 0, 1), (1, .iload_n 3, 1), (2, .iconst 3, 1), (3, .imul, 1), (4, .iload_n 2, 1), (5, .iadd, 1), (6, .bipush 6, 2), (8, .imul, 1), (9, .iload_n 1, 1), (10, .iadd, 1), (11, .invokevirtual 28, 3), (14, .return_, 1)]
set_option maxRecDepth 20000 in
theorem eX2_addTest : zq_dec tX2_addTest cX2_addTest := by unfold zq_dec; decide +kernel
abbrev YX2_addClause : zq_Y := (yX2_addClause, cX2_addClause, 3, none)
def tX2_addClause : List (Nat × Instr × Nat) := [(0, .aload_n 0, 1), (1, .getfield 32, 3), (4, .bipush 10, 2), (6, .if_icmp .ge 46, 3), (9, .aload_n 0, 1), (10, .getfield 9, 3), (13, .aload_n 0, 1), (14, .getfield 32, 3), (17, .iload_n 1, 1), (18, .iastore, 1), (19, .aload_n 0, 1), (20, .getfield 15, 3), (23, .aload_n 0, 1), (24, .getfield 32, 3), (27, .iload_n 2, 1), (28, .iastore, 1), (29, .aload_n 0, 1), (30, .getfield 18, 3), (33, .aload_n 0, 1), (34, .getfield 32, 3), (37, .aload_n 0, 1), (38, .getfield 24, 3), (41, .iastore, 1), (42, .aload_n 0, 1), (43, .dup, 1), (44, .getfield 32, 3), (47, .iconst 1, 1), (48, .iadd, 1), (49, .putfield 32, 3), (52, .iload_n 1, 1), (53, .iconst 3, 1), (54, .if_icmp .ne 8, 3), (57, .aload_n 0, 1), (58, .iload_n 2, 1), (59, .putfield 35, 3), (62, .return_, 1)]
set_option maxRecDepth 20000 in
theorem eX2_addClause : zq_dec tX2_addClause cX2_addClause := by unfold zq_dec; decide +kernel
abbrev YX2_together : zq_Y := (yX2_together, cX2_together, 5, some .int)
def tX2_together : List (Nat × Instr × Nat) := [(0, .iconst 0, 1), (1, .istore_n 3, 1), (2, .iconst 0, 1), (3, .istore 4, 2), (5, .iload 4, 2), (7, .aload_n 0, 1), (8, .getfield 32, 3), (11, .if_icmp .ge 40, 3), (14, .aload_n 0, 1), (15, .getfield 9, 3), (18, .iload 4, 2), (20, .iaload, 1), (21, .iload_n 1, 1), (22, .if_icmp .ne 23, 3), (25, .aload_n 0, 1), (26, .iload 4, 2), (28, .aload_n 2, 1), (29, .invokevirtual 38, 3), (32, .ifCond .eq 13, 3), (35, .iload_n 3, 1), (36, .aload_n 0, 1), (37, .getfield 15, 3), (40, .iload 4, 2), (42, .iaload, 1), (43, .iadd, 1), (44, .istore_n 3, 1), (45, .iinc 4 1, 3), (48, .goto (-43), 3), (51, .iload_n 3, 1), (52, .ireturn, 1)]
set_option maxRecDepth 20000 in
theorem eX2_together : zq_dec tX2_together cX2_together := by unfold zq_dec; decide +kernel
abbrev YX2_hasBar : zq_Y := (yX2_hasBar, cX2_hasBar, 3, some .boolean)
def tX2_hasBar : List (Nat × Instr × Nat) := [(0, .iconst 0, 1), (1, .istore_n 2, 1), (2, .iload_n 2, 1), (3, .aload_n 0, 1), (4, .getfield 32, 3), (7, .if_icmp .ge 30, 3), (10, .aload_n 0, 1), (11, .getfield 9, 3), (14, .iload_n 2, 1), (15, .iaload, 1), (16, .iconst 1, 1), (17, .if_icmp .ne 14, 3), (20, .aload_n 0, 1), (21, .iload_n 2, 1), (22, .aload_n 1, 1), (23, .invokevirtual 38, 3), (26, .ifCond .eq 5, 3), (29, .iconst 1, 1), (30, .ireturn, 1), (31, .iinc 2 1, 3), (34, .goto (-32), 3), (37, .iconst 0, 1), (38, .ireturn, 1)]
set_option maxRecDepth 20000 in
theorem eX2_hasBar : zq_dec tX2_hasBar cX2_hasBar := by unfold zq_dec; decide +kernel
abbrev YX2_holdsIn : zq_Y := (yX2_holdsIn, cX2_holdsIn, 6, some .boolean)
def tX2_holdsIn : List (Nat × Instr × Nat) := [(0, .iconst 0, 1), (1, .istore_n 3, 1), (2, .iload_n 1, 1), (3, .ifCond .ne 7, 3), (6, .iconst 0, 1), (7, .goto 11, 3), (10, .aload_n 0, 1), (11, .getfield 18, 3), (14, .iload_n 1, 1), (15, .iconst 1, 1), (16, .isub, 1), (17, .iaload, 1), (18, .istore 4, 2), (20, .iload 4, 2), (22, .aload_n 0, 1), (23, .getfield 18, 3), (26, .iload_n 1, 1), (27, .iaload, 1), (28, .if_icmp .ge 87, 3), (31, .aload_n 0, 1), (32, .getfield 21, 3), (35, .iload 4, 2), (37, .iaload, 1), (38, .istore 5, 2), (40, .iload 5, 2), (42, .iconst (-1), 1), (43, .if_icmp .ne 10, 3), (46, .iload_n 3, 1), (47, .iconst 1, 1), (48, .ixor, 1), (49, .istore_n 3, 1), (50, .goto 59, 3), (53, .iload 5, 2), (55, .bipush (-2), 2), (57, .if_icmp .ne 15, 3), (60, .iload_n 3, 1), (61, .iconst 1, 1), (62, .ishr, 1), (63, .iload_n 3, 1), (64, .bipush (-2), 2), (66, .ior, 1), (67, .iand, 1), (68, .istore_n 3, 1), (69, .goto 40, 3), (72, .iload 5, 2), (74, .bipush (-3), 2), (76, .if_icmp .ne 14, 3), (79, .iload_n 3, 1), (80, .iconst 1, 1), (81, .ishr, 1), (82, .iload_n 3, 1), (83, .iconst 1, 1), (84, .iand, 1), (85, .ior, 1), (86, .istore_n 3, 1), (87, .goto 22, 3), (90, .iload_n 3, 1), (91, .iconst 1, 1), (92, .ishl, 1), (93, .iload 5, 2), (95, .aload_n 2, 1), (96, .invokestatic 42, 3), (99, .ifCond .eq 7, 3), (102, .iconst 1, 1), (103, .goto 4, 3), (106, .iconst 0, 1), (107, .ior, 1), (108, .istore_n 3, 1), (109, .iinc 4 1, 3), (112, .goto (-92), 3), (115, .iload_n 3, 1), (116, .iconst 1, 1), (117, .iand, 1), (118, .iconst 1, 1), (119, .if_icmp .ne 7, 3), (122, .iconst 1, 1), (123, .goto 4, 3), (126, .iconst 0, 1), (127, .ireturn, 1)]
set_option maxRecDepth 20000 in
theorem eX2_holdsIn : zq_dec tX2_holdsIn cX2_holdsIn := by unfold zq_dec; decide +kernel
abbrev YX2_testHolds : zq_Y := (yX2_testHolds, cX2_testHolds, 4, some .boolean)
def tX2_testHolds : List (Nat × Instr × Nat) := [(0, .aload_n 1, 1), (1, .iload_n 0, 1), (2, .bipush 6, 2), (4, .irem, 1), (5, .iaload, 1), (6, .istore_n 2, 1), (7, .iload_n 0, 1), (8, .bipush 6, 2), (10, .idiv, 1), (11, .iconst 3, 1), (12, .idiv, 1), (13, .istore_n 3, 1), (14, .iload_n 0, 1), (15, .bipush 6, 2), (17, .idiv, 1), (18, .iconst 3, 1), (19, .irem, 1), (20, .lookupswitch 50 #[(0, 28), (1, 39)], 28), (48, .iload_n 2, 1), (49, .iload_n 3, 1), (50, .if_icmp .ge 7, 3), (53, .iconst 1, 1), (54, .goto 4, 3), (57, .iconst 0, 1), (58, .ireturn, 1), (59, .iload_n 2, 1), (60, .iload_n 3, 1), (61, .if_icmp .ne 7, 3), (64, .iconst 1, 1), (65, .goto 4, 3), (68, .iconst 0, 1), (69, .ireturn, 1), (70, .iload_n 2, 1), (71, .iload_n 3, 1), (72, .if_icmp .le 7, 3), (75, .iconst 1, 1), (76, .goto 4, 3), (79, .iconst 0, 1), (80, .ireturn, 1)]
set_option maxRecDepth 20000 in
theorem eX2_testHolds : zq_dec tX2_testHolds cX2_testHolds := by unfold zq_dec; decide +kernel
abbrev YX3_init : zq_Y := (yX3_init, cX3_init, 1, none)
def tX3_init : List (Nat × Instr × Nat) := [(0, .aload_n 0, 1), (1, .invokespecial 3, 3), (4, .aload_n 0, 1), (5, .iconst 0, 1), (6, .newarray .int, 2), (8, .putfield 9, 3), (11, .aload_n 0, 1), (12, .new 15, 3), (15, .dup, 1), (16, .invokespecial 17, 3), (19, .putfield 18, 3), (22, .return_, 1)]
set_option maxRecDepth 20000 in
theorem eX3_init : zq_dec tX3_init cX3_init := by unfold zq_dec; decide +kernel
abbrev YX3_readInto : zq_Y := (yX3_readInto, cX3_readInto, 5, some .int)
def tX3_readInto : List (Nat × Instr × Nat) := [(0, .aload_n 0, 1), (1, .aload_n 1, 1), (2, .putfield 18, 3), (5, .aload_n 0, 1), (6, .aload_n 2, 1), (7, .putfield 9, 3), (10, .aload_n 0, 1), (11, .iload_n 3, 1), (12, .aload_n 2, 1), (13, .arraylength, 1), (14, .invokestatic 22, 3), (17, .putfield 28, 3), (20, .aload_n 0, 1), (21, .iconst 0, 1), (22, .putfield 32, 3), (25, .iconst 0, 1), (26, .istore 4, 2), (28, .iload 4, 2), (30, .bipush 10, 2), (32, .if_icmp .ge 55, 3), (35, .aload_n 0, 1), (36, .invokevirtual 35, 3), (39, .ifCond .ne 8, 3), (42, .aload_n 0, 1), (43, .getfield 32, 3), (46, .ireturn, 1), (47, .aload_n 0, 1), (48, .getfield 32, 3), (51, .aload_n 0, 1), (52, .getfield 28, 3), (55, .if_icmp .ne 5, 3), (58, .iconst (-1), 1), (59, .ireturn, 1), (60, .iload 4, 2), (62, .bipush 9, 2), (64, .if_icmp .eq 12, 3), (67, .aload_n 0, 1), (68, .bipush 59, 2), (70, .invokevirtual 39, 3), (73, .ifCond .ne 8, 3), (76, .aload_n 0, 1), (77, .getfield 32, 3), (80, .ireturn, 1), (81, .iinc 4 1, 3), (84, .goto (-56), 3), (87, .aload_n 0, 1), (88, .getfield 32, 3), (91, .ireturn, 1)]
set_option maxRecDepth 20000 in
theorem eX3_readInto : zq_dec tX3_readInto cX3_readInto := by unfold zq_dec; decide +kernel
abbrev YX3_readClause : zq_Y := (yX3_readClause, cX3_readClause, 3, some .boolean)
def tX3_readClause : List (Nat × Instr × Nat) := [(0, .aload_n 0, 1), (1, .invokevirtual 43, 3), (4, .istore_n 1, 1), (5, .iload_n 1, 1), (6, .ifCond .ge 5, 3), (9, .iconst 0, 1), (10, .ireturn, 1), (11, .iconst 0, 1), (12, .istore_n 2, 1), (13, .iload_n 1, 1), (14, .iconst 1, 1), (15, .if_icmp .eq 21, 3), (18, .aload_n 0, 1), (19, .bipush 32, 2), (21, .invokevirtual 39, 3), (24, .ifCond .eq 10, 3), (27, .aload_n 0, 1), (28, .invokevirtual 47, 3), (31, .goto 4, 3), (34, .iconst (-1), 1), (35, .istore_n 2, 1), (36, .iload_n 2, 1), (37, .ifCond .ge 5, 3), (40, .iconst 0, 1), (41, .ireturn, 1), (42, .iload_n 1, 1), (43, .iconst 3, 1), (44, .if_icmp .eq 22, 3), (47, .aload_n 0, 1), (48, .bipush 32, 2), (50, .invokevirtual 39, 3), (53, .ifCond .eq 11, 3), (56, .aload_n 0, 1), (57, .iconst 0, 1), (58, .invokevirtual 50, 3), (61, .ifCond .ne 5, 3), (64, .iconst 0, 1), (65, .ireturn, 1), (66, .aload_n 0, 1), (67, .getfield 18, 3), (70, .iload_n 1, 1), (71, .iload_n 2, 1), (72, .invokevirtual 53, 3), (75, .iconst 1, 1), (76, .ireturn, 1)]
set_option maxRecDepth 20000 in
theorem eX3_readClause : zq_dec tX3_readClause cX3_readClause := by unfold zq_dec; decide +kernel
abbrev YX3_readWord : zq_Y := (yX3_readWord, cX3_readWord, 1, some .int)
def tX3_readWord : List (Nat × Instr × Nat) := [(0, .aload_n 0, 1), (1, .getfield 32, 3), (4, .aload_n 0, 1), (5, .getfield 28, 3), (8, .if_icmp .ge 15, 3), (11, .aload_n 0, 1), (12, .getfield 9, 3), (15, .aload_n 0, 1), (16, .getfield 32, 3), (19, .iaload, 1), (20, .goto 4, 3), (23, .iconst (-1), 1), (24, .lookupswitch 104 #[(98, 59), (112, 44), (115, 89), (119, 74)], 44), (68, .aload_n 0, 1), (69, .ldc 57, 2), (71, .invokevirtual 59, 3), (74, .ifCond .eq 7, 3), (77, .iconst 0, 1), (78, .goto 4, 3), (81, .iconst (-1), 1), (82, .ireturn, 1), (83, .aload_n 0, 1), (84, .ldc 63, 2), (86, .invokevirtual 59, 3), (89, .ifCond .eq 7, 3), (92, .iconst 1, 1), (93, .goto 4, 3), (96, .iconst (-1), 1), (97, .ireturn, 1), (98, .aload_n 0, 1), (99, .ldc 65, 2), (101, .invokevirtual 59, 3), (104, .ifCond .eq 7, 3), (107, .iconst 2, 1), (108, .goto 4, 3), (111, .iconst (-1), 1), (112, .ireturn, 1), (113, .aload_n 0, 1), (114, .ldc 67, 2), (116, .invokevirtual 59, 3), (119, .ifCond .eq 7, 3), (122, .iconst 3, 1), (123, .goto 4, 3), (126, .iconst (-1), 1), (127, .ireturn, 1), (128, .iconst (-1), 1), (129, .ireturn, 1)]
set_option maxRecDepth 20000 in
theorem eX3_readWord : zq_dec tX3_readWord cX3_readWord := by unfold zq_dec; decide +kernel
abbrev YX3_readAny : zq_Y := (yX3_readAny, cX3_readAny, 3, some .boolean)
def tX3_readAny : List (Nat × Instr × Nat) := [(0, .aload_n 0, 1), (1, .iload_n 1, 1), (2, .invokevirtual 69, 3), (5, .ifCond .ne 5, 3), (8, .iconst 0, 1), (9, .ireturn, 1), (10, .iconst 0, 1), (11, .istore_n 2, 1), (12, .iload_n 2, 1), (13, .bipush 100, 2), (15, .if_icmp .ge 37, 3), (18, .aload_n 0, 1), (19, .bipush 124, 2), (21, .invokevirtual 39, 3), (24, .ifCond .eq 28, 3), (27, .aload_n 0, 1), (28, .iload_n 1, 1), (29, .invokevirtual 69, 3), (32, .ifCond .ne 5, 3), (35, .iconst 0, 1), (36, .ireturn, 1), (37, .aload_n 0, 1), (38, .getfield 18, 3), (41, .bipush (-3), 2), (43, .invokevirtual 72, 3), (46, .iinc 2 1, 3), (49, .goto (-37), 3), (52, .iconst 1, 1), (53, .ireturn, 1)]
set_option maxRecDepth 20000 in
theorem eX3_readAny : zq_dec tX3_readAny cX3_readAny := by unfold zq_dec; decide +kernel
abbrev YX3_readAll : zq_Y := (yX3_readAll, cX3_readAll, 3, some .boolean)
def tX3_readAll : List (Nat × Instr × Nat) := [(0, .aload_n 0, 1), (1, .iload_n 1, 1), (2, .invokevirtual 76, 3), (5, .ifCond .ne 5, 3), (8, .iconst 0, 1), (9, .ireturn, 1), (10, .iconst 0, 1), (11, .istore_n 2, 1), (12, .iload_n 2, 1), (13, .bipush 100, 2), (15, .if_icmp .ge 37, 3), (18, .aload_n 0, 1), (19, .bipush 38, 2), (21, .invokevirtual 39, 3), (24, .ifCond .eq 28, 3), (27, .aload_n 0, 1), (28, .iload_n 1, 1), (29, .invokevirtual 76, 3), (32, .ifCond .ne 5, 3), (35, .iconst 0, 1), (36, .ireturn, 1), (37, .aload_n 0, 1), (38, .getfield 18, 3), (41, .bipush (-2), 2), (43, .invokevirtual 72, 3), (46, .iinc 2 1, 3), (49, .goto (-37), 3), (52, .iconst 1, 1), (53, .ireturn, 1)]
set_option maxRecDepth 20000 in
theorem eX3_readAll : zq_dec tX3_readAll cX3_readAll := by unfold zq_dec; decide +kernel
abbrev YX3_readOne : zq_Y := (yX3_readOne, cX3_readOne, 4, some .boolean)
def tX3_readOne : List (Nat × Instr × Nat) := [(0, .aload_n 0, 1), (1, .getfield 32, 3), (4, .aload_n 0, 1), (5, .getfield 28, 3), (8, .if_icmp .ge 21, 3), (11, .aload_n 0, 1), (12, .getfield 9, 3), (15, .aload_n 0, 1), (16, .getfield 32, 3), (19, .iaload, 1), (20, .bipush 33, 2), (22, .if_icmp .ne 7, 3), (25, .iconst 1, 1), (26, .goto 4, 3), (29, .iconst 0, 1), (30, .istore_n 2, 1), (31, .aload_n 0, 1), (32, .getfield 32, 3), (35, .aload_n 0, 1), (36, .getfield 28, 3), (39, .if_icmp .ge 21, 3), (42, .aload_n 0, 1), (43, .getfield 9, 3), (46, .aload_n 0, 1), (47, .getfield 32, 3), (50, .iaload, 1), (51, .bipush 40, 2), (53, .if_icmp .ne 7, 3), (56, .iconst 1, 1), (57, .goto 4, 3), (60, .iconst 0, 1), (61, .istore_n 3, 1), (62, .iload_n 2, 1), (63, .ifCond .ne 12, 3), (66, .iload_n 3, 1), (67, .ifCond .ne 8, 3), (70, .aload_n 0, 1), (71, .invokevirtual 79, 3), (74, .ireturn, 1), (75, .iload_n 1, 1), (76, .iconst 4, 1), (77, .if_icmp .lt 5, 3), (80, .iconst 0, 1), (81, .ireturn, 1), (82, .aload_n 0, 1), (83, .dup, 1), (84, .getfield 32, 3), (87, .iconst 1, 1), (88, .iadd, 1), (89, .putfield 32, 3), (92, .iload_n 3, 1), (93, .ifCond .eq 28, 3), (96, .aload_n 0, 1), (97, .iload_n 1, 1), (98, .iconst 1, 1), (99, .iadd, 1), (100, .invokevirtual 50, 3), (103, .ifCond .eq 16, 3), (106, .aload_n 0, 1), (107, .bipush 41, 2), (109, .invokevirtual 39, 3), (112, .ifCond .eq 7, 3), (115, .iconst 1, 1), (116, .goto 4, 3), (119, .iconst 0, 1), (120, .ireturn, 1), (121, .aload_n 0, 1), (122, .iload_n 1, 1), (123, .iconst 1, 1), (124, .iadd, 1), (125, .invokevirtual 76, 3), (128, .ifCond .ne 5, 3), (131, .iconst 0, 1), (132, .ireturn, 1), (133, .aload_n 0, 1), (134, .getfield 18, 3), (137, .iconst (-1), 1), (138, .invokevirtual 72, 3), (141, .iconst 1, 1), (142, .ireturn, 1)]
set_option maxRecDepth 20000 in
theorem eX3_readOne : zq_dec tX3_readOne cX3_readOne := by unfold zq_dec; decide +kernel
abbrev YX3_readTest : zq_Y := (yX3_readTest, cX3_readTest, 4, some .boolean)
def tX3_readTest : List (Nat × Instr × Nat) := [(0, .aload_n 0, 1), (1, .ldc 82, 2), (3, .invokevirtual 84, 3), (6, .istore_n 1, 1), (7, .iload_n 1, 1), (8, .ifCond .ge 7, 3), (11, .iconst (-1), 1), (12, .goto 9, 3), (15, .aload_n 0, 1), (16, .ldc 88, 2), (18, .invokevirtual 84, 3), (21, .istore_n 2, 1), (22, .iload_n 2, 1), (23, .ifCond .ge 7, 3), (26, .iconst (-1), 1), (27, .goto 7, 3), (30, .aload_n 0, 1), (31, .invokevirtual 47, 3), (34, .istore_n 3, 1), (35, .iload_n 3, 1), (36, .ifCond .ge 5, 3), (39, .iconst 0, 1), (40, .ireturn, 1), (41, .aload_n 0, 1), (42, .getfield 18, 3), (45, .iload_n 1, 1), (46, .iload_n 2, 1), (47, .iload_n 3, 1), (48, .invokevirtual 90, 3), (51, .iconst 1, 1), (52, .ireturn, 1)]
set_option maxRecDepth 20000 in
theorem eX3_readTest : zq_dec tX3_readTest cX3_readTest := by unfold zq_dec; decide +kernel
abbrev YX3_readNumber : zq_Y := (yX3_readNumber, cX3_readNumber, 3, some .int)
def tX3_readNumber : List (Nat × Instr × Nat) := [(0, .aload_n 0, 1), (1, .ldc 94, 2), (3, .invokevirtual 84, 3), (6, .istore_n 1, 1), (7, .iload_n 1, 1), (8, .ifCond .ge 7, 3), (11, .iconst (-1), 1), (12, .goto 9, 3), (15, .aload_n 0, 1), (16, .ldc 94, 2), (18, .invokevirtual 84, 3), (21, .istore_n 2, 1), (22, .iload_n 2, 1), (23, .ifCond .ge 7, 3), (26, .iload_n 1, 1), (27, .goto 9, 3), (30, .iload_n 1, 1), (31, .bipush 10, 2), (33, .imul, 1), (34, .iload_n 2, 1), (35, .iadd, 1), (36, .ireturn, 1)]
set_option maxRecDepth 20000 in
theorem eX3_readNumber : zq_dec tX3_readNumber cX3_readNumber := by unfold zq_dec; decide +kernel
abbrev YX3_eat : zq_Y := (yX3_eat, cX3_eat, 2, some .boolean)
def tX3_eat : List (Nat × Instr × Nat) := [(0, .aload_n 0, 1), (1, .getfield 32, 3), (4, .aload_n 0, 1), (5, .getfield 28, 3), (8, .if_icmp .ge 16, 3), (11, .aload_n 0, 1), (12, .getfield 9, 3), (15, .aload_n 0, 1), (16, .getfield 32, 3), (19, .iaload, 1), (20, .iload_n 1, 1), (21, .if_icmp .eq 5, 3), (24, .iconst 0, 1), (25, .ireturn, 1), (26, .aload_n 0, 1), (27, .dup, 1), (28, .getfield 32, 3), (31, .iconst 1, 1), (32, .iadd, 1), (33, .putfield 32, 3), (36, .iconst 1, 1), (37, .ireturn, 1)]
set_option maxRecDepth 20000 in
theorem eX3_eat : zq_dec tX3_eat cX3_eat := by unfold zq_dec; decide +kernel
abbrev YX3_eatAll : zq_Y := (yX3_eatAll, cX3_eatAll, 3, some .boolean)
def tX3_eatAll : List (Nat × Instr × Nat) := [(0, .iconst 0, 1), (1, .istore_n 2, 1), (2, .iload_n 2, 1), (3, .aload_n 1, 1), (4, .invokevirtual 96, 3), (7, .if_icmp .ge 23, 3), (10, .aload_n 0, 1), (11, .aload_n 1, 1), (12, .iload_n 2, 1), (13, .invokevirtual 100, 3), (16, .invokevirtual 39, 3), (19, .ifCond .ne 5, 3), (22, .iconst 0, 1), (23, .ireturn, 1), (24, .iinc 2 1, 3), (27, .goto (-25), 3), (30, .iconst 1, 1), (31, .ireturn, 1)]
set_option maxRecDepth 20000 in
theorem eX3_eatAll : zq_dec tX3_eatAll cX3_eatAll := by unfold zq_dec; decide +kernel
abbrev YX3_eatOneOf : zq_Y := (yX3_eatOneOf, cX3_eatOneOf, 3, some .int)
def tX3_eatOneOf : List (Nat × Instr × Nat) := [(0, .aload_n 0, 1), (1, .getfield 32, 3), (4, .aload_n 0, 1), (5, .getfield 28, 3), (8, .if_icmp .ge 20, 3), (11, .aload_n 1, 1), (12, .aload_n 0, 1), (13, .getfield 9, 3), (16, .aload_n 0, 1), (17, .getfield 32, 3), (20, .iaload, 1), (21, .i2c, 1), (22, .invokevirtual 104, 3), (25, .goto 4, 3), (28, .iconst (-1), 1), (29, .istore_n 2, 1), (30, .iload_n 2, 1), (31, .ifCond .lt 13, 3), (34, .aload_n 0, 1), (35, .dup, 1), (36, .getfield 32, 3), (39, .iconst 1, 1), (40, .iadd, 1), (41, .putfield 32, 3), (44, .iload_n 2, 1), (45, .ireturn, 1)]
set_option maxRecDepth 20000 in
theorem eX3_eatOneOf : zq_dec tX3_eatOneOf cX3_eatOneOf := by unfold zq_dec; decide +kernel
abbrev YX4_init : zq_Y := (yX4_init, cX4_init, 2, none)
def tX4_init : List (Nat × Instr × Nat) := [(0, .aload_n 0, 1), (1, .invokespecial 3, 3), (4, .aload_n 0, 1), (5, .iconst 5, 1), (6, .newarray .int, 2), (8, .putfield 9, 3), (11, .aload_n 0, 1), (12, .aload_n 1, 1), (13, .putfield 15, 3), (16, .return_, 1)]
set_option maxRecDepth 20000 in
theorem eX4_init : zq_dec tX4_init cX4_init := by unfold zq_dec; decide +kernel
abbrev YX4_fitting : zq_Y := (yX4_fitting, cX4_fitting, 1, some .int)
def tX4_fitting : List (Nat × Instr × Nat) := [(0, .aload_n 0, 1), (1, .iconst 0, 1), (2, .iconst 0, 1), (3, .invokevirtual 19, 3), (6, .ireturn, 1)]
set_option maxRecDepth 20000 in
theorem eX4_fitting : zq_dec tX4_fitting cX4_fitting := by unfold zq_dec; decide +kernel
abbrev YX4_fittingFrom : zq_Y := (yX4_fittingFrom, cX4_fittingFrom, 5, some .int)
def tX4_fittingFrom : List (Nat × Instr × Nat) := [(0, .iload_n 1, 1), (1, .aload_n 0, 1), (2, .getfield 15, 3), (5, .getfield 23, 3), (8, .if_icmp .lt 16, 3), (11, .aload_n 0, 1), (12, .invokevirtual 29, 3), (15, .ifCond .eq 7, 3), (18, .iconst 1, 1), (19, .goto 4, 3), (22, .iconst 0, 1), (23, .ireturn, 1), (24, .iconst 0, 1), (25, .istore_n 3, 1), (26, .iconst 0, 1), (27, .istore 4, 2), (29, .iload 4, 2), (31, .aload_n 0, 1), (32, .getfield 15, 3), (35, .getfield 23, 3), (38, .if_icmp .ge 42, 3), (41, .iload_n 2, 1), (42, .iload 4, 2), (44, .ishr, 1), (45, .iconst 1, 1), (46, .iand, 1), (47, .ifCond .ne 27, 3), (50, .aload_n 0, 1), (51, .getfield 9, 3), (54, .iload 4, 2), (56, .iload_n 1, 1), (57, .iastore, 1), (58, .iload_n 3, 1), (59, .aload_n 0, 1), (60, .iload_n 1, 1), (61, .iconst 1, 1), (62, .iadd, 1), (63, .iload_n 2, 1), (64, .iconst 1, 1), (65, .iload 4, 2), (67, .ishl, 1), (68, .ior, 1), (69, .invokevirtual 19, 3), (72, .iadd, 1), (73, .istore_n 3, 1), (74, .iinc 4 1, 3), (77, .goto (-48), 3), (80, .iload_n 3, 1), (81, .ireturn, 1)]
set_option maxRecDepth 20000 in
theorem eX4_fittingFrom : zq_dec tX4_fittingFrom cX4_fittingFrom := by unfold zq_dec; decide +kernel
abbrev YX4_goesWithAll : zq_Y := (yX4_goesWithAll, cX4_goesWithAll, 2, some .boolean)
def tX4_goesWithAll : List (Nat × Instr × Nat) := [(0, .iconst 0, 1), (1, .istore_n 1, 1), (2, .iload_n 1, 1), (3, .aload_n 0, 1), (4, .getfield 15, 3), (7, .getfield 33, 3), (10, .if_icmp .ge 36, 3), (13, .aload_n 0, 1), (14, .aload_n 0, 1), (15, .getfield 15, 3), (18, .getfield 36, 3), (21, .iload_n 1, 1), (22, .iaload, 1), (23, .aload_n 0, 1), (24, .getfield 15, 3), (27, .getfield 39, 3), (30, .iload_n 1, 1), (31, .iaload, 1), (32, .invokevirtual 42, 3), (35, .ifCond .ne 5, 3), (38, .iconst 0, 1), (39, .ireturn, 1), (40, .iinc 1 1, 3), (43, .goto (-41), 3), (46, .iconst 1, 1), (47, .ireturn, 1)]
set_option maxRecDepth 20000 in
theorem eX4_goesWithAll : zq_dec tX4_goesWithAll cX4_goesWithAll := by unfold zq_dec; decide +kernel
abbrev YX4_isMiddle : zq_Y := (yX4_isMiddle, cX4_isMiddle, 5, some .boolean)
def tX4_isMiddle : List (Nat × Instr × Nat) := [(0, .iconst 0, 1), (1, .istore_n 3, 1), (2, .iconst 0, 1), (3, .istore 4, 2), (5, .iload 4, 2), (7, .aload_n 0, 1), (8, .getfield 15, 3), (11, .getfield 23, 3), (14, .if_icmp .ge 38, 3), (17, .iload_n 2, 1), (18, .iload 4, 2), (20, .ishr, 1), (21, .iconst 1, 1), (22, .iand, 1), (23, .iconst 1, 1), (24, .if_icmp .ne 22, 3), (27, .aload_n 0, 1), (28, .getfield 9, 3), (31, .iload 4, 2), (33, .iaload, 1), (34, .aload_n 0, 1), (35, .getfield 9, 3), (38, .iload_n 1, 1), (39, .iaload, 1), (40, .if_icmp .ge 6, 3), (43, .iinc 3 1, 3), (46, .iinc 4 1, 3), (49, .goto (-44), 3), (52, .iload_n 3, 1), (53, .iload_n 2, 1), (54, .invokestatic 46, 3), (57, .iconst 2, 1), (58, .idiv, 1), (59, .if_icmp .ne 7, 3), (62, .iconst 1, 1), (63, .goto 4, 3), (66, .iconst 0, 1), (67, .ireturn, 1)]
set_option maxRecDepth 20000 in
theorem eX4_isMiddle : zq_dec tX4_isMiddle cX4_isMiddle := by unfold zq_dec; decide +kernel
abbrev YX5_init : zq_Y := (yX5_init, cX5_init, 1, none)
def tX5_init : List (Nat × Instr × Nat) := [(0, .aload_n 0, 1), (1, .invokespecial 3, 3), (4, .aload_n 0, 1), (5, .iconst 5, 1), (6, .newarray .int, 2), (8, .putfield 9, 3), (11, .aload_n 0, 1), (12, .iconst 5, 1), (13, .newarray .int, 2), (15, .putfield 15, 3), (18, .aload_n 0, 1), (19, .iconst 5, 1), (20, .newarray .int, 2), (22, .putfield 18, 3), (25, .aload_n 0, 1), (26, .iconst 5, 1), (27, .newarray .int, 2), (29, .putfield 21, 3), (32, .aload_n 0, 1), (33, .iconst 3, 1), (34, .newarray .int, 2), (36, .putfield 24, 3), (39, .aload_n 0, 1), (40, .iconst 3, 1), (41, .newarray .int, 2), (43, .putfield 27, 3), (46, .aload_n 0, 1), (47, .bipush 12, 2), (49, .newarray .int, 2), (51, .putfield 30, 3), (54, .aload_n 0, 1), (55, .bipush 12, 2), (57, .newarray .int, 2), (59, .putfield 33, 3), (62, .aload_n 0, 1), (63, .bipush 12, 2), (65, .newarray .int, 2), (67, .putfield 36, 3), (70, .aload_n 0, 1), (71, .iconst (-1), 1), (72, .putfield 39, 3), (75, .return_, 1)]
set_option maxRecDepth 20000 in
theorem eX5_init : zq_dec tX5_init cX5_init := by unfold zq_dec; decide +kernel
abbrev YX5_addPerson : zq_Y := (yX5_addPerson, cX5_addPerson, 5, some .int)
def tX5_addPerson : List (Nat × Instr × Nat) := [(0, .aload_n 0, 1), (1, .getfield 43, 3), (4, .istore 4, 2), (6, .aload_n 0, 1), (7, .getfield 9, 3), (10, .iload 4, 2), (12, .iload_n 1, 1), (13, .iastore, 1), (14, .aload_n 0, 1), (15, .getfield 15, 3), (18, .iload 4, 2), (20, .iload_n 2, 1), (21, .iastore, 1), (22, .aload_n 0, 1), (23, .getfield 18, 3), (26, .iload 4, 2), (28, .iload_n 3, 1), (29, .iastore, 1), (30, .aload_n 0, 1), (31, .getfield 21, 3), (34, .iload 4, 2), (36, .iconst 0, 1), (37, .iastore, 1), (38, .aload_n 0, 1), (39, .dup, 1), (40, .getfield 43, 3), (43, .iconst 1, 1), (44, .iadd, 1), (45, .putfield 43, 3), (48, .iload 4, 2), (50, .ireturn, 1)]
set_option maxRecDepth 20000 in
theorem eX5_addPerson : zq_dec tX5_addPerson cX5_addPerson := by unfold zq_dec; decide +kernel
abbrev YX5_everybody : zq_Y := (yX5_everybody, cX5_everybody, 1, some .int)
def tX5_everybody : List (Nat × Instr × Nat) := [(0, .iconst 1, 1), (1, .aload_n 0, 1), (2, .getfield 43, 3), (5, .ishl, 1), (6, .iconst 1, 1), (7, .isub, 1), (8, .ireturn, 1)]
set_option maxRecDepth 20000 in
theorem eX5_everybody : zq_dec tX5_everybody cX5_everybody := by unfold zq_dec; decide +kernel
abbrev YX5_whoIsAt : zq_Y := (yX5_whoIsAt, cX5_whoIsAt, 4, some .int)
def tX5_whoIsAt : List (Nat × Instr × Nat) := [(0, .iconst 0, 1), (1, .istore_n 2, 1), (2, .iconst 0, 1), (3, .istore_n 3, 1), (4, .iload_n 3, 1), (5, .aload_n 0, 1), (6, .getfield 43, 3), (9, .if_icmp .ge 25, 3), (12, .aload_n 0, 1), (13, .getfield 18, 3), (16, .iload_n 3, 1), (17, .iaload, 1), (18, .iload_n 1, 1), (19, .if_icmp .ne 9, 3), (22, .iload_n 2, 1), (23, .iconst 1, 1), (24, .iload_n 3, 1), (25, .ishl, 1), (26, .ior, 1), (27, .istore_n 2, 1), (28, .iinc 3 1, 3), (31, .goto (-27), 3), (34, .iload_n 2, 1), (35, .ireturn, 1)]
set_option maxRecDepth 20000 in
theorem eX5_whoIsAt : zq_dec tX5_whoIsAt cX5_whoIsAt := by unfold zq_dec; decide +kernel
abbrev YX5_isKnown : zq_Y := (yX5_isKnown, cX5_isKnown, 3, some .boolean)
def tX5_isKnown : List (Nat × Instr × Nat) := [(0, .aload_n 0, 1), (1, .getfield 21, 3), (4, .iload_n 1, 1), (5, .iaload, 1), (6, .iload_n 2, 1), (7, .ishr, 1), (8, .iconst 1, 1), (9, .iand, 1), (10, .iconst 1, 1), (11, .if_icmp .ne 7, 3), (14, .iconst 1, 1), (15, .goto 4, 3), (18, .iconst 0, 1), (19, .ireturn, 1)]
set_option maxRecDepth 20000 in
theorem eX5_isKnown : zq_dec tX5_isKnown cX5_isKnown := by unfold zq_dec; decide +kernel
abbrev YX5_whoKnows : zq_Y := (yX5_whoKnows, cX5_whoKnows, 4, some .int)
def tX5_whoKnows : List (Nat × Instr × Nat) := [(0, .iconst 0, 1), (1, .istore_n 2, 1), (2, .iconst 0, 1), (3, .istore_n 3, 1), (4, .iload_n 3, 1), (5, .aload_n 0, 1), (6, .getfield 43, 3), (9, .if_icmp .ge 24, 3), (12, .aload_n 0, 1), (13, .iload_n 3, 1), (14, .iload_n 1, 1), (15, .invokevirtual 46, 3), (18, .ifCond .eq 9, 3), (21, .iload_n 2, 1), (22, .iconst 1, 1), (23, .iload_n 3, 1), (24, .ishl, 1), (25, .ior, 1), (26, .istore_n 2, 1), (27, .iinc 3 1, 3), (30, .goto (-26), 3), (33, .iload_n 2, 1), (34, .ireturn, 1)]
set_option maxRecDepth 20000 in
theorem eX5_whoKnows : zq_dec tX5_whoKnows cX5_whoKnows := by unfold zq_dec; decide +kernel
abbrev YX5_copyFrom : zq_Y := (yX5_copyFrom, cX5_copyFrom, 2, none)
def tX5_copyFrom : List (Nat × Instr × Nat) := [(0, .aload_n 0, 1), (1, .aload_n 1, 1), (2, .getfield 43, 3), (5, .putfield 43, 3), (8, .aload_n 1, 1), (9, .getfield 9, 3), (12, .iconst 0, 1), (13, .aload_n 0, 1), (14, .getfield 9, 3), (17, .iconst 0, 1), (18, .iconst 5, 1), (19, .invokestatic 50, 3), (22, .aload_n 1, 1), (23, .getfield 15, 3), (26, .iconst 0, 1), (27, .aload_n 0, 1), (28, .getfield 15, 3), (31, .iconst 0, 1), (32, .iconst 5, 1), (33, .invokestatic 50, 3), (36, .aload_n 1, 1), (37, .getfield 18, 3), (40, .iconst 0, 1), (41, .aload_n 0, 1), (42, .getfield 18, 3), (45, .iconst 0, 1), (46, .iconst 5, 1), (47, .invokestatic 50, 3), (50, .aload_n 1, 1), (51, .getfield 21, 3), (54, .iconst 0, 1), (55, .aload_n 0, 1), (56, .getfield 21, 3), (59, .iconst 0, 1), (60, .iconst 5, 1), (61, .invokestatic 50, 3), (64, .aload_n 1, 1), (65, .getfield 24, 3), (68, .iconst 0, 1), (69, .aload_n 0, 1), (70, .getfield 24, 3), (73, .iconst 0, 1), (74, .iconst 3, 1), (75, .invokestatic 50, 3), (78, .aload_n 1, 1), (79, .getfield 27, 3), (82, .iconst 0, 1), (83, .aload_n 0, 1), (84, .getfield 27, 3), (87, .iconst 0, 1), (88, .iconst 3, 1), (89, .invokestatic 50, 3), (92, .aload_n 0, 1), (93, .aload_n 1, 1), (94, .getfield 56, 3), (97, .putfield 56, 3), (100, .aload_n 0, 1), (101, .aload_n 1, 1), (102, .getfield 59, 3), (105, .putfield 59, 3), (108, .aload_n 1, 1), (109, .getfield 30, 3), (112, .iconst 0, 1), (113, .aload_n 0, 1), (114, .getfield 30, 3), (117, .iconst 0, 1), (118, .bipush 12, 2), (120, .invokestatic 50, 3), (123, .aload_n 1, 1), (124, .getfield 33, 3), (127, .iconst 0, 1), (128, .aload_n 0, 1), (129, .getfield 33, 3), (132, .iconst 0, 1), (133, .bipush 12, 2), (135, .invokestatic 50, 3), (138, .aload_n 0, 1), (139, .aload_n 1, 1), (140, .getfield 62, 3), (143, .putfield 62, 3), (146, .aload_n 1, 1), (147, .getfield 36, 3), (150, .iconst 0, 1), (151, .aload_n 0, 1), (152, .getfield 36, 3), (155, .iconst 0, 1), (156, .bipush 12, 2), (158, .invokestatic 50, 3), (161, .aload_n 0, 1), (162, .aload_n 1, 1), (163, .getfield 65, 3), (166, .putfield 65, 3), (169, .aload_n 0, 1), (170, .aload_n 1, 1), (171, .getfield 39, 3), (174, .putfield 39, 3), (177, .return_, 1)]
set_option maxRecDepth 20000 in
theorem eX5_copyFrom : zq_dec tX5_copyFrom cX5_copyFrom := by unfold zq_dec; decide +kernel
abbrev YX6_init : zq_Y := (yX6_init, cX6_init, 3, none)
def tX6_init : List (Nat × Instr × Nat) := [(0, .aload_n 0, 1), (1, .invokespecial 3, 3), (4, .aload_n 0, 1), (5, .bipush 6, 2), (7, .newarray .int, 2), (9, .putfield 11, 3), (12, .aload_n 0, 1), (13, .iconst 5, 1), (14, .newarray .int, 2), (16, .putfield 17, 3), (19, .aload_n 0, 1), (20, .iconst 5, 1), (21, .newarray .int, 2), (23, .putfield 20, 3), (26, .aload_n 0, 1), (27, .bipush 100, 2), (29, .newarray .int, 2), (31, .putfield 23, 3), (34, .aload_n 0, 1), (35, .bipush 100, 2), (37, .newarray .boolean, 2), (39, .putfield 26, 3), (42, .aload_n 0, 1), (43, .aload_n 1, 1), (44, .putfield 30, 3), (47, .aload_n 0, 1), (48, .aload_n 2, 1), (49, .putfield 34, 3), (52, .return_, 1)]
set_option maxRecDepth 20000 in
theorem eX6_init : zq_dec tX6_init cX6_init := by unfold zq_dec; decide +kernel
abbrev YX6_look : zq_Y := (yX6_look, cX6_look, 2, none)
def tX6_look : List (Nat × Instr × Nat) := [(0, .aload_n 0, 1), (1, .aload_n 1, 1), (2, .putfield 34, 3), (5, .return_, 1)]
set_option maxRecDepth 20000 in
theorem eX6_look : zq_dec tX6_look cX6_look := by unfold zq_dec; decide +kernel
abbrev YX6_priceOf : zq_Y := (yX6_priceOf, cX6_priceOf, 4, some .int)
def tX6_priceOf : List (Nat × Instr × Nat) := [(0, .aload_n 0, 1), (1, .iload_n 1, 1), (2, .iload_n 2, 1), (3, .iload_n 3, 1), (4, .bipush 99, 2), (6, .invokevirtual 38, 3), (9, .iconst 1, 1), (10, .aload_n 0, 1), (11, .getfield 34, 3), (14, .iconst 0, 1), (15, .aload_n 0, 1), (16, .getfield 11, 3), (19, .invokevirtual 42, 3), (22, .iadd, 1), (23, .ireturn, 1)]
set_option maxRecDepth 20000 in
theorem eX6_priceOf : zq_dec tX6_priceOf cX6_priceOf := by unfold zq_dec; decide +kernel
abbrev YX6_isBarred : zq_Y := (yX6_isBarred, cX6_isBarred, 4, some .boolean)
def tX6_isBarred : List (Nat × Instr × Nat) := [(0, .aload_n 0, 1), (1, .iload_n 1, 1), (2, .iload_n 2, 1), (3, .iload_n 3, 1), (4, .bipush 99, 2), (6, .invokevirtual 38, 3), (9, .aload_n 0, 1), (10, .getfield 34, 3), (13, .aload_n 0, 1), (14, .getfield 11, 3), (17, .invokevirtual 46, 3), (20, .ireturn, 1)]
set_option maxRecDepth 20000 in
theorem eX6_isBarred : zq_dec tX6_isBarred cX6_isBarred := by unfold zq_dec; decide +kernel
abbrev YX6_worthTo : zq_Y := (yX6_worthTo, cX6_worthTo, 4, some .int)
def tX6_worthTo : List (Nat × Instr × Nat) := [(0, .aload_n 0, 1), (1, .iload_n 1, 1), (2, .iload_n 2, 1), (3, .aload_n 0, 1), (4, .getfield 30, 3), (7, .iload_n 2, 1), (8, .invokevirtual 50, 3), (11, .invokestatic 56, 3), (14, .iload_n 3, 1), (15, .invokevirtual 38, 3), (18, .aload_n 0, 1), (19, .getfield 34, 3), (22, .iconst 2, 1), (23, .aload_n 0, 1), (24, .getfield 11, 3), (27, .invokevirtual 42, 3), (30, .ireturn, 1)]
set_option maxRecDepth 20000 in
theorem eX6_worthTo : zq_dec tX6_worthTo cX6_worthTo := by unfold zq_dec; decide +kernel
abbrev YX6_setFacts : zq_Y := (yX6_setFacts, cX6_setFacts, 5, none)
def tX6_setFacts : List (Nat × Instr × Nat) := [(0, .aload_n 0, 1), (1, .getfield 11, 3), (4, .iconst 0, 1), (5, .iload_n 1, 1), (6, .iastore, 1), (7, .aload_n 0, 1), (8, .getfield 11, 3), (11, .iconst 1, 1), (12, .iload_n 2, 1), (13, .iastore, 1), (14, .aload_n 0, 1), (15, .getfield 11, 3), (18, .iconst 2, 1), (19, .aload_n 0, 1), (20, .getfield 30, 3), (23, .getfield 61, 3), (26, .iload_n 1, 1), (27, .iaload, 1), (28, .bipush 10, 2), (30, .idiv, 1), (31, .iastore, 1), (32, .aload_n 0, 1), (33, .getfield 11, 3), (36, .iconst 3, 1), (37, .iload_n 3, 1), (38, .iastore, 1), (39, .aload_n 0, 1), (40, .getfield 11, 3), (43, .iconst 4, 1), (44, .iload_n 2, 1), (45, .iconst 3, 1), (46, .if_icmp .ne 8, 3), (49, .bipush 9, 2), (51, .goto 12, 3), (54, .aload_n 0, 1), (55, .getfield 30, 3), (58, .getfield 64, 3), (61, .iload_n 2, 1), (62, .iaload, 1), (63, .iastore, 1), (64, .aload_n 0, 1), (65, .getfield 11, 3), (68, .iconst 5, 1), (69, .iload 4, 2), (71, .iastore, 1), (72, .return_, 1)]
set_option maxRecDepth 20000 in
theorem eX6_setFacts : zq_dec tX6_setFacts cX6_setFacts := by unfold zq_dec; decide +kernel
abbrev YX6_tellComings : zq_Y := (yX6_tellComings, cX6_tellComings, 5, none)
def tX6_tellComings : List (Nat × Instr × Nat) := [(0, .iconst 0, 1), (1, .istore_n 1, 1), (2, .iload_n 1, 1), (3, .aload_n 0, 1), (4, .getfield 30, 3), (7, .getfield 67, 3), (10, .if_icmp .ge 77, 3), (13, .iconst 0, 1), (14, .istore_n 2, 1), (15, .iload_n 2, 1), (16, .iconst 4, 1), (17, .if_icmp .ge 64, 3), (20, .iconst 1, 1), (21, .istore_n 3, 1), (22, .iload_n 3, 1), (23, .aload_n 0, 1), (24, .getfield 30, 3), (27, .getfield 67, 3), (30, .if_icmp .gt 45, 3), (33, .iload_n 1, 1), (34, .iload_n 2, 1), (35, .iload_n 3, 1), (36, .invokestatic 71, 3), (39, .istore 4, 2), (41, .aload_n 0, 1), (42, .getfield 23, 3), (45, .iload 4, 2), (47, .aload_n 0, 1), (48, .iload_n 1, 1), (49, .iload_n 2, 1), (50, .iload_n 3, 1), (51, .invokevirtual 75, 3), (54, .iastore, 1), (55, .aload_n 0, 1), (56, .getfield 26, 3), (59, .iload 4, 2), (61, .aload_n 0, 1), (62, .iload_n 1, 1), (63, .iload_n 2, 1), (64, .iload_n 3, 1), (65, .invokevirtual 78, 3), (68, .bastore, 1), (69, .iinc 3 1, 3), (72, .goto (-50), 3), (75, .iinc 2 1, 3), (78, .goto (-63), 3), (81, .iinc 1 1, 3), (84, .goto (-82), 3), (87, .return_, 1)]
set_option maxRecDepth 20000 in
theorem eX6_tellComings : zq_dec tX6_tellComings cX6_tellComings := by unfold zq_dec; decide +kernel
abbrev YX6_slotOf : zq_Y := (yX6_slotOf, cX6_slotOf, 3, some .int)
def tX6_slotOf : List (Nat × Instr × Nat) := [(0, .iload_n 0, 1), (1, .iconst 4, 1), (2, .imul, 1), (3, .iload_n 1, 1), (4, .iadd, 1), (5, .iconst 5, 1), (6, .imul, 1), (7, .iload_n 2, 1), (8, .iadd, 1), (9, .iconst 1, 1), (10, .isub, 1), (11, .ireturn, 1)]
set_option maxRecDepth 20000 in
theorem eX6_slotOf : zq_dec tX6_slotOf cX6_slotOf := by unfold zq_dec; decide +kernel
abbrev YX6_packedNow : zq_Y := (yX6_packedNow, cX6_packedNow, 3, some .int)
def tX6_packedNow : List (Nat × Instr × Nat) := [(0, .iconst 0, 1), (1, .istore_n 1, 1), (2, .iconst 0, 1), (3, .istore_n 2, 1), (4, .iload_n 2, 1), (5, .aload_n 0, 1), (6, .getfield 30, 3), (9, .getfield 67, 3), (12, .if_icmp .ge 25, 3), (15, .iload_n 1, 1), (16, .aload_n 0, 1), (17, .getfield 30, 3), (20, .getfield 82, 3), (23, .iload_n 2, 1), (24, .iaload, 1), (25, .iconst 2, 1), (26, .iload_n 2, 1), (27, .imul, 1), (28, .ishl, 1), (29, .ior, 1), (30, .istore_n 1, 1), (31, .iinc 2 1, 3), (34, .goto (-30), 3), (37, .iload_n 1, 1), (38, .ireturn, 1)]
set_option maxRecDepth 20000 in
theorem eX6_packedNow : zq_dec tX6_packedNow cX6_packedNow := by unfold zq_dec; decide +kernel
abbrev YX6_moved : zq_Y := (yX6_moved, cX6_moved, 3, some .int)
def tX6_moved : List (Nat × Instr × Nat) := [(0, .iload_n 0, 1), (1, .iconst 3, 1), (2, .iconst 2, 1), (3, .iload_n 1, 1), (4, .imul, 1), (5, .ishl, 1), (6, .iconst (-1), 1), (7, .ixor, 1), (8, .iand, 1), (9, .iload_n 2, 1), (10, .iconst 2, 1), (11, .iload_n 1, 1), (12, .imul, 1), (13, .ishl, 1), (14, .ior, 1), (15, .ireturn, 1)]
set_option maxRecDepth 20000 in
theorem eX6_moved : zq_dec tX6_moved cX6_moved := by unfold zq_dec; decide +kernel
abbrev YX6_whoIsAt : zq_Y := (yX6_whoIsAt, cX6_whoIsAt, 5, some .int)
def tX6_whoIsAt : List (Nat × Instr × Nat) := [(0, .iconst 0, 1), (1, .istore_n 3, 1), (2, .iconst 0, 1), (3, .istore 4, 2), (5, .iload 4, 2), (7, .aload_n 0, 1), (8, .getfield 30, 3), (11, .getfield 67, 3), (14, .if_icmp .ge 28, 3), (17, .iload_n 1, 1), (18, .iconst 2, 1), (19, .iload 4, 2), (21, .imul, 1), (22, .ishr, 1), (23, .iconst 3, 1), (24, .iand, 1), (25, .iload_n 2, 1), (26, .if_icmp .ne 10, 3), (29, .iload_n 3, 1), (30, .iconst 1, 1), (31, .iload 4, 2), (33, .ishl, 1), (34, .ior, 1), (35, .istore_n 3, 1), (36, .iinc 4 1, 3), (39, .goto (-34), 3), (42, .iload_n 3, 1), (43, .ireturn, 1)]
set_option maxRecDepth 20000 in
theorem eX6_whoIsAt : zq_dec tX6_whoIsAt cX6_whoIsAt := by unfold zq_dec; decide +kernel
abbrev YX6_numberAt : zq_Y := (yX6_numberAt, cX6_numberAt, 5, some .int)
def tX6_numberAt : List (Nat × Instr × Nat) := [(0, .iload_n 1, 1), (1, .iload_n 2, 1), (2, .sipush 341, 3), (5, .imul, 1), (6, .ixor, 1), (7, .istore_n 3, 1), (8, .iload_n 3, 1), (9, .iload_n 3, 1), (10, .iconst 1, 1), (11, .ishr, 1), (12, .ior, 1), (13, .sipush 341, 3), (16, .iand, 1), (17, .iconst 1, 1), (18, .iconst 2, 1), (19, .aload_n 0, 1), (20, .getfield 30, 3), (23, .getfield 67, 3), (26, .imul, 1), (27, .ishl, 1), (28, .iconst 1, 1), (29, .isub, 1), (30, .iand, 1), (31, .istore 4, 2), (33, .aload_n 0, 1), (34, .getfield 30, 3), (37, .getfield 67, 3), (40, .iload 4, 2), (42, .invokestatic 56, 3), (45, .isub, 1), (46, .ireturn, 1)]
set_option maxRecDepth 20000 in
theorem eX6_numberAt : zq_dec tX6_numberAt cX6_numberAt := by unfold zq_dec; decide +kernel
abbrev YX6_mayCome : zq_Y := (yX6_mayCome, cX6_mayCome, 4, some .boolean)
def tX6_mayCome : List (Nat × Instr × Nat) := [(0, .iload_n 1, 1), (1, .iconst 2, 1), (2, .iload_n 2, 1), (3, .imul, 1), (4, .ishr, 1), (5, .iconst 3, 1), (6, .iand, 1), (7, .iload_n 3, 1), (8, .if_icmp .eq 28, 3), (11, .aload_n 0, 1), (12, .getfield 26, 3), (15, .iload_n 2, 1), (16, .iload_n 3, 1), (17, .aload_n 0, 1), (18, .iload_n 1, 1), (19, .iload_n 3, 1), (20, .invokevirtual 85, 3), (23, .iconst 1, 1), (24, .iadd, 1), (25, .invokestatic 71, 3), (28, .baload, 1), (29, .ifCond .ne 7, 3), (32, .iconst 1, 1), (33, .goto 4, 3), (36, .iconst 0, 1), (37, .ireturn, 1)]
set_option maxRecDepth 20000 in
theorem eX6_mayCome : zq_dec tX6_mayCome cX6_mayCome := by unfold zq_dec; decide +kernel
abbrev YX6_priceFrom : zq_Y := (yX6_priceFrom, cX6_priceFrom, 4, some .int)
def tX6_priceFrom : List (Nat × Instr × Nat) := [(0, .aload_n 0, 1), (1, .getfield 23, 3), (4, .iload_n 2, 1), (5, .iload_n 3, 1), (6, .aload_n 0, 1), (7, .iload_n 1, 1), (8, .iload_n 3, 1), (9, .invokevirtual 85, 3), (12, .iconst 1, 1), (13, .iadd, 1), (14, .invokestatic 71, 3), (17, .iaload, 1), (18, .ireturn, 1)]
set_option maxRecDepth 20000 in
theorem eX6_priceFrom : zq_dec tX6_priceFrom cX6_priceFrom := by unfold zq_dec; decide +kernel
abbrev YX6_speakers : zq_Y := (yX6_speakers, cX6_speakers, 9, some .int)
def tX6_speakers : List (Nat × Instr × Nat) := [(0, .iload_n 1, 1), (1, .invokestatic 89, 3), (4, .ifCond .eq 7, 3), (7, .iload_n 2, 1), (8, .ifCond .ne 5, 3), (11, .iconst 0, 1), (12, .ireturn, 1), (13, .aload_n 0, 1), (14, .getfield 30, 3), (17, .getfield 64, 3), (20, .iload_n 1, 1), (21, .iaload, 1), (22, .istore 4, 2), (24, .iload 4, 2), (26, .iconst 3, 1), (27, .if_icmp .eq 10, 3), (30, .iload 4, 2), (32, .bipush 6, 2), (34, .if_icmp .ne 13, 3), (37, .aload_n 0, 1), (38, .getfield 30, 3), (41, .getfield 93, 3), (44, .goto 10, 3), (47, .aload_n 0, 1), (48, .getfield 30, 3), (51, .getfield 61, 3), (54, .astore 5, 2), (56, .aload_n 0, 1), (57, .iload_n 2, 1), (58, .aload 5, 2), (60, .invokevirtual 96, 3), (63, .istore 6, 2), (65, .iload 4, 2), (67, .aload_n 0, 1), (68, .getfield 30, 3), (71, .getfield 99, 3), (74, .iload_n 1, 1), (75, .iaload, 1), (76, .iload 6, 2), (78, .iload_n 3, 1), (79, .invokestatic 102, 3), (82, .istore 7, 2), (84, .iconst 0, 1), (85, .istore 8, 2), (87, .iload 7, 2), (89, .ifCond .lt 21, 3), (92, .iload 7, 2), (94, .iload 6, 2), (96, .if_icmp .ge 14, 3), (99, .iconst 1, 1), (100, .aload_n 0, 1), (101, .getfield 17, 3), (104, .iload 7, 2), (106, .iaload, 1), (107, .ishl, 1), (108, .istore 8, 2), (110, .iload 4, 2), (112, .iconst 4, 1), (113, .if_icmp .ne 26, 3), (116, .iload 6, 2), (118, .iconst 2, 1), (119, .irem, 1), (120, .ifCond .ne 19, 3), (123, .iload 8, 2), (125, .iconst 1, 1), (126, .aload_n 0, 1), (127, .getfield 17, 3), (130, .iload 6, 2), (132, .iconst 2, 1), (133, .idiv, 1), (134, .iaload, 1), (135, .ishl, 1), (136, .ior, 1), (137, .istore 8, 2), (139, .aload_n 0, 1), (140, .getfield 34, 3), (143, .getfield 106, 3), (146, .ifCond .le 15, 3), (149, .aload_n 0, 1), (150, .iload 8, 2), (152, .iload_n 2, 1), (153, .aload 5, 2), (155, .invokevirtual 109, 3), (158, .goto 5, 3), (161, .iload 8, 2), (163, .ireturn, 1)]
set_option maxRecDepth 20000 in
theorem eX6_speakers : zq_dec tX6_speakers cX6_speakers := by unfold zq_dec; decide +kernel
abbrev YX6_lineUp : zq_Y := (yX6_lineUp, cX6_lineUp, 6, some .int)
def tX6_lineUp : List (Nat × Instr × Nat) := [(0, .iconst 0, 1), (1, .istore_n 3, 1), (2, .iconst 0, 1), (3, .istore 4, 2), (5, .iload 4, 2), (7, .aload_n 0, 1), (8, .getfield 30, 3), (11, .getfield 67, 3), (14, .if_icmp .ge 79, 3), (17, .iload_n 1, 1), (18, .iload 4, 2), (20, .ishr, 1), (21, .iconst 1, 1), (22, .iand, 1), (23, .iconst 1, 1), (24, .if_icmp .ne 63, 3), (27, .iload_n 3, 1), (28, .istore 5, 2), (30, .iload 5, 2), (32, .ifCond .le 43, 3), (35, .aload_n 2, 1), (36, .aload_n 0, 1), (37, .getfield 17, 3), (40, .iload 5, 2), (42, .iconst 1, 1), (43, .isub, 1), (44, .iaload, 1), (45, .iaload, 1), (46, .aload_n 2, 1), (47, .iload 4, 2), (49, .iaload, 1), (50, .if_icmp .le 25, 3), (53, .aload_n 0, 1), (54, .getfield 17, 3), (57, .iload 5, 2), (59, .aload_n 0, 1), (60, .getfield 17, 3), (63, .iload 5, 2), (65, .iconst 1, 1), (66, .isub, 1), (67, .iaload, 1), (68, .iastore, 1), (69, .iinc 5 (-1), 3), (72, .goto (-42), 3), (75, .aload_n 0, 1), (76, .getfield 17, 3), (79, .iload 5, 2), (81, .iload 4, 2), (83, .iastore, 1), (84, .iinc 3 1, 3), (87, .iinc 4 1, 3), (90, .goto (-85), 3), (93, .iload_n 3, 1), (94, .ireturn, 1)]
set_option maxRecDepth 20000 in
theorem eX6_lineUp : zq_dec tX6_lineUp cX6_lineUp := by unfold zq_dec; decide +kernel
abbrev YX6_placeInLine : zq_Y := (yX6_placeInLine, cX6_placeInLine, 5, some .int)
def tX6_placeInLine : List (Nat × Instr × Nat) := [(0, .iload_n 2, 1), (1, .iconst 2, 1), (2, .irem, 1), (3, .iconst 1, 1), (4, .if_icmp .ne 11, 3), (7, .iload_n 2, 1), (8, .iconst 1, 1), (9, .isub, 1), (10, .iconst 2, 1), (11, .idiv, 1), (12, .goto 4, 3), (15, .iconst (-1), 1), (16, .istore 4, 2), (18, .iload_n 0, 1), (19, .tableswitch 75 1 6 #[37, 43, 75, 37, 49, 63], 37), (56, .iload_n 2, 1), (57, .iconst 1, 1), (58, .isub, 1), (59, .iconst 2, 1), (60, .idiv, 1), (61, .ireturn, 1), (62, .iload_n 2, 1), (63, .iconst 1, 1), (64, .isub, 1), (65, .iload_n 1, 1), (66, .isub, 1), (67, .ireturn, 1), (68, .iload_n 2, 1), (69, .ifCond .le 11, 3), (72, .iload_n 3, 1), (73, .iload_n 1, 1), (74, .iadd, 1), (75, .iload_n 2, 1), (76, .irem, 1), (77, .goto 4, 3), (80, .iconst (-1), 1), (81, .ireturn, 1), (82, .iload_n 2, 1), (83, .iload_n 1, 1), (84, .if_icmp .le 7, 3), (87, .iconst 0, 1), (88, .goto 5, 3), (91, .iload 4, 2), (93, .ireturn, 1), (94, .iload 4, 2), (96, .ireturn, 1)]
set_option maxRecDepth 20000 in
theorem eX6_placeInLine : zq_dec tX6_placeInLine cX6_placeInLine := by unfold zq_dec; decide +kernel
abbrev YX6_withoutNear : zq_Y := (yX6_withoutNear, cX6_withoutNear, 6, some .int)
def tX6_withoutNear : List (Nat × Instr × Nat) := [(0, .iload_n 1, 1), (1, .istore 4, 2), (3, .iconst 0, 1), (4, .istore 5, 2), (6, .iload 5, 2), (8, .aload_n 0, 1), (9, .getfield 30, 3), (12, .getfield 67, 3), (15, .if_icmp .ge 41, 3), (18, .iload_n 1, 1), (19, .iload 5, 2), (21, .ishr, 1), (22, .iconst 1, 1), (23, .iand, 1), (24, .iconst 1, 1), (25, .if_icmp .ne 25, 3), (28, .aload_n 0, 1), (29, .iload 5, 2), (31, .iload_n 2, 1), (32, .aload_n 3, 1), (33, .invokevirtual 113, 3), (36, .ifCond .eq 14, 3), (39, .iload 4, 2), (41, .iconst 1, 1), (42, .iload 5, 2), (44, .ishl, 1), (45, .iconst (-1), 1), (46, .ixor, 1), (47, .iand, 1), (48, .istore 4, 2), (50, .iinc 5 1, 3), (53, .goto (-47), 3), (56, .iload 4, 2), (58, .ireturn, 1)]
set_option maxRecDepth 20000 in
theorem eX6_withoutNear : zq_dec tX6_withoutNear cX6_withoutNear := by unfold zq_dec; decide +kernel
abbrev YX6_isNearAnother : zq_Y := (yX6_isNearAnother, cX6_isNearAnother, 6, some .boolean)
def tX6_isNearAnother : List (Nat × Instr × Nat) := [(0, .iconst 0, 1), (1, .istore 4, 2), (3, .iload 4, 2), (5, .aload_n 0, 1), (6, .getfield 30, 3), (9, .getfield 67, 3), (12, .if_icmp .ge 62, 3), (15, .aload_n 3, 1), (16, .iload 4, 2), (18, .iaload, 1), (19, .aload_n 3, 1), (20, .iload_n 1, 1), (21, .iaload, 1), (22, .isub, 1), (23, .istore 5, 2), (25, .iload 4, 2), (27, .iload_n 1, 1), (28, .if_icmp .eq 40, 3), (31, .iload_n 2, 1), (32, .iload 4, 2), (34, .ishr, 1), (35, .iconst 1, 1), (36, .iand, 1), (37, .iconst 1, 1), (38, .if_icmp .ne 30, 3), (41, .iload 5, 2), (43, .aload_n 0, 1), (44, .getfield 34, 3), (47, .getfield 106, 3), (50, .if_icmp .gt 18, 3), (53, .iload 5, 2), (55, .ineg, 1), (56, .aload_n 0, 1), (57, .getfield 34, 3), (60, .getfield 106, 3), (63, .if_icmp .gt 5, 3), (66, .iconst 1, 1), (67, .ireturn, 1), (68, .iinc 4 1, 3), (71, .goto (-68), 3), (74, .iconst 0, 1), (75, .ireturn, 1)]
set_option maxRecDepth 20000 in
theorem eX6_isNearAnother : zq_dec tX6_isNearAnother cX6_isNearAnother := by unfold zq_dec; decide +kernel
abbrev YX6_sayable : zq_Y := (yX6_sayable, cX6_sayable, 2, some .int)
def tX6_sayable : List (Nat × Instr × Nat) := [(0, .aload_n 0, 1), (1, .getfield 30, 3), (4, .getfield 117, 3), (7, .iconst 0, 1), (8, .aload_n 0, 1), (9, .getfield 20, 3), (12, .iconst 0, 1), (13, .iconst 5, 1), (14, .invokestatic 120, 3), (17, .iconst 0, 1), (18, .istore_n 1, 1), (19, .iload_n 1, 1), (20, .aload_n 0, 1), (21, .getfield 30, 3), (24, .getfield 126, 3), (27, .if_icmp .ge 42, 3), (30, .aload_n 0, 1), (31, .aload_n 0, 1), (32, .getfield 30, 3), (35, .getfield 129, 3), (38, .iload_n 1, 1), (39, .iaload, 1), (40, .bipush 10, 2), (42, .idiv, 1), (43, .aload_n 0, 1), (44, .getfield 30, 3), (47, .getfield 129, 3), (50, .iload_n 1, 1), (51, .iaload, 1), (52, .bipush 10, 2), (54, .irem, 1), (55, .invokevirtual 132, 3), (58, .ifCond .ne 5, 3), (61, .iload_n 1, 1), (62, .ireturn, 1), (63, .iinc 1 1, 3), (66, .goto (-47), 3), (69, .aload_n 0, 1), (70, .getfield 30, 3), (73, .getfield 126, 3), (76, .ireturn, 1)]
set_option maxRecDepth 20000 in
theorem eX6_sayable : zq_dec tX6_sayable cX6_sayable := by unfold zq_dec; decide +kernel
abbrev YX6_isSaid : zq_Y := (yX6_isSaid, cX6_isSaid, 6, some .boolean)
def tX6_isSaid : List (Nat × Instr × Nat) := [(0, .iload_n 1, 1), (1, .iconst 0, 1), (2, .aload_n 0, 1), (3, .getfield 30, 3), (6, .getfield 67, 3), (9, .iconst 1, 1), (10, .isub, 1), (11, .invokestatic 136, 3), (14, .ifCond .eq 16, 3), (17, .aload_n 0, 1), (18, .getfield 20, 3), (21, .iload_n 1, 1), (22, .iaload, 1), (23, .iload_n 2, 1), (24, .ishr, 1), (25, .iconst 1, 1), (26, .iand, 1), (27, .ifCond .ne 5, 3), (30, .iconst 0, 1), (31, .ireturn, 1), (32, .aload_n 0, 1), (33, .getfield 30, 3), (36, .getfield 82, 3), (39, .iload_n 1, 1), (40, .iaload, 1), (41, .istore_n 3, 1), (42, .aload_n 0, 1), (43, .getfield 30, 3), (46, .iload_n 3, 1), (47, .invokevirtual 50, 3), (50, .istore 4, 2), (52, .aload_n 0, 1), (53, .iload_n 3, 1), (54, .iload 4, 2), (56, .aload_n 0, 1), (57, .getfield 30, 3), (60, .getfield 139, 3), (63, .invokevirtual 142, 3), (66, .iload_n 1, 1), (67, .ishr, 1), (68, .iconst 1, 1), (69, .iand, 1), (70, .ifCond .ne 5, 3), (73, .iconst 0, 1), (74, .ireturn, 1), (75, .iconst 0, 1), (76, .istore 5, 2), (78, .iload 5, 2), (80, .aload_n 0, 1), (81, .getfield 30, 3), (84, .getfield 67, 3), (87, .if_icmp .ge 33, 3), (90, .iload 4, 2), (92, .iload 5, 2), (94, .ishr, 1), (95, .iconst 1, 1), (96, .iand, 1), (97, .iconst 1, 1), (98, .if_icmp .ne 16, 3), (101, .aload_n 0, 1), (102, .getfield 20, 3), (105, .iload 5, 2), (107, .dup2, 1), (108, .iaload, 1), (109, .iconst 1, 1), (110, .iload_n 2, 1), (111, .ishl, 1), (112, .ior, 1), (113, .iastore, 1), (114, .iinc 5 1, 3), (117, .goto (-39), 3), (120, .iconst 1, 1), (121, .ireturn, 1)]
set_option maxRecDepth 20000 in
theorem eX6_isSaid : zq_dec tX6_isSaid cX6_isSaid := by unfold zq_dec; decide +kernel
abbrev YX7_init : zq_Y := (yX7_init, cX7_init, 1, none)
def tX7_init : List (Nat × Instr × Nat) := [(0, .aload_n 0, 1), (1, .invokespecial 3, 3), (4, .aload_n 0, 1), (5, .iconst (-1), 1), (6, .putfield 9, 3), (9, .aload_n 0, 1), (10, .bipush 60, 2), (12, .newarray .long, 2), (14, .putfield 15, 3), (17, .return_, 1)]
set_option maxRecDepth 20000 in
theorem eX7_init : zq_dec tX7_init cX7_init := by unfold zq_dec; decide +kernel
abbrev YX7_holdsRow : zq_Y := (yX7_holdsRow, cX7_holdsRow, 1, some .boolean)
def tX7_holdsRow : List (Nat × Instr × Nat) := [(0, .aload_n 0, 1), (1, .getfield 9, 3), (4, .ifCond .lt 7, 3), (7, .iconst 1, 1), (8, .goto 4, 3), (11, .iconst 0, 1), (12, .ireturn, 1)]
set_option maxRecDepth 20000 in
theorem eX7_holdsRow : zq_dec tX7_holdsRow cX7_holdsRow := by unfold zq_dec; decide +kernel
abbrev YX7_holdNothing : zq_Y := (yX7_holdNothing, cX7_holdNothing, 1, none)
def tX7_holdNothing : List (Nat × Instr × Nat) := [(0, .aload_n 0, 1), (1, .iconst (-1), 1), (2, .putfield 9, 3), (5, .aload_n 0, 1), (6, .iconst 0, 1), (7, .putfield 19, 3), (10, .return_, 1)]
set_option maxRecDepth 20000 in
theorem eX7_holdNothing : zq_dec tX7_holdNothing cX7_holdNothing := by unfold zq_dec; decide +kernel
abbrev YX7_holdZeros : zq_Y := (yX7_holdZeros, cX7_holdZeros, 3, none)
def tX7_holdZeros : List (Nat × Instr × Nat) := [(0, .aload_n 0, 1), (1, .iload_n 1, 1), (2, .putfield 9, 3), (5, .aload_n 0, 1), (6, .iload_n 2, 1), (7, .putfield 19, 3), (10, .aload_n 0, 1), (11, .getfield 15, 3), (14, .lconst 0, 1), (15, .invokestatic 22, 3), (18, .return_, 1)]
set_option maxRecDepth 20000 in
theorem eX7_holdZeros : zq_dec tX7_holdZeros cX7_holdZeros := by unfold zq_dec; decide +kernel
abbrev YX7_hasPlace : zq_Y := (yX7_hasPlace, cX7_hasPlace, 2, some .boolean)
def tX7_hasPlace : List (Nat × Instr × Nat) := [(0, .iload_n 1, 1), (1, .ifCond .lt 15, 3), (4, .iload_n 1, 1), (5, .aload_n 0, 1), (6, .getfield 19, 3), (9, .if_icmp .ge 7, 3), (12, .iconst 1, 1), (13, .goto 4, 3), (16, .iconst 0, 1), (17, .ireturn, 1)]
set_option maxRecDepth 20000 in
theorem eX7_hasPlace : zq_dec tX7_hasPlace cX7_hasPlace := by unfold zq_dec; decide +kernel
abbrev YX7_hasPart : zq_Y := (yX7_hasPart, cX7_hasPart, 3, some .boolean)
def tX7_hasPart : List (Nat × Instr × Nat) := [(0, .iload_n 1, 1), (1, .ifCond .lt 29, 3), (4, .iload_n 2, 1), (5, .ifCond .lt 25, 3), (8, .iload_n 1, 1), (9, .aload_n 0, 1), (10, .getfield 19, 3), (13, .if_icmp .gt 17, 3), (16, .iload_n 2, 1), (17, .aload_n 0, 1), (18, .getfield 19, 3), (21, .iload_n 1, 1), (22, .isub, 1), (23, .if_icmp .gt 7, 3), (26, .iconst 1, 1), (27, .goto 4, 3), (30, .iconst 0, 1), (31, .ireturn, 1)]
set_option maxRecDepth 20000 in
theorem eX7_hasPart : zq_dec tX7_hasPart cX7_hasPart := by unfold zq_dec; decide +kernel
abbrev YX7_put : zq_Y := (yX7_put, cX7_put, 4, none)
def tX7_put : List (Nat × Instr × Nat) := [(0, .aload_n 0, 1), (1, .getfield 15, 3), (4, .iload_n 1, 1), (5, .aload_n 0, 1), (6, .lload_n 2, 1), (7, .invokevirtual 28, 3), (10, .lastore, 1), (11, .return_, 1)]
set_option maxRecDepth 20000 in
theorem eX7_put : zq_dec tX7_put cX7_put := by unfold zq_dec; decide +kernel
abbrev YX7_narrowed : zq_Y := (yX7_narrowed, cX7_narrowed, 3, some .long)
def tX7_narrowed : List (Nat × Instr × Nat) := [(0, .aload_n 0, 1), (1, .getfield 9, 3), (4, .tableswitch 48 0 3 #[32, 37, 42, 46], 32), (36, .lload_n 1, 1), (37, .l2i, 1), (38, .i2b, 1), (39, .i2l, 1), (40, .lreturn, 1), (41, .lload_n 1, 1), (42, .l2i, 1), (43, .i2s, 1), (44, .i2l, 1), (45, .lreturn, 1), (46, .lload_n 1, 1), (47, .l2i, 1), (48, .i2l, 1), (49, .lreturn, 1), (50, .lload_n 1, 1), (51, .lreturn, 1), (52, .lload_n 1, 1), (53, .lconst 0, 1), (54, .lcmp, 1), (55, .ifCond .eq 7, 3), (58, .lconst 1, 1), (59, .goto 4, 3), (62, .lconst 0, 1), (63, .lreturn, 1)]
set_option maxRecDepth 20000 in
theorem eX7_narrowed : zq_dec tX7_narrowed cX7_narrowed := by unfold zq_dec; decide +kernel
abbrev YX8_init : zq_Y := (yX8_init, cX8_init, 2, none)
def tX8_init : List (Nat × Instr × Nat) := [(0, .aload_n 0, 1), (1, .invokespecial 3, 3), (4, .aload_n 0, 1), (5, .aload_n 1, 1), (6, .putfield 9, 3), (9, .return_, 1)]
set_option maxRecDepth 20000 in
theorem eX8_init : zq_dec tX8_init cX8_init := by unfold zq_dec; decide +kernel
abbrev YX8_canWin : zq_Y := (yX8_canWin, cX8_canWin, 4, some .boolean)
def tX8_canWin : List (Nat × Instr × Nat) := [(0, .aload_n 0, 1), (1, .iload_n 1, 1), (2, .iload_n 2, 1), (3, .aload_n 0, 1), (4, .getfield 9, 3), (7, .invokevirtual 15, 3), (10, .aload_n 0, 1), (11, .getfield 9, 3), (14, .getfield 21, 3), (17, .getfield 25, 3), (20, .iload_n 3, 1), (21, .iconst 1, 1), (22, .invokevirtual 31, 3), (25, .ireturn, 1)]
set_option maxRecDepth 20000 in
theorem eX8_canWin : zq_dec tX8_canWin cX8_canWin := by unfold zq_dec; decide +kernel
abbrev YX8_wins : zq_Y := (yX8_wins, cX8_wins, 10, some .boolean)
def tX8_wins : List (Nat × Instr × Nat) := [(0, .iload 5, 2), (2, .ifCond .gt 46, 3), (5, .aload_n 0, 1), (6, .getfield 9, 3), (9, .iload_n 1, 1), (10, .aload_n 0, 1), (11, .getfield 9, 3), (14, .iload_n 3, 1), (15, .iload_n 1, 1), (16, .invokevirtual 35, 3), (19, .iload 4, 2), (21, .invokevirtual 39, 3), (24, .istore 7, 2), (26, .iload 7, 2), (28, .iload_n 2, 1), (29, .iand, 1), (30, .ifCond .eq 16, 3), (33, .iload 7, 2), (35, .iload_n 2, 1), (36, .iconst (-1), 1), (37, .ixor, 1), (38, .iand, 1), (39, .ifCond .ne 7, 3), (42, .iconst 1, 1), (43, .goto 4, 3), (46, .iconst 0, 1), (47, .ireturn, 1), (48, .aload_n 0, 1), (49, .iload_n 1, 1), (50, .iload_n 2, 1), (51, .iload_n 3, 1), (52, .iload 4, 2), (54, .iload 5, 2), (56, .iconst 1, 1), (57, .isub, 1), (58, .iload 6, 2), (60, .ifCond .ne 7, 3), (63, .iconst 1, 1), (64, .goto 4, 3), (67, .iconst 0, 1), (68, .invokevirtual 31, 3), (71, .iload 6, 2), (73, .if_icmp .ne 6, 3), (76, .iload 6, 2), (78, .ireturn, 1), (79, .iconst 0, 1), (80, .istore 7, 2), (82, .iload 7, 2), (84, .aload_n 0, 1), (85, .getfield 9, 3), (88, .getfield 21, 3), (91, .getfield 43, 3), (94, .if_icmp .ge 83, 3), (97, .iconst 0, 1), (98, .istore 8, 2), (100, .iload 8, 2), (102, .iconst 4, 1), (103, .if_icmp .ge 68, 3), (106, .aload_n 0, 1), (107, .getfield 9, 3), (110, .iload_n 3, 1), (111, .iload 7, 2), (113, .iload 8, 2), (115, .invokevirtual 46, 3), (118, .ifCond .eq 47, 3), (121, .iload_n 3, 1), (122, .iload 7, 2), (124, .iload 8, 2), (126, .invokestatic 50, 3), (129, .istore 9, 2), (131, .aload_n 0, 1), (132, .iload_n 1, 1), (133, .iload_n 2, 1), (134, .iload 9, 2), (136, .iload 4, 2), (138, .iconst 1, 1), (139, .iadd, 1), (140, .iload 5, 2), (142, .iconst 1, 1), (143, .isub, 1), (144, .iload 6, 2), (146, .ifCond .ne 7, 3), (149, .iconst 1, 1), (150, .goto 4, 3), (153, .iconst 0, 1), (154, .invokevirtual 31, 3), (157, .iload 6, 2), (159, .if_icmp .ne 6, 3), (162, .iload 6, 2), (164, .ireturn, 1), (165, .iinc 8 1, 3), (168, .goto (-68), 3), (171, .iinc 7 1, 3), (174, .goto (-92), 3), (177, .iload 6, 2), (179, .ifCond .ne 7, 3), (182, .iconst 1, 1), (183, .goto 4, 3), (186, .iconst 0, 1), (187, .ireturn, 1)]
set_option maxRecDepth 20000 in
theorem eX8_wins : zq_dec tX8_wins cX8_wins := by unfold zq_dec; decide +kernel
abbrev YX8_oddsOfSpeaking : zq_Y := (yX8_oddsOfSpeaking, cX8_oddsOfSpeaking, 10, some .long)
def tX8_oddsOfSpeaking : List (Nat × Instr × Nat) := [(0, .ldc2_w 53, 3), (3, .lstore 4, 2), (5, .aload_n 0, 1), (6, .iload_n 1, 1), (7, .aload_n 0, 1), (8, .getfield 9, 3), (11, .invokevirtual 15, 3), (14, .aload_n 0, 1), (15, .getfield 9, 3), (18, .getfield 21, 3), (21, .getfield 25, 3), (24, .iload_n 2, 1), (25, .lload 4, 2), (27, .invokevirtual 55, 3), (30, .lstore 6, 2), (32, .lload 4, 2), (34, .lload 6, 2), (36, .invokestatic 59, 3), (39, .lstore 8, 2), (41, .iload_n 3, 1), (42, .ifCond .eq 8, 3), (45, .lload 6, 2), (47, .goto 5, 3), (50, .lload 4, 2), (52, .lload 8, 2), (54, .ldiv, 1), (55, .lreturn, 1)]
set_option maxRecDepth 20000 in
theorem eX8_oddsOfSpeaking : zq_dec tX8_oddsOfSpeaking cX8_oddsOfSpeaking := by unfold zq_dec; decide +kernel
abbrev YX8_sharesSpeaking : zq_Y := (yX8_sharesSpeaking, cX8_sharesSpeaking, 13, some .long)
def tX8_sharesSpeaking : List (Nat × Instr × Nat) := [(0, .iload 4, 2), (2, .ifCond .le 11, 3), (5, .aload_n 0, 1), (6, .iload_n 2, 1), (7, .invokevirtual 63, 3), (10, .goto 4, 3), (13, .iconst 0, 1), (14, .istore 7, 2), (16, .iload 7, 2), (18, .ifCond .ne 51, 3), (21, .iload_n 2, 1), (22, .iconst 2, 1), (23, .iload_n 1, 1), (24, .imul, 1), (25, .ishr, 1), (26, .iconst 3, 1), (27, .iand, 1), (28, .istore 8, 2), (30, .aload_n 0, 1), (31, .getfield 9, 3), (34, .iload 8, 2), (36, .aload_n 0, 1), (37, .getfield 9, 3), (40, .iload_n 2, 1), (41, .iload 8, 2), (43, .invokevirtual 35, 3), (46, .iload_n 3, 1), (47, .invokevirtual 39, 3), (50, .istore 9, 2), (52, .iload 9, 2), (54, .iload_n 1, 1), (55, .ishr, 1), (56, .iconst 1, 1), (57, .iand, 1), (58, .iconst 1, 1), (59, .if_icmp .ne 8, 3), (62, .lload 5, 2), (64, .goto 4, 3), (67, .lconst 0, 1), (68, .lreturn, 1), (69, .lconst 0, 1), (70, .lstore 8, 2), (72, .iconst 0, 1), (73, .istore 10, 2), (75, .iload 10, 2), (77, .aload_n 0, 1), (78, .getfield 9, 3), (81, .getfield 21, 3), (84, .getfield 43, 3), (87, .if_icmp .ge 74, 3), (90, .iconst 0, 1), (91, .istore 11, 2), (93, .iload 11, 2), (95, .iconst 4, 1), (96, .if_icmp .ge 59, 3), (99, .aload_n 0, 1), (100, .getfield 9, 3), (103, .iload_n 2, 1), (104, .iload 10, 2), (106, .iload 11, 2), (108, .invokevirtual 46, 3), (111, .ifCond .eq 38, 3), (114, .iload_n 2, 1), (115, .iload 10, 2), (117, .iload 11, 2), (119, .invokestatic 50, 3), (122, .istore 12, 2), (124, .lload 8, 2), (126, .aload_n 0, 1), (127, .iload_n 1, 1), (128, .iload 12, 2), (130, .iload_n 3, 1), (131, .iconst 1, 1), (132, .iadd, 1), (133, .iload 4, 2), (135, .iconst 1, 1), (136, .isub, 1), (137, .lload 5, 2), (139, .iload 7, 2), (141, .i2l, 1), (142, .ldiv, 1), (143, .invokevirtual 55, 3), (146, .ladd, 1), (147, .lstore 8, 2), (149, .iinc 11 1, 3), (152, .goto (-59), 3), (155, .iinc 10 1, 3), (158, .goto (-83), 3), (161, .lload 8, 2), (163, .lreturn, 1)]
set_option maxRecDepth 20000 in
theorem eX8_sharesSpeaking : zq_dec tX8_sharesSpeaking cX8_sharesSpeaking := by unfold zq_dec; decide +kernel
abbrev YX8_waysOn : zq_Y := (yX8_waysOn, cX8_waysOn, 5, some .int)
def tX8_waysOn : List (Nat × Instr × Nat) := [(0, .iconst 0, 1), (1, .istore_n 2, 1), (2, .iconst 0, 1), (3, .istore_n 3, 1), (4, .iload_n 3, 1), (5, .aload_n 0, 1), (6, .getfield 9, 3), (9, .getfield 21, 3), (12, .getfield 43, 3), (15, .if_icmp .ge 41, 3), (18, .iconst 0, 1), (19, .istore 4, 2), (21, .iload 4, 2), (23, .iconst 4, 1), (24, .if_icmp .ge 26, 3), (27, .aload_n 0, 1), (28, .getfield 9, 3), (31, .iload_n 1, 1), (32, .iload_n 3, 1), (33, .iload 4, 2), (35, .invokevirtual 46, 3), (38, .ifCond .eq 6, 3), (41, .iinc 2 1, 3), (44, .iinc 4 1, 3), (47, .goto (-26), 3), (50, .iinc 3 1, 3), (53, .goto (-49), 3), (56, .iload_n 2, 1), (57, .ireturn, 1)]
set_option maxRecDepth 20000 in
theorem eX8_waysOn : zq_dec tX8_waysOn cX8_waysOn := by unfold zq_dec; decide +kernel
abbrev YX8_greatestDivisor : zq_Y := (yX8_greatestDivisor, cX8_greatestDivisor, 11, some .long)
def tX8_greatestDivisor : List (Nat × Instr × Nat) := [(0, .lload_n 0, 1), (1, .lstore 4, 2), (3, .lload_n 2, 1), (4, .lstore 6, 2), (6, .iconst 0, 1), (7, .istore 8, 2), (9, .iload 8, 2), (11, .sipush 200, 3), (14, .if_icmp .ge 31, 3), (17, .lload 6, 2), (19, .lconst 0, 1), (20, .lcmp, 1), (21, .ifCond .eq 24, 3), (24, .lload 4, 2), (26, .lload 6, 2), (28, .lrem, 1), (29, .lstore 9, 2), (31, .lload 6, 2), (33, .lstore 4, 2), (35, .lload 9, 2), (37, .lstore 6, 2), (39, .iinc 8 1, 3), (42, .goto (-33), 3), (45, .lload 4, 2), (47, .lconst 0, 1), (48, .lcmp, 1), (49, .ifCond .ne 7, 3), (52, .lconst 1, 1), (53, .goto 5, 3), (56, .lload 4, 2), (58, .lreturn, 1)]
set_option maxRecDepth 20000 in
theorem eX8_greatestDivisor : zq_dec tX8_greatestDivisor cX8_greatestDivisor := by unfold zq_dec; decide +kernel
abbrev YX9_init : zq_Y := (yX9_init, cX9_init, 2, none)
def tX9_init : List (Nat × Instr × Nat) := [(0, .aload_n 0, 1), (1, .invokespecial 3, 3), (4, .aload_n 0, 1), (5, .sipush 1024, 3), (8, .newarray .int, 2), (10, .putfield 11, 3), (13, .aload_n 0, 1), (14, .sipush 1024, 3), (17, .newarray .int, 2), (19, .putfield 17, 3), (22, .aload_n 0, 1), (23, .bipush 32, 2), (25, .newarray .int, 2), (27, .putfield 20, 3), (30, .aload_n 0, 1), (31, .aload_n 1, 1), (32, .putfield 23, 3), (35, .return_, 1)]
set_option maxRecDepth 20000 in
theorem eX9_init : zq_dec tX9_init cX9_init := by unfold zq_dec; decide +kernel
abbrev YX9_fewestComings : zq_Y := (yX9_fewestComings, cX9_fewestComings, 6, some .int)
def tX9_fewestComings : List (Nat × Instr × Nat) := [(0, .aload_n 0, 1), (1, .iconst 0, 1), (2, .invokevirtual 27, 3), (5, .iconst 0, 1), (6, .istore 4, 2), (8, .iload 4, 2), (10, .bipush 12, 2), (12, .if_icmp .gt 55, 3), (15, .aload_n 0, 1), (16, .iload_n 1, 1), (17, .iload_n 2, 1), (18, .invokevirtual 31, 3), (21, .istore 5, 2), (23, .iload 5, 2), (25, .ldc 35, 2), (27, .if_icmp .eq 20, 3), (30, .iload_n 3, 1), (31, .ifCond .eq 16, 3), (34, .iload 4, 2), (36, .ifCond .ne 8, 3), (39, .bipush (-5), 2), (41, .goto 5, 3), (44, .iload 5, 2), (46, .ireturn, 1), (47, .iload 5, 2), (49, .ldc 35, 2), (51, .if_icmp .eq 6, 3), (54, .iload 4, 2), (56, .ireturn, 1), (57, .aload_n 0, 1), (58, .invokevirtual 36, 3), (61, .iinc 4 1, 3), (64, .goto (-56), 3), (67, .bipush (-5), 2), (69, .ireturn, 1)]
set_option maxRecDepth 20000 in
theorem eX9_fewestComings : zq_dec tX9_fewestComings cX9_fewestComings := by unfold zq_dec; decide +kernel
abbrev YX9_leastCost : zq_Y := (yX9_leastCost, cX9_leastCost, 6, some .int)
def tX9_leastCost : List (Nat × Instr × Nat) := [(0, .aload_n 0, 1), (1, .iconst 1, 1), (2, .invokevirtual 27, 3), (5, .aload_n 0, 1), (6, .iload_n 1, 1), (7, .iload_n 2, 1), (8, .invokevirtual 31, 3), (11, .istore 4, 2), (13, .iconst 0, 1), (14, .istore 5, 2), (16, .iload 5, 2), (18, .iload_n 3, 1), (19, .if_icmp .ge 26, 3), (22, .aload_n 0, 1), (23, .invokevirtual 36, 3), (26, .iload 4, 2), (28, .aload_n 0, 1), (29, .iload_n 1, 1), (30, .iload_n 2, 1), (31, .invokevirtual 31, 3), (34, .invokestatic 39, 3), (37, .istore 4, 2), (39, .iinc 5 1, 3), (42, .goto (-26), 3), (45, .iload 4, 2), (47, .ldc 35, 2), (49, .if_icmp .ne 8, 3), (52, .bipush (-5), 2), (54, .goto 5, 3), (57, .iload 4, 2), (59, .ireturn, 1)]
set_option maxRecDepth 20000 in
theorem eX9_leastCost : zq_dec tX9_leastCost cX9_leastCost := by unfold zq_dec; decide +kernel
abbrev YX9_whoNeverCan : zq_Y := (yX9_whoNeverCan, cX9_whoNeverCan, 4, some .int)
def tX9_whoNeverCan : List (Nat × Instr × Nat) := [(0, .aload_n 0, 1), (1, .iconst 0, 1), (2, .invokevirtual 27, 3), (5, .aload_n 0, 1), (6, .getfield 23, 3), (9, .getfield 44, 3), (12, .invokevirtual 48, 3), (15, .istore_n 2, 1), (16, .iconst 0, 1), (17, .istore_n 3, 1), (18, .iload_n 3, 1), (19, .bipush 12, 2), (21, .if_icmp .gt 27, 3), (24, .iload_n 2, 1), (25, .ifCond .eq 23, 3), (28, .iload_n 2, 1), (29, .aload_n 0, 1), (30, .iload_n 1, 1), (31, .invokevirtual 54, 3), (34, .iconst (-1), 1), (35, .ixor, 1), (36, .iand, 1), (37, .istore_n 2, 1), (38, .aload_n 0, 1), (39, .invokevirtual 36, 3), (42, .iinc 3 1, 3), (45, .goto (-27), 3), (48, .iload_n 2, 1), (49, .ireturn, 1)]
set_option maxRecDepth 20000 in
theorem eX9_whoNeverCan : zq_dec tX9_whoNeverCan cX9_whoNeverCan := by unfold zq_dec; decide +kernel
abbrev YX9_begin : zq_Y := (yX9_begin, cX9_begin, 2, none)
def tX9_begin : List (Nat × Instr × Nat) := [(0, .aload_n 0, 1), (1, .iload_n 1, 1), (2, .putfield 58, 3), (5, .aload_n 0, 1), (6, .iconst 1, 1), (7, .iconst 2, 1), (8, .aload_n 0, 1), (9, .getfield 23, 3), (12, .getfield 44, 3), (15, .getfield 62, 3), (18, .imul, 1), (19, .ishl, 1), (20, .putfield 66, 3), (23, .aload_n 0, 1), (24, .iconst 0, 1), (25, .putfield 69, 3), (28, .aload_n 0, 1), (29, .iconst 0, 1), (30, .putfield 72, 3), (33, .aload_n 0, 1), (34, .getfield 11, 3), (37, .ldc 35, 2), (39, .invokestatic 75, 3), (42, .aload_n 0, 1), (43, .getfield 11, 3), (46, .aload_n 0, 1), (47, .getfield 23, 3), (50, .invokevirtual 81, 3), (53, .iconst 0, 1), (54, .iastore, 1), (55, .return_, 1)]
set_option maxRecDepth 20000 in
theorem eX9_begin : zq_dec tX9_begin cX9_begin := by unfold zq_dec; decide +kernel
abbrev YX9_goOn : zq_Y := (yX9_goOn, cX9_goOn, 2, none)
def tX9_goOn : List (Nat × Instr × Nat) := [(0, .aload_n 0, 1), (1, .getfield 72, 3), (4, .ifCond .ne 60, 3), (7, .aload_n 0, 1), (8, .getfield 17, 3), (11, .ldc 35, 2), (13, .invokestatic 75, 3), (16, .iconst 0, 1), (17, .istore_n 1, 1), (18, .iload_n 1, 1), (19, .aload_n 0, 1), (20, .getfield 66, 3), (23, .if_icmp .ge 25, 3), (26, .aload_n 0, 1), (27, .getfield 11, 3), (30, .iload_n 1, 1), (31, .iaload, 1), (32, .ldc 35, 2), (34, .if_icmp .eq 8, 3), (37, .aload_n 0, 1), (38, .iload_n 1, 1), (39, .invokevirtual 84, 3), (42, .iinc 1 1, 3), (45, .goto (-27), 3), (48, .aload_n 0, 1), (49, .aload_n 0, 1), (50, .invokevirtual 88, 3), (53, .ifCond .ne 7, 3), (56, .iconst 1, 1), (57, .goto 4, 3), (60, .iconst 0, 1), (61, .putfield 72, 3), (64, .aload_n 0, 1), (65, .dup, 1), (66, .getfield 69, 3), (69, .iconst 1, 1), (70, .iadd, 1), (71, .putfield 69, 3), (74, .return_, 1)]
set_option maxRecDepth 20000 in
theorem eX9_goOn : zq_dec tX9_goOn cX9_goOn := by unfold zq_dec; decide +kernel
abbrev YX9_leave : zq_Y := (yX9_leave, cX9_leave, 5, none)
def tX9_leave : List (Nat × Instr × Nat) := [(0, .iconst 0, 1), (1, .istore_n 2, 1), (2, .iload_n 2, 1), (3, .aload_n 0, 1), (4, .getfield 23, 3), (7, .getfield 44, 3), (10, .getfield 62, 3), (13, .if_icmp .ge 67, 3), (16, .iconst 0, 1), (17, .istore_n 3, 1), (18, .iload_n 3, 1), (19, .iconst 4, 1), (20, .if_icmp .ge 54, 3), (23, .aload_n 0, 1), (24, .getfield 23, 3), (27, .iload_n 1, 1), (28, .iload_n 2, 1), (29, .iload_n 3, 1), (30, .invokevirtual 92, 3), (33, .ifCond .eq 35, 3), (36, .iload_n 1, 1), (37, .iload_n 2, 1), (38, .iload_n 3, 1), (39, .invokestatic 96, 3), (42, .istore 4, 2), (44, .aload_n 0, 1), (45, .getfield 17, 3), (48, .iload 4, 2), (50, .aload_n 0, 1), (51, .getfield 17, 3), (54, .iload 4, 2), (56, .iaload, 1), (57, .aload_n 0, 1), (58, .iload_n 1, 1), (59, .iload_n 2, 1), (60, .iload_n 3, 1), (61, .invokevirtual 100, 3), (64, .invokestatic 39, 3), (67, .iastore, 1), (68, .iinc 3 1, 3), (71, .goto (-53), 3), (74, .iinc 2 1, 3), (77, .goto (-75), 3), (80, .return_, 1)]
set_option maxRecDepth 20000 in
theorem eX9_leave : zq_dec tX9_leave cX9_leave := by unfold zq_dec; decide +kernel
abbrev YX9_carried : zq_Y := (yX9_carried, cX9_carried, 4, some .int)
def tX9_carried : List (Nat × Instr × Nat) := [(0, .aload_n 0, 1), (1, .getfield 58, 3), (4, .ifCond .eq 21, 3), (7, .aload_n 0, 1), (8, .getfield 11, 3), (11, .iload_n 1, 1), (12, .iaload, 1), (13, .aload_n 0, 1), (14, .getfield 23, 3), (17, .iload_n 1, 1), (18, .iload_n 2, 1), (19, .iload_n 3, 1), (20, .invokevirtual 103, 3), (23, .iadd, 1), (24, .ireturn, 1), (25, .aload_n 0, 1), (26, .getfield 69, 3), (29, .ifCond .ne 11, 3), (32, .iconst 4, 1), (33, .iload_n 2, 1), (34, .imul, 1), (35, .iload_n 3, 1), (36, .iadd, 1), (37, .goto 9, 3), (40, .aload_n 0, 1), (41, .getfield 11, 3), (44, .iload_n 1, 1), (45, .iaload, 1), (46, .ireturn, 1)]
set_option maxRecDepth 20000 in
theorem eX9_carried : zq_dec tX9_carried cX9_carried := by unfold zq_dec; decide +kernel
abbrev YX9_takeNext : zq_Y := (yX9_takeNext, cX9_takeNext, 3, some .boolean)
def tX9_takeNext : List (Nat × Instr × Nat) := [(0, .iconst 0, 1), (1, .istore_n 1, 1), (2, .iconst 0, 1), (3, .istore_n 2, 1), (4, .iload_n 2, 1), (5, .aload_n 0, 1), (6, .getfield 66, 3), (9, .if_icmp .ge 44, 3), (12, .iload_n 1, 1), (13, .aload_n 0, 1), (14, .getfield 11, 3), (17, .iload_n 2, 1), (18, .iaload, 1), (19, .aload_n 0, 1), (20, .getfield 17, 3), (23, .iload_n 2, 1), (24, .iaload, 1), (25, .if_icmp .eq 7, 3), (28, .iconst 1, 1), (29, .goto 4, 3), (32, .iconst 0, 1), (33, .ior, 1), (34, .istore_n 1, 1), (35, .aload_n 0, 1), (36, .getfield 11, 3), (39, .iload_n 2, 1), (40, .aload_n 0, 1), (41, .getfield 17, 3), (44, .iload_n 2, 1), (45, .iaload, 1), (46, .iastore, 1), (47, .iinc 2 1, 3), (50, .goto (-46), 3), (53, .iload_n 1, 1), (54, .ireturn, 1)]
set_option maxRecDepth 20000 in
theorem eX9_takeNext : zq_dec tX9_takeNext cX9_takeNext := by unfold zq_dec; decide +kernel
abbrev YX9_tellSpeakers : zq_Y := (yX9_tellSpeakers, cX9_tellSpeakers, 3, none)
def tX9_tellSpeakers : List (Nat × Instr × Nat) := [(0, .iconst 0, 1), (1, .istore_n 2, 1), (2, .iload_n 2, 1), (3, .aload_n 0, 1), (4, .getfield 23, 3), (7, .getfield 44, 3), (10, .invokevirtual 48, 3), (13, .if_icmp .gt 39, 3), (16, .aload_n 0, 1), (17, .getfield 20, 3), (20, .iload_n 2, 1), (21, .aload_n 0, 1), (22, .getfield 23, 3), (25, .iload_n 1, 1), (26, .iload_n 2, 1), (27, .aload_n 0, 1), (28, .getfield 23, 3), (31, .getfield 44, 3), (34, .getfield 106, 3), (37, .aload_n 0, 1), (38, .getfield 69, 3), (41, .iadd, 1), (42, .invokevirtual 109, 3), (45, .iastore, 1), (46, .iinc 2 1, 3), (49, .goto (-47), 3), (52, .return_, 1)]
set_option maxRecDepth 20000 in
theorem eX9_tellSpeakers : zq_dec tX9_tellSpeakers cX9_tellSpeakers := by unfold zq_dec; decide +kernel
abbrev YX9_leastWith : zq_Y := (yX9_leastWith, cX9_leastWith, 5, some .int)
def tX9_leastWith : List (Nat × Instr × Nat) := [(0, .aload_n 0, 1), (1, .iload_n 2, 1), (2, .invokevirtual 112, 3), (5, .ldc 35, 2), (7, .istore_n 3, 1), (8, .iconst 0, 1), (9, .istore 4, 2), (11, .iload 4, 2), (13, .aload_n 0, 1), (14, .getfield 66, 3), (17, .if_icmp .ge 51, 3), (20, .aload_n 0, 1), (21, .getfield 11, 3), (24, .iload 4, 2), (26, .iaload, 1), (27, .iload_n 3, 1), (28, .if_icmp .ge 34, 3), (31, .aload_n 0, 1), (32, .getfield 20, 3), (35, .aload_n 0, 1), (36, .getfield 23, 3), (39, .iload 4, 2), (41, .iload_n 2, 1), (42, .invokevirtual 115, 3), (45, .iaload, 1), (46, .iload_n 1, 1), (47, .ishr, 1), (48, .iconst 1, 1), (49, .iand, 1), (50, .iconst 1, 1), (51, .if_icmp .ne 11, 3), (54, .aload_n 0, 1), (55, .getfield 11, 3), (58, .iload 4, 2), (60, .iaload, 1), (61, .istore_n 3, 1), (62, .iinc 4 1, 3), (65, .goto (-54), 3), (68, .iload_n 3, 1), (69, .ireturn, 1)]
set_option maxRecDepth 20000 in
theorem eX9_leastWith : zq_dec tX9_leastWith cX9_leastWith := by unfold zq_dec; decide +kernel
abbrev YX9_whoCanSpeak : zq_Y := (yX9_whoCanSpeak, cX9_whoCanSpeak, 4, some .int)
def tX9_whoCanSpeak : List (Nat × Instr × Nat) := [(0, .aload_n 0, 1), (1, .iload_n 1, 1), (2, .invokevirtual 112, 3), (5, .iconst 0, 1), (6, .istore_n 2, 1), (7, .iconst 0, 1), (8, .istore_n 3, 1), (9, .iload_n 3, 1), (10, .aload_n 0, 1), (11, .getfield 66, 3), (14, .if_icmp .ge 37, 3), (17, .aload_n 0, 1), (18, .getfield 11, 3), (21, .iload_n 3, 1), (22, .iaload, 1), (23, .ldc 35, 2), (25, .if_icmp .eq 20, 3), (28, .iload_n 2, 1), (29, .aload_n 0, 1), (30, .getfield 20, 3), (33, .aload_n 0, 1), (34, .getfield 23, 3), (37, .iload_n 3, 1), (38, .iload_n 1, 1), (39, .invokevirtual 115, 3), (42, .iaload, 1), (43, .ior, 1), (44, .istore_n 2, 1), (45, .iinc 3 1, 3), (48, .goto (-39), 3), (51, .iload_n 2, 1), (52, .ireturn, 1)]
set_option maxRecDepth 20000 in
theorem eX9_whoCanSpeak : zq_dec tX9_whoCanSpeak cX9_whoCanSpeak := by unfold zq_dec; decide +kernel
abbrev YX10_init : zq_Y := (yX10_init, cX10_init, 2, none)
def tX10_init : List (Nat × Instr × Nat) := [(0, .aload_n 0, 1), (1, .invokespecial 3, 3), (4, .aload_n 0, 1), (5, .new 9, 3), (8, .dup, 1), (9, .invokespecial 11, 3), (12, .putfield 12, 3), (15, .aload_n 0, 1), (16, .new 9, 3), (19, .dup, 1), (20, .invokespecial 11, 3), (23, .putfield 18, 3), (26, .aload_n 0, 1), (27, .bipush 100, 2), (29, .newarray .int, 2), (31, .putfield 21, 3), (34, .aload_n 0, 1), (35, .bipush 6, 2), (37, .anewarray 25, 3), (40, .putfield 27, 3), (43, .aload_n 0, 1), (44, .new 25, 3), (47, .dup, 1), (48, .invokespecial 31, 3), (51, .putfield 32, 3), (54, .aload_n 0, 1), (55, .new 36, 3), (58, .dup, 1), (59, .invokespecial 38, 3), (62, .putfield 39, 3), (65, .aload_n 0, 1), (66, .new 43, 3), (69, .dup, 1), (70, .aload_n 0, 1), (71, .getfield 12, 3), (74, .aload_n 0, 1), (75, .getfield 32, 3), (78, .invokespecial 45, 3), (81, .putfield 48, 3), (84, .aload_n 0, 1), (85, .new 52, 3), (88, .dup, 1), (89, .aload_n 0, 1), (90, .getfield 48, 3), (93, .invokespecial 54, 3), (96, .putfield 57, 3), (99, .aload_n 0, 1), (100, .new 61, 3), (103, .dup, 1), (104, .aload_n 0, 1), (105, .getfield 48, 3), (108, .invokespecial 63, 3), (111, .putfield 64, 3), (114, .aload_n 0, 1), (115, .new 68, 3), (118, .dup, 1), (119, .aload_n 0, 1), (120, .getfield 48, 3), (123, .invokespecial 70, 3), (126, .putfield 71, 3), (129, .aload_n 0, 1), (130, .new 75, 3), (133, .dup, 1), (134, .aload_n 0, 1), (135, .getfield 12, 3), (138, .invokespecial 77, 3), (141, .putfield 80, 3), (144, .aload_n 0, 1), (145, .new 84, 3), (148, .dup, 1), (149, .invokespecial 86, 3), (152, .putfield 87, 3), (155, .aload_n 0, 1), (156, .bipush 6, 2), (158, .anewarray 91, 3), (161, .putfield 93, 3), (164, .iconst 0, 1), (165, .istore_n 1, 1), (166, .iload_n 1, 1), (167, .bipush 6, 2), (169, .if_icmp .ge 22, 3), (172, .aload_n 0, 1), (173, .getfield 93, 3), (176, .iload_n 1, 1), (177, .new 91, 3), (180, .dup, 1), (181, .invokespecial 97, 3), (184, .aastore, 1), (185, .iinc 1 1, 3), (188, .goto (-22), 3), (191, .return_, 1)]
set_option maxRecDepth 20000 in
theorem eX10_init : zq_dec tX10_init cX10_init := by unfold zq_dec; decide +kernel
abbrev YX10_person : zq_Y := (yX10_person, cX10_person, 4, some .int)
def tX10_person : List (Nat × Instr × Nat) := [(0, .iload_n 1, 1), (1, .iconst 0, 1), (2, .bipush 99, 2), (4, .invokestatic 98, 3), (7, .ifCond .eq 13, 3), (10, .iload_n 2, 1), (11, .iconst 0, 1), (12, .bipush 99, 2), (14, .invokestatic 98, 3), (17, .ifCond .ne 6, 3), (20, .bipush (-2), 2), (22, .ireturn, 1), (23, .iload_n 3, 1), (24, .invokestatic 102, 3), (27, .ifCond .ne 5, 3), (30, .iconst (-1), 1), (31, .ireturn, 1), (32, .aload_n 0, 1), (33, .getfield 12, 3), (36, .getfield 106, 3), (39, .iconst 5, 1), (40, .if_icmp .lt 6, 3), (43, .bipush (-4), 2), (45, .ireturn, 1), (46, .aload_n 0, 1), (47, .getfield 12, 3), (50, .iload_n 1, 1), (51, .iload_n 2, 1), (52, .iload_n 3, 1), (53, .invokevirtual 110, 3), (56, .ireturn, 1)]
set_option maxRecDepth 20000 in
theorem eX10_person : zq_dec tX10_person cX10_person := by unfold zq_dec; decide +kernel
abbrev YX10_of : zq_Y := (yX10_of, cX10_of, 3, some .int)
def tX10_of : List (Nat × Instr × Nat) := [(0, .aload_n 0, 1), (1, .iload_n 1, 1), (2, .invokevirtual 114, 3), (5, .ifCond .ne 5, 3), (8, .iconst (-1), 1), (9, .ireturn, 1), (10, .iload_n 2, 1), (11, .tableswitch 87 0 4 #[33, 43, 53, 63, 73], 33), (44, .aload_n 0, 1), (45, .getfield 12, 3), (48, .getfield 117, 3), (51, .iload_n 1, 1), (52, .iaload, 1), (53, .ireturn, 1), (54, .aload_n 0, 1), (55, .getfield 12, 3), (58, .getfield 120, 3), (61, .iload_n 1, 1), (62, .iaload, 1), (63, .ireturn, 1), (64, .aload_n 0, 1), (65, .getfield 12, 3), (68, .getfield 123, 3), (71, .iload_n 1, 1), (72, .iaload, 1), (73, .ireturn, 1), (74, .aload_n 0, 1), (75, .getfield 12, 3), (78, .getfield 126, 3), (81, .iload_n 1, 1), (82, .iaload, 1), (83, .ireturn, 1), (84, .aload_n 0, 1), (85, .iload_n 1, 1), (86, .invokevirtual 129, 3), (89, .ifCond .eq 7, 3), (92, .iconst 1, 1), (93, .goto 4, 3), (96, .iconst 0, 1), (97, .ireturn, 1), (98, .iconst (-1), 1), (99, .ireturn, 1)]
set_option maxRecDepth 20000 in
theorem eX10_of : zq_dec tX10_of cX10_of := by unfold zq_dec; decide +kernel
abbrev YX10_learn : zq_Y := (yX10_learn, cX10_learn, 4, some .int)
def tX10_learn : List (Nat × Instr × Nat) := [(0, .aload_n 0, 1), (1, .iload_n 1, 1), (2, .invokevirtual 114, 3), (5, .ifCond .ne 5, 3), (8, .iconst (-1), 1), (9, .ireturn, 1), (10, .iload_n 2, 1), (11, .iconst 0, 1), (12, .sipush 255, 3), (15, .invokestatic 98, 3), (18, .ifCond .ne 6, 3), (21, .bipush (-2), 2), (23, .ireturn, 1), (24, .aload_n 0, 1), (25, .getfield 12, 3), (28, .getfield 126, 3), (31, .iload_n 1, 1), (32, .iaload, 1), (33, .istore_n 3, 1), (34, .aload_n 0, 1), (35, .getfield 12, 3), (38, .getfield 126, 3), (41, .iload_n 1, 1), (42, .iload_n 2, 1), (43, .iastore, 1), (44, .iload_n 3, 1), (45, .ireturn, 1)]
set_option maxRecDepth 20000 in
theorem eX10_learn : zq_dec tX10_learn cX10_learn := by unfold zq_dec; decide +kernel
abbrev YX10_room : zq_Y := (yX10_room, cX10_room, 5, some .int)
def tX10_room : List (Nat × Instr × Nat) := [(0, .iload_n 1, 1), (1, .invokestatic 132, 3), (4, .ifCond .eq 13, 3), (7, .iload_n 2, 1), (8, .iconst 0, 1), (9, .bipush 6, 2), (11, .invokestatic 98, 3), (14, .ifCond .ne 5, 3), (17, .iconst (-1), 1), (18, .ireturn, 1), (19, .iload_n 3, 1), (20, .iconst 0, 1), (21, .bipush 9, 2), (23, .invokestatic 98, 3), (26, .ifCond .ne 6, 3), (29, .bipush (-2), 2), (31, .ireturn, 1), (32, .aload_n 0, 1), (33, .getfield 12, 3), (36, .getfield 135, 3), (39, .iload_n 1, 1), (40, .iaload, 1), (41, .istore 4, 2), (43, .aload_n 0, 1), (44, .getfield 12, 3), (47, .getfield 135, 3), (50, .iload_n 1, 1), (51, .iload_n 2, 1), (52, .iastore, 1), (53, .aload_n 0, 1), (54, .getfield 12, 3), (57, .getfield 138, 3), (60, .iload_n 1, 1), (61, .iload_n 3, 1), (62, .iastore, 1), (63, .iload 4, 2), (65, .ireturn, 1)]
set_option maxRecDepth 20000 in
theorem eX10_room : zq_dec tX10_room cX10_room := by unfold zq_dec; decide +kernel
abbrev YX10_inside : zq_Y := (yX10_inside, cX10_inside, 3, some .int)
def tX10_inside : List (Nat × Instr × Nat) := [(0, .iload_n 1, 1), (1, .invokestatic 132, 3), (4, .ifCond .ne 5, 3), (7, .iconst (-1), 1), (8, .ireturn, 1), (9, .iload_n 2, 1), (10, .tableswitch 65 0 3 #[30, 40, 50, 59], 30), (40, .aload_n 0, 1), (41, .getfield 12, 3), (44, .getfield 135, 3), (47, .iload_n 1, 1), (48, .iaload, 1), (49, .ireturn, 1), (50, .aload_n 0, 1), (51, .getfield 12, 3), (54, .getfield 138, 3), (57, .iload_n 1, 1), (58, .iaload, 1), (59, .ireturn, 1), (60, .aload_n 0, 1), (61, .getfield 12, 3), (64, .iload_n 1, 1), (65, .invokevirtual 141, 3), (68, .ireturn, 1), (69, .aload_n 0, 1), (70, .iload_n 1, 1), (71, .invokevirtual 145, 3), (74, .ireturn, 1), (75, .iconst (-1), 1), (76, .ireturn, 1)]
set_option maxRecDepth 20000 in
theorem eX10_inside : zq_dec tX10_inside cX10_inside := by unfold zq_dec; decide +kernel
abbrev YX10_feed : zq_Y := (yX10_feed, cX10_feed, 2, some .int)
def tX10_feed : List (Nat × Instr × Nat) := [(0, .iload_n 1, 1), (1, .iconst 0, 1), (2, .bipush 127, 2), (4, .invokestatic 98, 3), (7, .ifCond .ne 6, 3), (10, .bipush (-2), 2), (12, .ireturn, 1), (13, .aload_n 0, 1), (14, .getfield 148, 3), (17, .bipush 100, 2), (19, .if_icmp .lt 6, 3), (22, .bipush (-4), 2), (24, .ireturn, 1), (25, .aload_n 0, 1), (26, .getfield 21, 3), (29, .aload_n 0, 1), (30, .getfield 148, 3), (33, .iload_n 1, 1), (34, .iastore, 1), (35, .aload_n 0, 1), (36, .dup, 1), (37, .getfield 148, 3), (40, .iconst 1, 1), (41, .iadd, 1), (42, .putfield 148, 3), (45, .aload_n 0, 1), (46, .getfield 148, 3), (49, .ireturn, 1)]
set_option maxRecDepth 20000 in
theorem eX10_feed : zq_dec tX10_feed cX10_feed := by unfold zq_dec; decide +kernel
abbrev YX10_house : zq_Y := (yX10_house, cX10_house, 3, some .int)
def tX10_house : List (Nat × Instr × Nat) := [(0, .aload_n 0, 1), (1, .getfield 151, 3), (4, .bipush 6, 2), (6, .if_icmp .lt 6, 3), (9, .bipush (-4), 2), (11, .ireturn, 1), (12, .new 25, 3), (15, .dup, 1), (16, .invokespecial 31, 3), (19, .astore_n 1, 1), (20, .aload_n 0, 1), (21, .getfield 39, 3), (24, .aload_n 1, 1), (25, .aload_n 0, 1), (26, .getfield 21, 3), (29, .aload_n 0, 1), (30, .getfield 148, 3), (33, .invokevirtual 154, 3), (36, .istore_n 2, 1), (37, .aload_n 0, 1), (38, .iconst 0, 1), (39, .putfield 148, 3), (42, .iload_n 2, 1), (43, .ifCond .lt 8, 3), (46, .bipush (-10), 2), (48, .iload_n 2, 1), (49, .isub, 1), (50, .ireturn, 1), (51, .aload_n 0, 1), (52, .getfield 27, 3), (55, .aload_n 0, 1), (56, .getfield 151, 3), (59, .aload_n 1, 1), (60, .aastore, 1), (61, .aload_n 0, 1), (62, .getfield 12, 3), (65, .aload_n 0, 1), (66, .getfield 151, 3), (69, .putfield 158, 3), (72, .aload_n 0, 1), (73, .dup, 1), (74, .getfield 151, 3), (77, .iconst 1, 1), (78, .iadd, 1), (79, .putfield 151, 3), (82, .aload_n 0, 1), (83, .getfield 12, 3), (86, .getfield 158, 3), (89, .ireturn, 1)]
set_option maxRecDepth 20000 in
theorem eX10_house : zq_dec tX10_house cX10_house := by unfold zq_dec; decide +kernel
abbrev YX10_told : zq_Y := (yX10_told, cX10_told, 2, some .int)
def tX10_told : List (Nat × Instr × Nat) := [(0, .iload_n 1, 1), (1, .tableswitch 51 0 2 #[27, 35, 43], 27), (28, .aload_n 0, 1), (29, .invokevirtual 161, 3), (32, .getfield 165, 3), (35, .ireturn, 1), (36, .aload_n 0, 1), (37, .getfield 12, 3), (40, .getfield 168, 3), (43, .ireturn, 1), (44, .aload_n 0, 1), (45, .getfield 12, 3), (48, .getfield 171, 3), (51, .ireturn, 1), (52, .iconst (-1), 1), (53, .ireturn, 1)]
set_option maxRecDepth 20000 in
theorem eX10_told : zq_dec tX10_told cX10_told := by unfold zq_dec; decide +kernel
abbrev YX10_coming : zq_Y := (yX10_coming, cX10_coming, 4, some .int)
def tX10_coming : List (Nat × Instr × Nat) := [(0, .aload_n 0, 1), (1, .iload_n 1, 1), (2, .invokevirtual 114, 3), (5, .ifCond .eq 19, 3), (8, .iload_n 2, 1), (9, .invokestatic 102, 3), (12, .ifCond .eq 12, 3), (15, .iload_n 3, 1), (16, .iconst 0, 1), (17, .iconst 1, 1), (18, .invokestatic 98, 3), (21, .ifCond .ne 5, 3), (24, .iconst (-1), 1), (25, .ireturn, 1), (26, .aload_n 0, 1), (27, .getfield 12, 3), (30, .getfield 123, 3), (33, .iload_n 1, 1), (34, .iaload, 1), (35, .iload_n 2, 1), (36, .if_icmp .ne 6, 3), (39, .bipush (-2), 2), (41, .ireturn, 1), (42, .iload_n 3, 1), (43, .ifCond .ne 10, 3), (46, .aload_n 0, 1), (47, .iload_n 1, 1), (48, .iload_n 2, 1), (49, .invokevirtual 174, 3), (52, .ireturn, 1), (53, .aload_n 0, 1), (54, .iload_n 1, 1), (55, .iload_n 2, 1), (56, .invokevirtual 178, 3), (59, .ifCond .eq 7, 3), (62, .iconst 1, 1), (63, .goto 4, 3), (66, .iconst 0, 1), (67, .ireturn, 1)]
set_option maxRecDepth 20000 in
theorem eX10_coming : zq_dec tX10_coming cX10_coming := by unfold zq_dec; decide +kernel
abbrev YX10_come : zq_Y := (yX10_come, cX10_come, 4, some .int)
def tX10_come : List (Nat × Instr × Nat) := [(0, .aload_n 0, 1), (1, .iload_n 1, 1), (2, .invokevirtual 114, 3), (5, .ifCond .eq 10, 3), (8, .iload_n 2, 1), (9, .invokestatic 102, 3), (12, .ifCond .ne 5, 3), (15, .iconst (-1), 1), (16, .ireturn, 1), (17, .aload_n 0, 1), (18, .getfield 12, 3), (21, .getfield 123, 3), (24, .iload_n 1, 1), (25, .iaload, 1), (26, .iload_n 2, 1), (27, .if_icmp .ne 6, 3), (30, .bipush (-2), 2), (32, .ireturn, 1), (33, .aload_n 0, 1), (34, .iload_n 1, 1), (35, .iload_n 2, 1), (36, .invokevirtual 178, 3), (39, .ifCond .ne 16, 3), (42, .aload_n 0, 1), (43, .getfield 12, 3), (46, .getfield 168, 3), (49, .sipush 9999, 3), (52, .if_icmp .lt 6, 3), (55, .bipush (-3), 2), (57, .ireturn, 1), (58, .aload_n 0, 1), (59, .iload_n 1, 1), (60, .iload_n 2, 1), (61, .invokevirtual 174, 3), (64, .istore_n 3, 1), (65, .aload_n 0, 1), (66, .getfield 12, 3), (69, .getfield 123, 3), (72, .iload_n 1, 1), (73, .iload_n 2, 1), (74, .iastore, 1), (75, .aload_n 0, 1), (76, .getfield 12, 3), (79, .sipush 9999, 3), (82, .aload_n 0, 1), (83, .getfield 12, 3), (86, .getfield 171, 3), (89, .iload_n 3, 1), (90, .iadd, 1), (91, .invokestatic 182, 3), (94, .putfield 171, 3), (97, .aload_n 0, 1), (98, .getfield 12, 3), (101, .dup, 1), (102, .getfield 168, 3), (105, .iconst 1, 1), (106, .iadd, 1), (107, .putfield 168, 3), (110, .iload_n 3, 1), (111, .ireturn, 1)]
set_option maxRecDepth 20000 in
theorem eX10_come : zq_dec tX10_come cX10_come := by unfold zq_dec; decide +kernel
abbrev YX10_say : zq_Y := (yX10_say, cX10_say, 6, some .int)
def tX10_say : List (Nat × Instr × Nat) := [(0, .aload_n 0, 1), (1, .iload_n 1, 1), (2, .invokevirtual 114, 3), (5, .ifCond .eq 10, 3), (8, .iload_n 2, 1), (9, .invokestatic 187, 3), (12, .ifCond .ne 7, 3), (15, .sipush (-10001), 3), (18, .ireturn, 1), (19, .aload_n 0, 1), (20, .iload_n 1, 1), (21, .invokevirtual 129, 3), (24, .ifCond .eq 15, 3), (27, .aload_n 0, 1), (28, .getfield 12, 3), (31, .iload_n 1, 1), (32, .iload_n 2, 1), (33, .invokevirtual 190, 3), (36, .ifCond .ne 7, 3), (39, .sipush (-10003), 3), (42, .ireturn, 1), (43, .aload_n 0, 1), (44, .getfield 12, 3), (47, .getfield 123, 3), (50, .iload_n 1, 1), (51, .iaload, 1), (52, .istore_n 3, 1), (53, .iconst 0, 1), (54, .istore 4, 2), (56, .iconst 0, 1), (57, .istore 5, 2), (59, .iload 5, 2), (61, .aload_n 0, 1), (62, .getfield 12, 3), (65, .getfield 106, 3), (68, .if_icmp .ge 68, 3), (71, .aload_n 0, 1), (72, .getfield 12, 3), (75, .getfield 123, 3), (78, .iload 5, 2), (80, .iaload, 1), (81, .iload_n 3, 1), (82, .if_icmp .ne 48, 3), (85, .aload_n 0, 1), (86, .getfield 12, 3), (89, .iload 5, 2), (91, .iload_n 2, 1), (92, .invokevirtual 190, 3), (95, .ifCond .ne 35, 3), (98, .iload 4, 2), (100, .aload_n 0, 1), (101, .getfield 48, 3), (104, .iload 5, 2), (106, .iload_n 3, 1), (107, .iload_n 2, 1), (108, .invokevirtual 193, 3), (111, .iadd, 1), (112, .istore 4, 2), (114, .aload_n 0, 1), (115, .getfield 12, 3), (118, .getfield 126, 3), (121, .iload 5, 2), (123, .dup2, 1), (124, .iaload, 1), (125, .iconst 1, 1), (126, .iload_n 2, 1), (127, .ishl, 1), (128, .ior, 1), (129, .iastore, 1), (130, .iinc 5 1, 3), (133, .goto (-74), 3), (136, .iload 4, 2), (138, .ireturn, 1)]
set_option maxRecDepth 20000 in
theorem eX10_say : zq_dec tX10_say cX10_say := by unfold zq_dec; decide +kernel
abbrev YX10_soonest : zq_Y := (yX10_soonest, cX10_soonest, 4, some .int)
def tX10_soonest : List (Nat × Instr × Nat) := [(0, .aload_n 0, 1), (1, .iload_n 1, 1), (2, .invokevirtual 114, 3), (5, .ifCond .eq 19, 3), (8, .iload_n 2, 1), (9, .invokestatic 132, 3), (12, .ifCond .eq 12, 3), (15, .iload_n 3, 1), (16, .iconst 0, 1), (17, .iconst 1, 1), (18, .invokestatic 98, 3), (21, .ifCond .ne 5, 3), (24, .iconst (-1), 1), (25, .ireturn, 1), (26, .aload_n 0, 1), (27, .invokevirtual 196, 3), (30, .aload_n 0, 1), (31, .getfield 57, 3), (34, .iload_n 1, 1), (35, .iload_n 2, 1), (36, .iload_n 3, 1), (37, .iconst 1, 1), (38, .if_icmp .ne 7, 3), (41, .iconst 1, 1), (42, .goto 4, 3), (45, .iconst 0, 1), (46, .invokevirtual 199, 3), (49, .ireturn, 1)]
set_option maxRecDepth 20000 in
theorem eX10_soonest : zq_dec tX10_soonest cX10_soonest := by unfold zq_dec; decide +kernel
abbrev YX10_cheapest : zq_Y := (yX10_cheapest, cX10_cheapest, 4, some .int)
def tX10_cheapest : List (Nat × Instr × Nat) := [(0, .aload_n 0, 1), (1, .iload_n 1, 1), (2, .invokevirtual 114, 3), (5, .ifCond .eq 10, 3), (8, .iload_n 2, 1), (9, .invokestatic 132, 3), (12, .ifCond .ne 5, 3), (15, .iconst (-1), 1), (16, .ireturn, 1), (17, .iload_n 3, 1), (18, .iconst 0, 1), (19, .iconst 4, 1), (20, .invokestatic 98, 3), (23, .ifCond .ne 6, 3), (26, .bipush (-2), 2), (28, .ireturn, 1), (29, .aload_n 0, 1), (30, .invokevirtual 196, 3), (33, .aload_n 0, 1), (34, .getfield 57, 3), (37, .iload_n 1, 1), (38, .iload_n 2, 1), (39, .iload_n 3, 1), (40, .invokevirtual 203, 3), (43, .ireturn, 1)]
set_option maxRecDepth 20000 in
theorem eX10_cheapest : zq_dec tX10_cheapest cX10_cheapest := by unfold zq_dec; decide +kernel
abbrev YX10_never : zq_Y := (yX10_never, cX10_never, 2, some .int)
def tX10_never : List (Nat × Instr × Nat) := [(0, .iload_n 1, 1), (1, .invokestatic 132, 3), (4, .ifCond .ne 5, 3), (7, .iconst (-1), 1), (8, .ireturn, 1), (9, .aload_n 0, 1), (10, .invokevirtual 196, 3), (13, .aload_n 0, 1), (14, .getfield 57, 3), (17, .iload_n 1, 1), (18, .invokevirtual 206, 3), (21, .ireturn, 1)]
set_option maxRecDepth 20000 in
theorem eX10_never : zq_dec tX10_never cX10_never := by unfold zq_dec; decide +kernel
abbrev YX10_heard : zq_Y := (yX10_heard, cX10_heard, 2, some .int)
def tX10_heard : List (Nat × Instr × Nat) := [(0, .iload_n 1, 1), (1, .invokestatic 187, 3), (4, .ifCond .ne 5, 3), (7, .iconst (-1), 1), (8, .ireturn, 1), (9, .aload_n 0, 1), (10, .invokevirtual 196, 3), (13, .aload_n 0, 1), (14, .getfield 64, 3), (17, .aload_n 0, 1), (18, .getfield 12, 3), (21, .iload_n 1, 1), (22, .invokevirtual 209, 3), (25, .iconst 1, 1), (26, .aload_n 0, 1), (27, .getfield 12, 3), (30, .invokevirtual 212, 3), (33, .ishl, 1), (34, .invokevirtual 216, 3), (37, .ireturn, 1)]
set_option maxRecDepth 20000 in
theorem eX10_heard : zq_dec tX10_heard cX10_heard := by unfold zq_dec; decide +kernel
abbrev YX10_secret : zq_Y := (yX10_secret, cX10_secret, 4, some .int)
def tX10_secret : List (Nat × Instr × Nat) := [(0, .aload_n 0, 1), (1, .iload_n 1, 1), (2, .invokevirtual 114, 3), (5, .ifCond .eq 18, 3), (8, .aload_n 0, 1), (9, .iload_n 2, 1), (10, .invokevirtual 114, 3), (13, .ifCond .eq 10, 3), (16, .iload_n 3, 1), (17, .invokestatic 187, 3), (20, .ifCond .ne 5, 3), (23, .iconst (-1), 1), (24, .ireturn, 1), (25, .iload_n 1, 1), (26, .iload_n 2, 1), (27, .if_icmp .ne 6, 3), (30, .bipush (-2), 2), (32, .ireturn, 1), (33, .aload_n 0, 1), (34, .invokevirtual 196, 3), (37, .aload_n 0, 1), (38, .getfield 64, 3), (41, .aload_n 0, 1), (42, .getfield 12, 3), (45, .iload_n 3, 1), (46, .invokevirtual 209, 3), (49, .iload_n 1, 1), (50, .iload_n 2, 1), (51, .invokestatic 219, 3), (54, .invokevirtual 216, 3), (57, .ireturn, 1)]
set_option maxRecDepth 20000 in
theorem eX10_secret : zq_dec tX10_secret cX10_secret := by unfold zq_dec; decide +kernel
abbrev YX10_game : zq_Y := (yX10_game, cX10_game, 4, some .int)
def tX10_game : List (Nat × Instr × Nat) := [(0, .iload_n 1, 1), (1, .invokestatic 132, 3), (4, .ifCond .ne 5, 3), (7, .iconst (-1), 1), (8, .ireturn, 1), (9, .iload_n 2, 1), (10, .iconst 0, 1), (11, .aload_n 0, 1), (12, .getfield 12, 3), (15, .invokevirtual 212, 3), (18, .invokestatic 98, 3), (21, .ifCond .eq 12, 3), (24, .iload_n 3, 1), (25, .iconst 1, 1), (26, .iconst 3, 1), (27, .invokestatic 98, 3), (30, .ifCond .ne 6, 3), (33, .bipush (-2), 2), (35, .ireturn, 1), (36, .aload_n 0, 1), (37, .invokevirtual 196, 3), (40, .aload_n 0, 1), (41, .getfield 71, 3), (44, .iload_n 1, 1), (45, .iload_n 2, 1), (46, .iload_n 3, 1), (47, .invokevirtual 222, 3), (50, .ifCond .eq 7, 3), (53, .iconst 1, 1), (54, .goto 4, 3), (57, .iconst 0, 1), (58, .ireturn, 1)]
set_option maxRecDepth 20000 in
theorem eX10_game : zq_dec tX10_game cX10_game := by unfold zq_dec; decide +kernel
abbrev YX10_votes : zq_Y := (yX10_votes, cX10_votes, 5, some .int)
def tX10_votes : List (Nat × Instr × Nat) := [(0, .iload_n 1, 1), (1, .invokestatic 132, 3), (4, .ifCond .eq 10, 3), (7, .iload_n 2, 1), (8, .invokestatic 187, 3), (11, .ifCond .ne 5, 3), (14, .iconst (-1), 1), (15, .ireturn, 1), (16, .aload_n 0, 1), (17, .getfield 12, 3), (20, .iload_n 1, 1), (21, .invokevirtual 141, 3), (24, .istore_n 3, 1), (25, .iload_n 3, 1), (26, .aload_n 0, 1), (27, .getfield 12, 3), (30, .iload_n 2, 1), (31, .invokevirtual 209, 3), (34, .iand, 1), (35, .invokestatic 225, 3), (38, .istore 4, 2), (40, .iload 4, 2), (42, .iconst 2, 1), (43, .imul, 1), (44, .iload_n 3, 1), (45, .invokestatic 225, 3), (48, .if_icmp .le 7, 3), (51, .iconst 1, 1), (52, .goto 4, 3), (55, .iconst 0, 1), (56, .ireturn, 1)]
set_option maxRecDepth 20000 in
theorem eX10_votes : zq_dec tX10_votes cX10_votes := by unfold zq_dec; decide +kernel
abbrev YX10_spoken : zq_Y := (yX10_spoken, cX10_spoken, 3, some .int)
def tX10_spoken : List (Nat × Instr × Nat) := [(0, .iload_n 1, 1), (1, .iconst (-1), 1), (2, .if_icmp .ne 13, 3), (5, .aload_n 0, 1), (6, .getfield 12, 3), (9, .iconst 0, 1), (10, .putfield 230, 3), (13, .iconst 0, 1), (14, .ireturn, 1), (15, .iload_n 1, 1), (16, .iconst 1, 1), (17, .aload_n 0, 1), (18, .getfield 12, 3), (21, .invokevirtual 212, 3), (24, .invokestatic 98, 3), (27, .ifCond .eq 12, 3), (30, .iload_n 1, 1), (31, .invokestatic 225, 3), (34, .iconst 2, 1), (35, .irem, 1), (36, .ifCond .ne 6, 3), (39, .bipush (-2), 2), (41, .ireturn, 1), (42, .aload_n 0, 1), (43, .iload_n 2, 1), (44, .invokevirtual 114, 3), (47, .ifCond .eq 11, 3), (50, .iload_n 1, 1), (51, .iload_n 2, 1), (52, .ishr, 1), (53, .iconst 1, 1), (54, .iand, 1), (55, .ifCond .ne 5, 3), (58, .iconst (-1), 1), (59, .ireturn, 1), (60, .aload_n 0, 1), (61, .getfield 12, 3), (64, .getfield 230, 3), (67, .bipush 12, 2), (69, .if_icmp .lt 6, 3), (72, .bipush (-4), 2), (74, .ireturn, 1), (75, .aload_n 0, 1), (76, .getfield 12, 3), (79, .getfield 233, 3), (82, .aload_n 0, 1), (83, .getfield 12, 3), (86, .getfield 230, 3), (89, .iload_n 1, 1), (90, .iastore, 1), (91, .aload_n 0, 1), (92, .getfield 12, 3), (95, .getfield 236, 3), (98, .aload_n 0, 1), (99, .getfield 12, 3), (102, .getfield 230, 3), (105, .iload_n 2, 1), (106, .iastore, 1), (107, .aload_n 0, 1), (108, .getfield 12, 3), (111, .dup, 1), (112, .getfield 230, 3), (115, .iconst 1, 1), (116, .iadd, 1), (117, .putfield 230, 3), (120, .aload_n 0, 1), (121, .getfield 12, 3), (124, .getfield 230, 3), (127, .ireturn, 1)]
set_option maxRecDepth 20000 in
theorem eX10_spoken : zq_dec tX10_spoken cX10_spoken := by unfold zq_dec; decide +kernel
abbrev YX10_fits : zq_Y := (yX10_fits, cX10_fits, 1, some .int)
def tX10_fits : List (Nat × Instr × Nat) := [(0, .aload_n 0, 1), (1, .getfield 12, 3), (4, .getfield 106, 3), (7, .ifCond .ne 8, 3), (10, .bipush (-5), 2), (12, .goto 10, 3), (15, .aload_n 0, 1), (16, .getfield 80, 3), (19, .invokevirtual 239, 3), (22, .ireturn, 1)]
set_option maxRecDepth 20000 in
theorem eX10_fits : zq_dec tX10_fits cX10_fits := by unfold zq_dec; decide +kernel
abbrev YX10_lot : zq_Y := (yX10_lot, cX10_lot, 4, some .long)
def tX10_lot : List (Nat × Instr × Nat) := [(0, .aload_n 0, 1), (1, .iload_n 1, 1), (2, .invokevirtual 114, 3), (5, .ifCond .eq 21, 3), (8, .iload_n 2, 1), (9, .iconst 0, 1), (10, .iconst 2, 1), (11, .invokestatic 98, 3), (14, .ifCond .eq 12, 3), (17, .iload_n 3, 1), (18, .iconst 0, 1), (19, .iconst 1, 1), (20, .invokestatic 98, 3), (23, .ifCond .ne 7, 3), (26, .ldc2_w 242, 3), (29, .lreturn, 1), (30, .aload_n 0, 1), (31, .invokevirtual 196, 3), (34, .aload_n 0, 1), (35, .getfield 71, 3), (38, .iload_n 1, 1), (39, .iload_n 2, 1), (40, .iload_n 3, 1), (41, .ifCond .ne 7, 3), (44, .iconst 1, 1), (45, .goto 4, 3), (48, .iconst 0, 1), (49, .invokevirtual 244, 3), (52, .lreturn, 1)]
set_option maxRecDepth 20000 in
theorem eX10_lot : zq_dec tX10_lot cX10_lot := by unfold zq_dec; decide +kernel
abbrev YX10_book : zq_Y := (yX10_book, cX10_book, 2, some .int)
def tX10_book : List (Nat × Instr × Nat) := [(0, .iload_n 1, 1), (1, .iconst (-1), 1), (2, .if_icmp .ne 13, 3), (5, .aload_n 0, 1), (6, .getfield 12, 3), (9, .iconst 0, 1), (10, .putfield 248, 3), (13, .iconst 0, 1), (14, .ireturn, 1), (15, .iload_n 1, 1), (16, .ifCond .lt 21, 3), (19, .iload_n 1, 1), (20, .bipush 10, 2), (22, .idiv, 1), (23, .iconst 5, 1), (24, .if_icmp .ge 13, 3), (27, .iload_n 1, 1), (28, .bipush 10, 2), (30, .irem, 1), (31, .invokestatic 187, 3), (34, .ifCond .ne 5, 3), (37, .iconst (-1), 1), (38, .ireturn, 1), (39, .aload_n 0, 1), (40, .getfield 12, 3), (43, .getfield 248, 3), (46, .bipush 12, 2), (48, .if_icmp .lt 6, 3), (51, .bipush (-4), 2), (53, .ireturn, 1), (54, .aload_n 0, 1), (55, .getfield 12, 3), (58, .getfield 251, 3), (61, .aload_n 0, 1), (62, .getfield 12, 3), (65, .getfield 248, 3), (68, .iload_n 1, 1), (69, .iastore, 1), (70, .aload_n 0, 1), (71, .getfield 12, 3), (74, .dup, 1), (75, .getfield 248, 3), (78, .iconst 1, 1), (79, .iadd, 1), (80, .putfield 248, 3), (83, .aload_n 0, 1), (84, .getfield 12, 3), (87, .getfield 248, 3), (90, .ireturn, 1)]
set_option maxRecDepth 20000 in
theorem eX10_book : zq_dec tX10_book cX10_book := by unfold zq_dec; decide +kernel
abbrev YX10_readBook : zq_Y := (yX10_readBook, cX10_readBook, 1, some .int)
def tX10_readBook : List (Nat × Instr × Nat) := [(0, .aload_n 0, 1), (1, .getfield 48, 3), (4, .aload_n 0, 1), (5, .invokevirtual 161, 3), (8, .invokevirtual 254, 3), (11, .aload_n 0, 1), (12, .getfield 48, 3), (15, .invokevirtual 258, 3), (18, .ireturn, 1)]
set_option maxRecDepth 20000 in
theorem eX10_readBook : zq_dec tX10_readBook cX10_readBook := by unfold zq_dec; decide +kernel
abbrev YX10_judge : zq_Y := (yX10_judge, cX10_judge, 4, some .int)
def tX10_judge : List (Nat × Instr × Nat) := [(0, .iload_n 1, 1), (1, .invokestatic 261, 3), (4, .ifCond .ne 5, 3), (7, .iconst (-1), 1), (8, .ireturn, 1), (9, .aload_n 0, 1), (10, .getfield 93, 3), (13, .iload_n 1, 1), (14, .aaload, 1), (15, .astore_n 3, 1), (16, .aload_n 3, 1), (17, .invokevirtual 264, 3), (20, .ifCond .eq 14, 3), (23, .aload_n 3, 1), (24, .getfield 268, 3), (27, .iconst 2, 1), (28, .if_icmp .eq 6, 3), (31, .bipush (-12), 2), (33, .ireturn, 1), (34, .aload_n 0, 1), (35, .aload_n 3, 1), (36, .iload_n 2, 1), (37, .invokevirtual 271, 3), (40, .ireturn, 1)]
set_option maxRecDepth 20000 in
theorem eX10_judge : zq_dec tX10_judge cX10_judge := by unfold zq_dec; decide +kernel
abbrev YX10_image : zq_Y := (yX10_image, cX10_image, 1, some .int)
def tX10_image : List (Nat × Instr × Nat) := [(0, .aload_n 0, 1), (1, .getfield 18, 3), (4, .aload_n 0, 1), (5, .getfield 12, 3), (8, .invokevirtual 275, 3), (11, .aload_n 0, 1), (12, .iconst 1, 1), (13, .putfield 278, 3), (16, .aload_n 0, 1), (17, .getfield 12, 3), (20, .getfield 106, 3), (23, .ireturn, 1)]
set_option maxRecDepth 20000 in
theorem eX10_image : zq_dec tX10_image cX10_image := by unfold zq_dec; decide +kernel
abbrev YX10_undo : zq_Y := (yX10_undo, cX10_undo, 1, some .int)
def tX10_undo : List (Nat × Instr × Nat) := [(0, .aload_n 0, 1), (1, .getfield 278, 3), (4, .ifCond .ne 6, 3), (7, .bipush (-3), 2), (9, .ireturn, 1), (10, .aload_n 0, 1), (11, .getfield 12, 3), (14, .aload_n 0, 1), (15, .getfield 18, 3), (18, .invokevirtual 275, 3), (21, .aload_n 0, 1), (22, .getfield 12, 3), (25, .getfield 106, 3), (28, .ireturn, 1)]
set_option maxRecDepth 20000 in
theorem eX10_undo : zq_dec tX10_undo cX10_undo := by unfold zq_dec; decide +kernel
abbrev YX10_act : zq_Y := (yX10_act, cX10_act, 4, some .int)
def tX10_act : List (Nat × Instr × Nat) := [(0, .aload_n 0, 1), (1, .getfield 87, 3), (4, .invokevirtual 282, 3), (7, .iload_n 1, 1), (8, .invokestatic 132, 3), (11, .ifCond .eq 12, 3), (14, .iload_n 2, 1), (15, .iconst 0, 1), (16, .iconst 2, 1), (17, .invokestatic 98, 3), (20, .ifCond .ne 5, 3), (23, .iconst 0, 1), (24, .ireturn, 1), (25, .aload_n 0, 1), (26, .getfield 87, 3), (29, .iload_n 1, 1), (30, .aload_n 0, 1), (31, .getfield 12, 3), (34, .getfield 135, 3), (37, .iload_n 1, 1), (38, .iaload, 1), (39, .aload_n 0, 1), (40, .getfield 12, 3), (43, .getfield 138, 3), (46, .iload_n 1, 1), (47, .iaload, 1), (48, .iload_n 2, 1), (49, .iload_n 3, 1), (50, .invokevirtual 285, 3), (53, .ireturn, 1)]
set_option maxRecDepth 20000 in
theorem eX10_act : zq_dec tX10_act cX10_act := by unfold zq_dec; decide +kernel
abbrev YX10_trace : zq_Y := (yX10_trace, cX10_trace, 2, some .int)
def tX10_trace : List (Nat × Instr × Nat) := [(0, .aload_n 0, 1), (1, .getfield 87, 3), (4, .iload_n 1, 1), (5, .invokevirtual 289, 3), (8, .ireturn, 1)]
set_option maxRecDepth 20000 in
theorem eX10_trace : zq_dec tX10_trace cX10_trace := by unfold zq_dec; decide +kernel
abbrev YX10_taken : zq_Y := (yX10_taken, cX10_taken, 4, some .int)
def tX10_taken : List (Nat × Instr × Nat) := [(0, .iload_n 2, 1), (1, .iconst 0, 1), (2, .bipush 6, 2), (4, .invokestatic 98, 3), (7, .ifCond .ne 6, 3), (10, .bipush (-2), 2), (12, .ireturn, 1), (13, .iload_n 1, 1), (14, .invokestatic 132, 3), (17, .ifCond .ne 6, 3), (20, .bipush (-11), 2), (22, .ireturn, 1), (23, .aload_n 0, 1), (24, .getfield 12, 3), (27, .getfield 135, 3), (30, .iload_n 1, 1), (31, .iaload, 1), (32, .istore_n 3, 1), (33, .iload_n 3, 1), (34, .iload_n 2, 1), (35, .invokestatic 292, 3), (38, .ifCond .eq 7, 3), (41, .iload_n 3, 1), (42, .goto 5, 3), (45, .bipush (-12), 2), (47, .ireturn, 1)]
set_option maxRecDepth 20000 in
theorem eX10_taken : zq_dec tX10_taken cX10_taken := by unfold zq_dec; decide +kernel
abbrev YX10_count : zq_Y := (yX10_count, cX10_count, 2, some .int)
def tX10_count : List (Nat × Instr × Nat) := [(0, .iload_n 1, 1), (1, .tableswitch 81 0 5 #[39, 47, 52, 60, 68, 73], 39), (40, .aload_n 0, 1), (41, .getfield 12, 3), (44, .getfield 106, 3), (47, .ireturn, 1), (48, .aload_n 0, 1), (49, .getfield 151, 3), (52, .ireturn, 1), (53, .aload_n 0, 1), (54, .getfield 12, 3), (57, .getfield 230, 3), (60, .ireturn, 1), (61, .aload_n 0, 1), (62, .getfield 12, 3), (65, .getfield 248, 3), (68, .ireturn, 1), (69, .aload_n 0, 1), (70, .getfield 148, 3), (73, .ireturn, 1), (74, .aload_n 0, 1), (75, .getfield 87, 3), (78, .getfield 295, 3), (81, .ireturn, 1), (82, .bipush (-2), 2), (84, .ireturn, 1)]
set_option maxRecDepth 20000 in
theorem eX10_count : zq_dec tX10_count cX10_count := by unfold zq_dec; decide +kernel
abbrev YX10_tape : zq_Y := (yX10_tape, cX10_tape, 4, some .int)
def tX10_tape : List (Nat × Instr × Nat) := [(0, .iload_n 1, 1), (1, .invokestatic 261, 3), (4, .ifCond .ne 5, 3), (7, .iconst (-1), 1), (8, .ireturn, 1), (9, .iload_n 2, 1), (10, .iconst (-1), 1), (11, .if_icmp .ne 14, 3), (14, .aload_n 0, 1), (15, .getfield 93, 3), (18, .iload_n 1, 1), (19, .aaload, 1), (20, .invokevirtual 298, 3), (23, .iconst 1, 1), (24, .ireturn, 1), (25, .iload_n 2, 1), (26, .iconst 0, 1), (27, .iconst 4, 1), (28, .invokestatic 98, 3), (31, .ifCond .eq 9, 3), (34, .iload_n 3, 1), (35, .bipush 60, 2), (37, .if_icmp .le 6, 3), (40, .bipush (-2), 2), (42, .ireturn, 1), (43, .iload_n 3, 1), (44, .ifCond .ge 6, 3), (47, .bipush (-14), 2), (49, .ireturn, 1), (50, .aload_n 0, 1), (51, .getfield 93, 3), (54, .iload_n 1, 1), (55, .aaload, 1), (56, .iload_n 2, 1), (57, .iload_n 3, 1), (58, .invokevirtual 301, 3), (61, .iconst 1, 1), (62, .ireturn, 1)]
set_option maxRecDepth 20000 in
theorem eX10_tape : zq_dec tX10_tape cX10_tape := by unfold zq_dec; decide +kernel
abbrev YX10_item : zq_Y := (yX10_item, cX10_item, 6, some .int)
def tX10_item : List (Nat × Instr × Nat) := [(0, .iload_n 1, 1), (1, .invokestatic 261, 3), (4, .ifCond .ne 5, 3), (7, .iconst (-1), 1), (8, .ireturn, 1), (9, .aload_n 0, 1), (10, .getfield 93, 3), (13, .iload_n 1, 1), (14, .aaload, 1), (15, .astore 5, 2), (17, .aload 5, 2), (19, .invokevirtual 264, 3), (22, .ifCond .ne 6, 3), (25, .bipush (-11), 2), (27, .ireturn, 1), (28, .aload 5, 2), (30, .iload_n 2, 1), (31, .invokevirtual 305, 3), (34, .ifCond .ne 6, 3), (37, .bipush (-13), 2), (39, .ireturn, 1), (40, .aload 5, 2), (42, .iload_n 2, 1), (43, .lload_n 3, 1), (44, .invokevirtual 308, 3), (47, .iconst 1, 1), (48, .ireturn, 1)]
set_option maxRecDepth 20000 in
theorem eX10_item : zq_dec tX10_item cX10_item := by unfold zq_dec; decide +kernel
abbrev YX10_read : zq_Y := (yX10_read, cX10_read, 3, some .long)
def tX10_read : List (Nat × Instr × Nat) := [(0, .iload_n 1, 1), (1, .invokestatic 261, 3), (4, .ifCond .eq 16, 3), (7, .aload_n 0, 1), (8, .getfield 93, 3), (11, .iload_n 1, 1), (12, .aaload, 1), (13, .iload_n 2, 1), (14, .invokevirtual 305, 3), (17, .ifCond .ne 7, 3), (20, .ldc2_w 242, 3), (23, .lreturn, 1), (24, .aload_n 0, 1), (25, .getfield 93, 3), (28, .iload_n 1, 1), (29, .aaload, 1), (30, .getfield 312, 3), (33, .iload_n 2, 1), (34, .laload, 1), (35, .lreturn, 1)]
set_option maxRecDepth 20000 in
theorem eX10_read : zq_dec tX10_read cX10_read := by unfold zq_dec; decide +kernel
abbrev YX10_shift : zq_Y := (yX10_shift, cX10_shift, 8, some .int)
def tX10_shift : List (Nat × Instr × Nat) := [(0, .iload_n 1, 1), (1, .invokestatic 261, 3), (4, .ifCond .eq 10, 3), (7, .iload_n 3, 1), (8, .invokestatic 261, 3), (11, .ifCond .ne 5, 3), (14, .iconst (-1), 1), (15, .ireturn, 1), (16, .aload_n 0, 1), (17, .getfield 93, 3), (20, .iload_n 1, 1), (21, .aaload, 1), (22, .astore 6, 2), (24, .aload_n 0, 1), (25, .getfield 93, 3), (28, .iload_n 3, 1), (29, .aaload, 1), (30, .astore 7, 2), (32, .aload 6, 2), (34, .invokevirtual 264, 3), (37, .ifCond .eq 11, 3), (40, .aload 7, 2), (42, .invokevirtual 264, 3), (45, .ifCond .ne 6, 3), (48, .bipush (-11), 2), (50, .ireturn, 1), (51, .aload 6, 2), (53, .getfield 268, 3), (56, .aload 7, 2), (58, .getfield 268, 3), (61, .if_icmp .eq 6, 3), (64, .bipush (-12), 2), (66, .ireturn, 1), (67, .aload 6, 2), (69, .iload_n 2, 1), (70, .iload 5, 2), (72, .invokevirtual 316, 3), (75, .ifCond .eq 15, 3), (78, .aload 7, 2), (80, .iload 4, 2), (82, .iload 5, 2), (84, .invokevirtual 316, 3), (87, .ifCond .ne 6, 3), (90, .bipush (-13), 2), (92, .ireturn, 1), (93, .aload 6, 2), (95, .getfield 312, 3), (98, .iload_n 2, 1), (99, .aload 7, 2), (101, .getfield 312, 3), (104, .iload 4, 2), (106, .iload 5, 2), (108, .invokestatic 319, 3), (111, .iload 5, 2), (113, .ireturn, 1)]
set_option maxRecDepth 20000 in
theorem eX10_shift : zq_dec tX10_shift cX10_shift := by unfold zq_dec; decide +kernel
abbrev YX10_isFromTo : zq_Y := (yX10_isFromTo, cX10_isFromTo, 3, some .boolean)
def tX10_isFromTo : List (Nat × Instr × Nat) := [(0, .iload_n 0, 1), (1, .iload_n 1, 1), (2, .if_icmp .lt 12, 3), (5, .iload_n 0, 1), (6, .iload_n 2, 1), (7, .if_icmp .gt 7, 3), (10, .iconst 1, 1), (11, .goto 4, 3), (14, .iconst 0, 1), (15, .ireturn, 1)]
set_option maxRecDepth 20000 in
theorem eX10_isFromTo : zq_dec tX10_isFromTo cX10_isFromTo := by unfold zq_dec; decide +kernel
abbrev YX10_isRoom : zq_Y := (yX10_isRoom, cX10_isRoom, 1, some .boolean)
def tX10_isRoom : List (Nat × Instr × Nat) := [(0, .iload_n 0, 1), (1, .iconst 0, 1), (2, .iconst 2, 1), (3, .invokestatic 98, 3), (6, .ireturn, 1)]
set_option maxRecDepth 20000 in
theorem eX10_isRoom : zq_dec tX10_isRoom cX10_isRoom := by unfold zq_dec; decide +kernel
abbrev YX10_isPlace : zq_Y := (yX10_isPlace, cX10_isPlace, 1, some .boolean)
def tX10_isPlace : List (Nat × Instr × Nat) := [(0, .iload_n 0, 1), (1, .iconst 0, 1), (2, .iconst 3, 1), (3, .invokestatic 98, 3), (6, .ireturn, 1)]
set_option maxRecDepth 20000 in
theorem eX10_isPlace : zq_dec tX10_isPlace cX10_isPlace := by unfold zq_dec; decide +kernel
abbrev YX10_isThing : zq_Y := (yX10_isThing, cX10_isThing, 1, some .boolean)
def tX10_isThing : List (Nat × Instr × Nat) := [(0, .iload_n 0, 1), (1, .iconst 0, 1), (2, .bipush 7, 2), (4, .invokestatic 98, 3), (7, .ireturn, 1)]
set_option maxRecDepth 20000 in
theorem eX10_isThing : zq_dec tX10_isThing cX10_isThing := by unfold zq_dec; decide +kernel
abbrev YX10_isTape : zq_Y := (yX10_isTape, cX10_isTape, 1, some .boolean)
def tX10_isTape : List (Nat × Instr × Nat) := [(0, .iload_n 0, 1), (1, .iconst 0, 1), (2, .iconst 5, 1), (3, .invokestatic 98, 3), (6, .ireturn, 1)]
set_option maxRecDepth 20000 in
theorem eX10_isTape : zq_dec tX10_isTape cX10_isTape := by unfold zq_dec; decide +kernel
abbrev YX10_isPerson : zq_Y := (yX10_isPerson, cX10_isPerson, 2, some .boolean)
def tX10_isPerson : List (Nat × Instr × Nat) := [(0, .iload_n 1, 1), (1, .iconst 0, 1), (2, .aload_n 0, 1), (3, .getfield 12, 3), (6, .getfield 106, 3), (9, .iconst 1, 1), (10, .isub, 1), (11, .invokestatic 98, 3), (14, .ireturn, 1)]
set_option maxRecDepth 20000 in
theorem eX10_isPerson : zq_dec tX10_isPerson cX10_isPerson := by unfold zq_dec; decide +kernel
abbrev YX10_isKindOrUnder : zq_Y := (yX10_isKindOrUnder, cX10_isKindOrUnder, 4, some .boolean)
def tX10_isKindOrUnder : List (Nat × Instr × Nat) := [(0, .iload_n 0, 1), (1, .istore_n 2, 1), (2, .iconst 0, 1), (3, .istore_n 3, 1), (4, .iload_n 3, 1), (5, .bipush 7, 2), (7, .if_icmp .ge 26, 3), (10, .iload_n 2, 1), (11, .ifCond .lt 22, 3), (14, .iload_n 2, 1), (15, .iload_n 1, 1), (16, .if_icmp .ne 5, 3), (19, .iconst 1, 1), (20, .ireturn, 1), (21, .getstatic 325, 3), (24, .iload_n 2, 1), (25, .iaload, 1), (26, .istore_n 2, 1), (27, .iinc 3 1, 3), (30, .goto (-26), 3), (33, .iconst 0, 1), (34, .ireturn, 1)]
set_option maxRecDepth 20000 in
theorem eX10_isKindOrUnder : zq_dec tX10_isKindOrUnder cX10_isKindOrUnder := by unfold zq_dec; decide +kernel
abbrev YX10_holding : zq_Y := (yX10_holding, cX10_holding, 1, some (.object "MiddleSpeaks$House"))
def tX10_holding : List (Nat × Instr × Nat) := [(0, .aload_n 0, 1), (1, .getfield 12, 3), (4, .getfield 158, 3), (7, .iconst 0, 1), (8, .aload_n 0, 1), (9, .getfield 151, 3), (12, .iconst 1, 1), (13, .isub, 1), (14, .invokestatic 98, 3), (17, .ifCond .eq 18, 3), (20, .aload_n 0, 1), (21, .getfield 27, 3), (24, .aload_n 0, 1), (25, .getfield 12, 3), (28, .getfield 158, 3), (31, .aaload, 1), (32, .goto 7, 3), (35, .aload_n 0, 1), (36, .getfield 32, 3), (39, .areturn, 1)]
set_option maxRecDepth 20000 in
theorem eX10_holding : zq_dec tX10_holding cX10_holding := by unfold zq_dec; decide +kernel
abbrev YX10_lookAhead : zq_Y := (yX10_lookAhead, cX10_lookAhead, 1, none)
def tX10_lookAhead : List (Nat × Instr × Nat) := [(0, .aload_n 0, 1), (1, .getfield 48, 3), (4, .aload_n 0, 1), (5, .invokevirtual 161, 3), (8, .invokevirtual 254, 3), (11, .aload_n 0, 1), (12, .getfield 48, 3), (15, .invokevirtual 328, 3), (18, .return_, 1)]
set_option maxRecDepth 20000 in
theorem eX10_lookAhead : zq_dec tX10_lookAhead cX10_lookAhead := by unfold zq_dec; decide +kernel
abbrev YX10_speakersNow : zq_Y := (yX10_speakersNow, cX10_speakersNow, 2, some .int)
def tX10_speakersNow : List (Nat × Instr × Nat) := [(0, .aload_n 0, 1), (1, .getfield 48, 3), (4, .aload_n 0, 1), (5, .invokevirtual 161, 3), (8, .invokevirtual 254, 3), (11, .aload_n 0, 1), (12, .getfield 48, 3), (15, .iload_n 1, 1), (16, .aload_n 0, 1), (17, .getfield 12, 3), (20, .iload_n 1, 1), (21, .invokevirtual 141, 3), (24, .aload_n 0, 1), (25, .getfield 12, 3), (28, .getfield 168, 3), (31, .invokevirtual 331, 3), (34, .ireturn, 1)]
set_option maxRecDepth 20000 in
theorem eX10_speakersNow : zq_dec tX10_speakersNow cX10_speakersNow := by unfold zq_dec; decide +kernel
abbrev YX10_maySpeakNow : zq_Y := (yX10_maySpeakNow, cX10_maySpeakNow, 2, some .boolean)
def tX10_maySpeakNow : List (Nat × Instr × Nat) := [(0, .aload_n 0, 1), (1, .aload_n 0, 1), (2, .getfield 12, 3), (5, .getfield 123, 3), (8, .iload_n 1, 1), (9, .iaload, 1), (10, .invokevirtual 145, 3), (13, .iload_n 1, 1), (14, .ishr, 1), (15, .iconst 1, 1), (16, .iand, 1), (17, .iconst 1, 1), (18, .if_icmp .ne 7, 3), (21, .iconst 1, 1), (22, .goto 4, 3), (25, .iconst 0, 1), (26, .ireturn, 1)]
set_option maxRecDepth 20000 in
theorem eX10_maySpeakNow : zq_dec tX10_maySpeakNow cX10_maySpeakNow := by unfold zq_dec; decide +kernel
abbrev YX10_priceNow : zq_Y := (yX10_priceNow, cX10_priceNow, 3, some .int)
def tX10_priceNow : List (Nat × Instr × Nat) := [(0, .aload_n 0, 1), (1, .getfield 48, 3), (4, .aload_n 0, 1), (5, .invokevirtual 161, 3), (8, .invokevirtual 254, 3), (11, .aload_n 0, 1), (12, .getfield 48, 3), (15, .iload_n 1, 1), (16, .iload_n 2, 1), (17, .aload_n 0, 1), (18, .iload_n 2, 1), (19, .invokevirtual 334, 3), (22, .invokevirtual 337, 3), (25, .ireturn, 1)]
set_option maxRecDepth 20000 in
theorem eX10_priceNow : zq_dec tX10_priceNow cX10_priceNow := by unfold zq_dec; decide +kernel
abbrev YX10_isBarredNow : zq_Y := (yX10_isBarredNow, cX10_isBarredNow, 3, some .boolean)
def tX10_isBarredNow : List (Nat × Instr × Nat) := [(0, .aload_n 0, 1), (1, .getfield 48, 3), (4, .aload_n 0, 1), (5, .invokevirtual 161, 3), (8, .invokevirtual 254, 3), (11, .aload_n 0, 1), (12, .getfield 48, 3), (15, .iload_n 1, 1), (16, .iload_n 2, 1), (17, .aload_n 0, 1), (18, .iload_n 2, 1), (19, .invokevirtual 334, 3), (22, .invokevirtual 340, 3), (25, .ireturn, 1)]
set_option maxRecDepth 20000 in
theorem eX10_isBarredNow : zq_dec tX10_isBarredNow cX10_isBarredNow := by unfold zq_dec; decide +kernel
abbrev YX10_numberWith : zq_Y := (yX10_numberWith, cX10_numberWith, 2, some .int)
def tX10_numberWith : List (Nat × Instr × Nat) := [(0, .aload_n 0, 1), (1, .getfield 12, 3), (4, .iload_n 1, 1), (5, .invokevirtual 141, 3), (8, .invokestatic 225, 3), (11, .iconst 1, 1), (12, .iadd, 1), (13, .ireturn, 1)]
set_option maxRecDepth 20000 in
theorem eX10_numberWith : zq_dec tX10_numberWith cX10_numberWith := by unfold zq_dec; decide +kernel
abbrev YX10_firstOtherwise : zq_Y := (yX10_firstOtherwise, cX10_firstOtherwise, 4, some .int)
def tX10_firstOtherwise : List (Nat × Instr × Nat) := [(0, .iconst 0, 1), (1, .istore_n 3, 1), (2, .iload_n 3, 1), (3, .aload_n 0, 1), (4, .getfield 12, 3), (7, .getfield 106, 3), (10, .if_icmp .ge 56, 3), (13, .aload_n 1, 1), (14, .iload_n 2, 1), (15, .invokevirtual 305, 3), (18, .ifCond .eq 13, 3), (21, .aload_n 1, 1), (22, .iload_n 2, 1), (23, .iload_n 3, 1), (24, .iadd, 1), (25, .invokevirtual 305, 3), (28, .ifCond .ne 8, 3), (31, .bipush 100, 2), (33, .iload_n 3, 1), (34, .iadd, 1), (35, .ireturn, 1), (36, .aload_n 1, 1), (37, .getfield 312, 3), (40, .iload_n 2, 1), (41, .iload_n 3, 1), (42, .iadd, 1), (43, .laload, 1), (44, .aload_n 0, 1), (45, .getfield 12, 3), (48, .getfield 126, 3), (51, .iload_n 3, 1), (52, .iaload, 1), (53, .i2l, 1), (54, .lcmp, 1), (55, .ifCond .eq 5, 3), (58, .iload_n 3, 1), (59, .ireturn, 1), (60, .iinc 3 1, 3), (63, .goto (-61), 3), (66, .bipush (-5), 2), (68, .ireturn, 1)]
set_option maxRecDepth 20000 in
theorem eX10_firstOtherwise : zq_dec tX10_firstOtherwise cX10_firstOtherwise := by unfold zq_dec; decide +kernel
abbrev YX11_init : zq_Y := (yX11_init, cX11_init, 1, none)
def tX11_init : List (Nat × Instr × Nat) := [(0, .aload_n 0, 1), (1, .invokespecial 1, 3), (4, .aload_n 0, 1), (5, .iconst 0, 1), (6, .putfield 7, 3), (9, .aload_n 0, 1), (10, .iconst 0, 1), (11, .putfield 13, 3), (14, .aload_n 0, 1), (15, .iconst 0, 1), (16, .putfield 16, 3), (19, .aload_n 0, 1), (20, .iconst 0, 1), (21, .putfield 19, 3), (24, .aload_n 0, 1), (25, .iconst 5, 1), (26, .newarray .int, 2), (28, .putfield 22, 3), (31, .aload_n 0, 1), (32, .iconst 5, 1), (33, .newarray .int, 2), (35, .putfield 26, 3), (38, .aload_n 0, 1), (39, .iconst 5, 1), (40, .newarray .int, 2), (42, .putfield 29, 3), (45, .aload_n 0, 1), (46, .iconst 3, 1), (47, .newarray .int, 2), (49, .putfield 32, 3), (52, .aload_n 0, 1), (53, .iconst 3, 1), (54, .newarray .int, 2), (56, .putfield 35, 3), (59, .aload_n 0, 1), (60, .iconst 0, 1), (61, .putfield 38, 3), (64, .aload_n 0, 1), (65, .iconst 0, 1), (66, .putfield 41, 3), (69, .aload_n 0, 1), (70, .iconst (-1), 1), (71, .putfield 44, 3), (74, .aload_n 0, 1), (75, .iconst 0, 1), (76, .putfield 47, 3), (79, .aload_n 0, 1), (80, .iconst 0, 1), (81, .putfield 50, 3), (84, .aload_n 0, 1), (85, .iconst 0, 1), (86, .putfield 53, 3), (89, .aload_n 0, 1), (90, .bipush 100, 2), (92, .newarray .int, 2), (94, .putfield 56, 3), (97, .aload_n 0, 1), (98, .bipush 6, 2), (100, .newarray .int, 2), (102, .putfield 59, 3), (105, .aload_n 0, 1), (106, .bipush 60, 2), (108, .newarray .int, 2), (110, .putfield 62, 3), (113, .aload_n 0, 1), (114, .bipush 60, 2), (116, .newarray .int, 2), (118, .putfield 65, 3), (121, .aload_n 0, 1), (122, .bipush 60, 2), (124, .newarray .int, 2), (126, .putfield 68, 3), (129, .aload_n 0, 1), (130, .bipush 60, 2), (132, .newarray .int, 2), (134, .putfield 71, 3), (137, .aload_n 0, 1), (138, .sipush 600, 3), (141, .newarray .int, 2), (143, .putfield 74, 3), (146, .aload_n 0, 1), (147, .bipush 101, 2), (149, .newarray .int, 2), (151, .putfield 77, 3), (154, .aload_n 0, 1), (155, .iconst 0, 1), (156, .putfield 80, 3), (159, .aload_n 0, 1), (160, .iconst 0, 1), (161, .putfield 83, 3), (164, .aload_n 0, 1), (165, .iconst 0, 1), (166, .putfield 86, 3), (169, .aload_n 0, 1), (170, .bipush 17, 2), (172, .newarray .int, 2), (174, .dup, 1), (175, .iconst 0, 1), (176, .bipush 112, 2), (178, .iastore, 1), (179, .dup, 1), (180, .iconst 1, 1), (181, .bipush 114, 2), (183, .iastore, 1), (184, .dup, 1), (185, .iconst 2, 1), (186, .bipush 105, 2), (188, .iastore, 1), (189, .dup, 1), (190, .iconst 3, 1), (191, .bipush 99, 2), (193, .iastore, 1), (194, .dup, 1), (195, .iconst 4, 1), (196, .bipush 101, 2), (198, .iastore, 1), (199, .dup, 1), (200, .iconst 5, 1), (201, .bipush 98, 2), (203, .iastore, 1), (204, .dup, 1), (205, .bipush 6, 2), (207, .bipush 97, 2), (209, .iastore, 1), (210, .dup, 1), (211, .bipush 7, 2), (213, .bipush 114, 2), (215, .iastore, 1), (216, .dup, 1), (217, .bipush 8, 2), (219, .bipush 119, 2), (221, .iastore, 1), (222, .dup, 1), (223, .bipush 9, 2), (225, .bipush 111, 2), (227, .iastore, 1), (228, .dup, 1), (229, .bipush 10, 2), (231, .bipush 114, 2), (233, .iastore, 1), (234, .dup, 1), (235, .bipush 11, 2), (237, .bipush 116, 2), (239, .iastore, 1), (240, .dup, 1), (241, .bipush 12, 2), (243, .bipush 104, 2), (245, .iastore, 1), (246, .dup, 1), (247, .bipush 13, 2), (249, .bipush 115, 2), (251, .iastore, 1), (252, .dup, 1), (253, .bipush 14, 2), (255, .bipush 97, 2), (257, .iastore, 1), (258, .dup, 1), (259, .bipush 15, 2), (261, .bipush 109, 2), (263, .iastore, 1), (264, .dup, 1), (265, .bipush 16, 2), (267, .bipush 101, 2), (269, .iastore, 1), (270, .putfield 89, 3), (273, .aload_n 0, 1), (274, .bipush 100, 2), (276, .newarray .boolean, 2), (278, .putfield 92, 3), (281, .aload_n 0, 1), (282, .bipush 120, 2), (284, .newarray .int, 2), (286, .putfield 96, 3), (289, .aload_n 0, 1), (290, .bipush 120, 2), (292, .newarray .boolean, 2), (294, .putfield 99, 3), (297, .aload_n 0, 1), (298, .sipush 1024, 3), (301, .newarray .boolean, 2), (303, .putfield 102, 3), (306, .aload_n 0, 1), (307, .sipush 1024, 3), (310, .newarray .boolean, 2), (312, .putfield 105, 3), (315, .aload_n 0, 1), (316, .sipush 1024, 3), (319, .newarray .int, 2), (321, .putfield 108, 3), (324, .aload_n 0, 1), (325, .sipush 1024, 3), (328, .newarray .int, 2), (330, .putfield 111, 3), (333, .aload_n 0, 1), (334, .ldc 114, 2), (336, .newarray .boolean, 2), (338, .putfield 115, 3), (341, .aload_n 0, 1), (342, .ldc 114, 2), (344, .newarray .boolean, 2), (346, .putfield 118, 3), (349, .aload_n 0, 1), (350, .iconst 0, 1), (351, .putfield 121, 3), (354, .aload_n 0, 1), (355, .bipush 12, 2), (357, .newarray .int, 2), (359, .putfield 124, 3), (362, .aload_n 0, 1), (363, .bipush 12, 2), (365, .newarray .int, 2), (367, .putfield 127, 3), (370, .aload_n 0, 1), (371, .iconst 5, 1), (372, .newarray .int, 2), (374, .putfield 130, 3), (377, .aload_n 0, 1), (378, .lconst 0, 1), (379, .putfield 133, 3), (382, .aload_n 0, 1), (383, .lconst 1, 1), (384, .putfield 137, 3), (387, .aload_n 0, 1), (388, .iconst 0, 1), (389, .putfield 140, 3), (392, .aload_n 0, 1), (393, .bipush 12, 2), (395, .newarray .int, 2), (397, .putfield 143, 3), (400, .aload_n 0, 1), (401, .iconst 5, 1), (402, .newarray .int, 2), (404, .putfield 146, 3), (407, .aload_n 0, 1), (408, .iconst 0, 1), (409, .putfield 149, 3), (412, .aload_n 0, 1), (413, .iconst (-1), 1), (414, .putfield 153, 3), (417, .aload_n 0, 1), (418, .iconst 0, 1), (419, .putfield 156, 3), (422, .aload_n 0, 1), (423, .iconst 0, 1), (424, .putfield 159, 3), (427, .aload_n 0, 1), (428, .iconst 0, 1), (429, .putfield 162, 3), (432, .aload_n 0, 1), (433, .iconst 0, 1), (434, .putfield 165, 3), (437, .aload_n 0, 1), (438, .iconst 0, 1), (439, .putfield 168, 3), (442, .aload_n 0, 1), (443, .iconst 0, 1), (444, .putfield 171, 3), (447, .aload_n 0, 1), (448, .iconst 5, 1), (449, .newarray .int, 2), (451, .putfield 174, 3), (454, .aload_n 0, 1), (455, .iconst 5, 1), (456, .newarray .int, 2), (458, .putfield 177, 3), (461, .aload_n 0, 1), (462, .iconst 5, 1), (463, .newarray .int, 2), (465, .putfield 180, 3), (468, .aload_n 0, 1), (469, .iconst 3, 1), (470, .newarray .int, 2), (472, .putfield 183, 3), (475, .aload_n 0, 1), (476, .iconst 3, 1), (477, .newarray .int, 2), (479, .putfield 186, 3), (482, .aload_n 0, 1), (483, .bipush 12, 2), (485, .newarray .int, 2), (487, .putfield 189, 3), (490, .aload_n 0, 1), (491, .bipush 12, 2), (493, .newarray .int, 2), (495, .putfield 192, 3), (498, .aload_n 0, 1), (499, .bipush 12, 2), (501, .newarray .int, 2), (503, .putfield 195, 3), (506, .aload_n 0, 1), (507, .iconst 0, 1), (508, .putfield 198, 3), (511, .aload_n 0, 1), (512, .bipush 20, 2), (514, .newarray .int, 2), (516, .putfield 201, 3), (519, .aload_n 0, 1), (520, .bipush 6, 2), (522, .newarray .int, 2), (524, .dup, 1), (525, .iconst 0, 1), (526, .iconst (-1), 1), (527, .iastore, 1), (528, .dup, 1), (529, .iconst 1, 1), (530, .iconst (-1), 1), (531, .iastore, 1), (532, .dup, 1), (533, .iconst 2, 1), (534, .iconst (-1), 1), (535, .iastore, 1), (536, .dup, 1), (537, .iconst 3, 1), (538, .iconst (-1), 1), (539, .iastore, 1), (540, .dup, 1), (541, .iconst 4, 1), (542, .iconst (-1), 1), (543, .iastore, 1), (544, .dup, 1), (545, .iconst 5, 1), (546, .iconst (-1), 1), (547, .iastore, 1), (548, .putfield 204, 3), (551, .aload_n 0, 1), (552, .bipush 6, 2), (554, .newarray .int, 2), (556, .putfield 207, 3), (559, .aload_n 0, 1), (560, .sipush 360, 3), (563, .newarray .long, 2), (565, .putfield 210, 3), (568, .aload_n 0, 1), (569, .bipush 60, 2), (571, .newarray .long, 2), (573, .putfield 214, 3), (576, .return_, 1)]
set_option maxRecDepth 20000 in
theorem eX11_init : zq_dec tX11_init cX11_init := by unfold zq_dec; decide +kernel
abbrev YX11_within : zq_Y := (yX11_within, cX11_within, 4, some .boolean)
def tX11_within : List (Nat × Instr × Nat) := [(0, .iload_n 1, 1), (1, .iload_n 2, 1), (2, .if_icmp .lt 12, 3), (5, .iload_n 1, 1), (6, .iload_n 3, 1), (7, .if_icmp .gt 7, 3), (10, .iconst 1, 1), (11, .goto 4, 3), (14, .iconst 0, 1), (15, .ireturn, 1)]
set_option maxRecDepth 20000 in
theorem eX11_within : zq_dec tX11_within cX11_within := by unfold zq_dec; decide +kernel
abbrev YX11_has : zq_Y := (yX11_has, cX11_has, 3, some .boolean)
def tX11_has : List (Nat × Instr × Nat) := [(0, .iload_n 1, 1), (1, .iload_n 2, 1), (2, .ishr, 1), (3, .iconst 1, 1), (4, .iand, 1), (5, .iconst 1, 1), (6, .if_icmp .ne 7, 3), (9, .iconst 1, 1), (10, .goto 4, 3), (13, .iconst 0, 1), (14, .ireturn, 1)]
set_option maxRecDepth 20000 in
theorem eX11_has : zq_dec tX11_has cX11_has := by unfold zq_dec; decide +kernel
abbrev YX11_ones : zq_Y := (yX11_ones, cX11_ones, 4, some .int)
def tX11_ones : List (Nat × Instr × Nat) := [(0, .iconst 0, 1), (1, .istore_n 2, 1), (2, .iload_n 1, 1), (3, .istore_n 3, 1), (4, .iload_n 3, 1), (5, .ifCond .eq 15, 3), (8, .iinc 2 1, 3), (11, .iload_n 3, 1), (12, .iload_n 3, 1), (13, .iconst 1, 1), (14, .isub, 1), (15, .iand, 1), (16, .istore_n 3, 1), (17, .goto (-13), 3), (20, .iload_n 2, 1), (21, .ireturn, 1)]
set_option maxRecDepth 20000 in
theorem eX11_ones : zq_dec tX11_ones cX11_ones := by unfold zq_dec; decide +kernel
abbrev YX11_isPerson : zq_Y := (yX11_isPerson, cX11_isPerson, 2, some .boolean)
def tX11_isPerson : List (Nat × Instr × Nat) := [(0, .aload_n 0, 1), (1, .iload_n 1, 1), (2, .iconst 0, 1), (3, .aload_n 0, 1), (4, .getfield 7, 3), (7, .iconst 1, 1), (8, .isub, 1), (9, .invokevirtual 217, 3), (12, .ireturn, 1)]
set_option maxRecDepth 20000 in
theorem eX11_isPerson : zq_dec tX11_isPerson cX11_isPerson := by unfold zq_dec; decide +kernel
abbrev YX11_isRoom : zq_Y := (yX11_isRoom, cX11_isRoom, 2, some .boolean)
def tX11_isRoom : List (Nat × Instr × Nat) := [(0, .aload_n 0, 1), (1, .iload_n 1, 1), (2, .iconst 0, 1), (3, .iconst 2, 1), (4, .invokevirtual 217, 3), (7, .ireturn, 1)]
set_option maxRecDepth 20000 in
theorem eX11_isRoom : zq_dec tX11_isRoom cX11_isRoom := by unfold zq_dec; decide +kernel
abbrev YX11_isPlace : zq_Y := (yX11_isPlace, cX11_isPlace, 2, some .boolean)
def tX11_isPlace : List (Nat × Instr × Nat) := [(0, .aload_n 0, 1), (1, .iload_n 1, 1), (2, .iconst 0, 1), (3, .iconst 3, 1), (4, .invokevirtual 217, 3), (7, .ireturn, 1)]
set_option maxRecDepth 20000 in
theorem eX11_isPlace : zq_dec tX11_isPlace cX11_isPlace := by unfold zq_dec; decide +kernel
abbrev YX11_isThing : zq_Y := (yX11_isThing, cX11_isThing, 2, some .boolean)
def tX11_isThing : List (Nat × Instr × Nat) := [(0, .aload_n 0, 1), (1, .iload_n 1, 1), (2, .iconst 0, 1), (3, .bipush 7, 2), (5, .invokevirtual 217, 3), (8, .ireturn, 1)]
set_option maxRecDepth 20000 in
theorem eX11_isThing : zq_dec tX11_isThing cX11_isThing := by unfold zq_dec; decide +kernel
abbrev YX11_placeOf : zq_Y := (yX11_placeOf, cX11_placeOf, 3, some .int)
def tX11_placeOf : List (Nat × Instr × Nat) := [(0, .iload_n 1, 1), (1, .iconst 2, 1), (2, .iload_n 2, 1), (3, .imul, 1), (4, .ishr, 1), (5, .iconst 3, 1), (6, .iand, 1), (7, .ireturn, 1)]
set_option maxRecDepth 20000 in
theorem eX11_placeOf : zq_dec tX11_placeOf cX11_placeOf := by unfold zq_dec; decide +kernel
abbrev YX11_moved : zq_Y := (yX11_moved, cX11_moved, 4, some .int)
def tX11_moved : List (Nat × Instr × Nat) := [(0, .iload_n 1, 1), (1, .iconst 3, 1), (2, .iconst 2, 1), (3, .iload_n 2, 1), (4, .imul, 1), (5, .ishl, 1), (6, .iconst (-1), 1), (7, .ixor, 1), (8, .iand, 1), (9, .iload_n 3, 1), (10, .iconst 2, 1), (11, .iload_n 2, 1), (12, .imul, 1), (13, .ishl, 1), (14, .ior, 1), (15, .ireturn, 1)]
set_option maxRecDepth 20000 in
theorem eX11_moved : zq_dec tX11_moved cX11_moved := by unfold zq_dec; decide +kernel
abbrev YX11_manyIn : zq_Y := (yX11_manyIn, cX11_manyIn, 5, some .int)
def tX11_manyIn : List (Nat × Instr × Nat) := [(0, .iconst 0, 1), (1, .istore_n 3, 1), (2, .iconst 0, 1), (3, .istore 4, 2), (5, .iload 4, 2), (7, .aload_n 0, 1), (8, .getfield 7, 3), (11, .if_icmp .ge 28, 3), (14, .iload_n 3, 1), (15, .aload_n 0, 1), (16, .iload_n 1, 1), (17, .iload 4, 2), (19, .invokevirtual 221, 3), (22, .iload_n 2, 1), (23, .if_icmp .ne 7, 3), (26, .iconst 1, 1), (27, .goto 4, 3), (30, .iconst 0, 1), (31, .iadd, 1), (32, .istore_n 3, 1), (33, .iinc 4 1, 3), (36, .goto (-31), 3), (39, .iload_n 3, 1), (40, .ireturn, 1)]
set_option maxRecDepth 20000 in
theorem eX11_manyIn : zq_dec tX11_manyIn cX11_manyIn := by unfold zq_dec; decide +kernel
abbrev YX11_person : zq_Y := (yX11_person, cX11_person, 5, some .int)
def tX11_person : List (Nat × Instr × Nat) := [(0, .aload_n 0, 1), (1, .iload_n 1, 1), (2, .iconst 0, 1), (3, .bipush 99, 2), (5, .invokevirtual 217, 3), (8, .ifCond .eq 14, 3), (11, .aload_n 0, 1), (12, .iload_n 2, 1), (13, .iconst 0, 1), (14, .bipush 99, 2), (16, .invokevirtual 217, 3), (19, .ifCond .ne 6, 3), (22, .bipush (-2), 2), (24, .ireturn, 1), (25, .aload_n 0, 1), (26, .iload_n 3, 1), (27, .invokevirtual 225, 3), (30, .ifCond .ne 5, 3), (33, .iconst (-1), 1), (34, .ireturn, 1), (35, .aload_n 0, 1), (36, .getfield 7, 3), (39, .iconst 5, 1), (40, .if_icmp .ne 6, 3), (43, .bipush (-4), 2), (45, .ireturn, 1), (46, .aload_n 0, 1), (47, .getfield 7, 3), (50, .istore 4, 2), (52, .aload_n 0, 1), (53, .getfield 22, 3), (56, .iload 4, 2), (58, .iload_n 1, 1), (59, .iastore, 1), (60, .aload_n 0, 1), (61, .getfield 26, 3), (64, .iload 4, 2), (66, .iload_n 2, 1), (67, .iastore, 1), (68, .aload_n 0, 1), (69, .getfield 29, 3), (72, .iload 4, 2), (74, .iconst 0, 1), (75, .iastore, 1), (76, .aload_n 0, 1), (77, .aload_n 0, 1), (78, .aload_n 0, 1), (79, .getfield 13, 3), (82, .iload 4, 2), (84, .iload_n 3, 1), (85, .invokevirtual 229, 3), (88, .putfield 13, 3), (91, .aload_n 0, 1), (92, .dup, 1), (93, .getfield 7, 3), (96, .iconst 1, 1), (97, .iadd, 1), (98, .putfield 7, 3), (101, .iload 4, 2), (103, .ireturn, 1)]
set_option maxRecDepth 20000 in
theorem eX11_person : zq_dec tX11_person cX11_person := by unfold zq_dec; decide +kernel
abbrev YX11_measure : zq_Y := (yX11_measure, cX11_measure, 3, some .int)
def tX11_measure : List (Nat × Instr × Nat) := [(0, .aload_n 0, 1), (1, .getfield 32, 3), (4, .iload_n 1, 1), (5, .iaload, 1), (6, .iconst 3, 1), (7, .if_icmp .eq 14, 3), (10, .aload_n 0, 1), (11, .getfield 32, 3), (14, .iload_n 1, 1), (15, .iaload, 1), (16, .bipush 6, 2), (18, .if_icmp .ne 12, 3), (21, .aload_n 0, 1), (22, .getfield 26, 3), (25, .iload_n 2, 1), (26, .iaload, 1), (27, .goto 9, 3), (30, .aload_n 0, 1), (31, .getfield 22, 3), (34, .iload_n 2, 1), (35, .iaload, 1), (36, .ireturn, 1)]
set_option maxRecDepth 20000 in
theorem eX11_measure : zq_dec tX11_measure cX11_measure := by unfold zq_dec; decide +kernel
abbrev YX11_placeInLine : zq_Y := (yX11_placeInLine, cX11_placeInLine, 7, some .int)
def tX11_placeInLine : List (Nat × Instr × Nat) := [(0, .iconst 0, 1), (1, .istore 4, 2), (3, .iconst 0, 1), (4, .istore 5, 2), (6, .iload 5, 2), (8, .aload_n 0, 1), (9, .getfield 7, 3), (12, .if_icmp .ge 71, 3), (15, .iload 5, 2), (17, .iload_n 3, 1), (18, .if_icmp .eq 59, 3), (21, .aload_n 0, 1), (22, .iload_n 1, 1), (23, .iload 5, 2), (25, .invokevirtual 221, 3), (28, .iload_n 2, 1), (29, .if_icmp .eq 6, 3), (32, .goto 45, 3), (35, .aload_n 0, 1), (36, .iload_n 2, 1), (37, .iload 5, 2), (39, .invokevirtual 233, 3), (42, .aload_n 0, 1), (43, .iload_n 2, 1), (44, .iload_n 3, 1), (45, .invokevirtual 233, 3), (48, .isub, 1), (49, .istore 6, 2), (51, .iload 4, 2), (53, .iload 6, 2), (55, .ifCond .lt 14, 3), (58, .iload 6, 2), (60, .ifCond .ne 13, 3), (63, .iload 5, 2), (65, .iload_n 3, 1), (66, .if_icmp .ge 7, 3), (69, .iconst 1, 1), (70, .goto 4, 3), (73, .iconst 0, 1), (74, .iadd, 1), (75, .istore 4, 2), (77, .iinc 5 1, 3), (80, .goto (-74), 3), (83, .iload 4, 2), (85, .ireturn, 1)]
set_option maxRecDepth 20000 in
theorem eX11_placeInLine : zq_dec tX11_placeInLine cX11_placeInLine := by unfold zq_dec; decide +kernel
abbrev YX11_hasLike : zq_Y := (yX11_hasLike, cX11_hasLike, 7, some .boolean)
def tX11_hasLike : List (Nat × Instr × Nat) := [(0, .iconst 0, 1), (1, .istore 5, 2), (3, .iload 5, 2), (5, .aload_n 0, 1), (6, .getfield 7, 3), (9, .if_icmp .ge 58, 3), (12, .aload_n 0, 1), (13, .iload_n 2, 1), (14, .iload 5, 2), (16, .invokevirtual 233, 3), (19, .aload_n 0, 1), (20, .iload_n 2, 1), (21, .iload_n 3, 1), (22, .invokevirtual 233, 3), (25, .isub, 1), (26, .istore 6, 2), (28, .iload 5, 2), (30, .iload_n 3, 1), (31, .if_icmp .eq 30, 3), (34, .aload_n 0, 1), (35, .iload_n 1, 1), (36, .iload 5, 2), (38, .invokevirtual 221, 3), (41, .iload_n 2, 1), (42, .if_icmp .ne 19, 3), (45, .aload_n 0, 1), (46, .iload 6, 2), (48, .iload 4, 2), (50, .ineg, 1), (51, .iload 4, 2), (53, .invokevirtual 217, 3), (56, .ifCond .eq 5, 3), (59, .iconst 1, 1), (60, .ireturn, 1), (61, .iinc 5 1, 3), (64, .goto (-61), 3), (67, .iconst 0, 1), (68, .ireturn, 1)]
set_option maxRecDepth 20000 in
theorem eX11_hasLike : zq_dec tX11_hasLike cX11_hasLike := by unfold zq_dec; decide +kernel
abbrev YX11_isMiddle : zq_Y := (yX11_isMiddle, cX11_isMiddle, 5, some .boolean)
def tX11_isMiddle : List (Nat × Instr × Nat) := [(0, .aload_n 0, 1), (1, .getfield 32, 3), (4, .iload_n 1, 1), (5, .iaload, 1), (6, .tableswitch 170 1 6 #[38, 53, 170, 73, 105, 126], 38), (44, .iload_n 2, 1), (45, .iload_n 3, 1), (46, .iconst 1, 1), (47, .isub, 1), (48, .iconst 2, 1), (49, .idiv, 1), (50, .if_icmp .ne 7, 3), (53, .iconst 1, 1), (54, .goto 4, 3), (57, .iconst 0, 1), (58, .ireturn, 1), (59, .iload_n 2, 1), (60, .iload_n 3, 1), (61, .iconst 1, 1), (62, .isub, 1), (63, .aload_n 0, 1), (64, .getfield 35, 3), (67, .iload_n 1, 1), (68, .iaload, 1), (69, .isub, 1), (70, .if_icmp .ne 7, 3), (73, .iconst 1, 1), (74, .goto 4, 3), (77, .iconst 0, 1), (78, .ireturn, 1), (79, .iload_n 2, 1), (80, .iload_n 3, 1), (81, .iconst 1, 1), (82, .isub, 1), (83, .iconst 2, 1), (84, .idiv, 1), (85, .if_icmp .eq 20, 3), (88, .iload_n 3, 1), (89, .iconst 2, 1), (90, .irem, 1), (91, .ifCond .ne 18, 3), (94, .iload_n 2, 1), (95, .iload_n 3, 1), (96, .iconst 1, 1), (97, .isub, 1), (98, .iconst 2, 1), (99, .idiv, 1), (100, .iconst 1, 1), (101, .iadd, 1), (102, .if_icmp .ne 7, 3), (105, .iconst 1, 1), (106, .goto 4, 3), (109, .iconst 0, 1), (110, .ireturn, 1), (111, .iload_n 2, 1), (112, .iload 4, 2), (114, .aload_n 0, 1), (115, .getfield 35, 3), (118, .iload_n 1, 1), (119, .iaload, 1), (120, .iadd, 1), (121, .iload_n 3, 1), (122, .irem, 1), (123, .if_icmp .ne 7, 3), (126, .iconst 1, 1), (127, .goto 4, 3), (130, .iconst 0, 1), (131, .ireturn, 1), (132, .iload_n 3, 1), (133, .aload_n 0, 1), (134, .getfield 35, 3), (137, .iload_n 1, 1), (138, .iaload, 1), (139, .if_icmp .le 15, 3), (142, .iload_n 2, 1), (143, .ifCond .ne 7, 3), (146, .iconst 1, 1), (147, .goto 28, 3), (150, .iconst 0, 1), (151, .goto 24, 3), (154, .iload_n 3, 1), (155, .iconst 2, 1), (156, .irem, 1), (157, .iconst 1, 1), (158, .if_icmp .ne 16, 3), (161, .iload_n 2, 1), (162, .iload_n 3, 1), (163, .iconst 1, 1), (164, .isub, 1), (165, .iconst 2, 1), (166, .idiv, 1), (167, .if_icmp .ne 7, 3), (170, .iconst 1, 1), (171, .goto 4, 3), (174, .iconst 0, 1), (175, .ireturn, 1), (176, .iload_n 3, 1), (177, .iconst 2, 1), (178, .irem, 1), (179, .iconst 1, 1), (180, .if_icmp .ne 16, 3), (183, .iload_n 2, 1), (184, .iload_n 3, 1), (185, .iconst 1, 1), (186, .isub, 1), (187, .iconst 2, 1), (188, .idiv, 1), (189, .if_icmp .ne 7, 3), (192, .iconst 1, 1), (193, .goto 4, 3), (196, .iconst 0, 1), (197, .ireturn, 1)]
set_option maxRecDepth 20000 in
theorem eX11_isMiddle : zq_dec tX11_isMiddle cX11_isMiddle := by unfold zq_dec; decide +kernel
abbrev YX11_maySpeak : zq_Y := (yX11_maySpeak, cX11_maySpeak, 5, some .boolean)
def tX11_maySpeak : List (Nat × Instr × Nat) := [(0, .aload_n 0, 1), (1, .iload_n 1, 1), (2, .iload_n 2, 1), (3, .invokevirtual 221, 3), (6, .istore 4, 2), (8, .iload 4, 2), (10, .iconst 3, 1), (11, .if_icmp .eq 25, 3), (14, .aload_n 0, 1), (15, .getfield 38, 3), (18, .ifCond .le 20, 3), (21, .aload_n 0, 1), (22, .iload_n 1, 1), (23, .iload 4, 2), (25, .iload_n 2, 1), (26, .aload_n 0, 1), (27, .getfield 38, 3), (30, .invokevirtual 236, 3), (33, .ifCond .eq 5, 3), (36, .iconst 0, 1), (37, .ireturn, 1), (38, .aload_n 0, 1), (39, .iload 4, 2), (41, .aload_n 0, 1), (42, .iload_n 1, 1), (43, .iload 4, 2), (45, .iload_n 2, 1), (46, .invokevirtual 240, 3), (49, .aload_n 0, 1), (50, .iload_n 1, 1), (51, .iload 4, 2), (53, .invokevirtual 243, 3), (56, .iload_n 3, 1), (57, .invokevirtual 246, 3), (60, .ireturn, 1)]
set_option maxRecDepth 20000 in
theorem eX11_maySpeak : zq_dec tX11_maySpeak cX11_maySpeak := by unfold zq_dec; decide +kernel
abbrev YX11_of : zq_Y := (yX11_of, cX11_of, 3, some .int)
def tX11_of : List (Nat × Instr × Nat) := [(0, .aload_n 0, 1), (1, .iload_n 1, 1), (2, .invokevirtual 249, 3), (5, .ifCond .ne 5, 3), (8, .iconst (-1), 1), (9, .ireturn, 1), (10, .aload_n 0, 1), (11, .aload_n 0, 1), (12, .invokevirtual 252, 3), (15, .putfield 38, 3), (18, .iload_n 2, 1), (19, .tableswitch 86 0 4 #[33, 40, 47, 57, 64], 33), (52, .aload_n 0, 1), (53, .getfield 22, 3), (56, .iload_n 1, 1), (57, .iaload, 1), (58, .ireturn, 1), (59, .aload_n 0, 1), (60, .getfield 26, 3), (63, .iload_n 1, 1), (64, .iaload, 1), (65, .ireturn, 1), (66, .aload_n 0, 1), (67, .aload_n 0, 1), (68, .getfield 13, 3), (71, .iload_n 1, 1), (72, .invokevirtual 221, 3), (75, .ireturn, 1), (76, .aload_n 0, 1), (77, .getfield 29, 3), (80, .iload_n 1, 1), (81, .iaload, 1), (82, .ireturn, 1), (83, .aload_n 0, 1), (84, .aload_n 0, 1), (85, .getfield 13, 3), (88, .iload_n 1, 1), (89, .aload_n 0, 1), (90, .getfield 16, 3), (93, .invokevirtual 256, 3), (96, .ifCond .eq 7, 3), (99, .iconst 1, 1), (100, .goto 4, 3), (103, .iconst 0, 1), (104, .ireturn, 1), (105, .iconst (-1), 1), (106, .ireturn, 1)]
set_option maxRecDepth 20000 in
theorem eX11_of : zq_dec tX11_of cX11_of := by unfold zq_dec; decide +kernel
abbrev YX11_learn : zq_Y := (yX11_learn, cX11_learn, 4, some .int)
def tX11_learn : List (Nat × Instr × Nat) := [(0, .aload_n 0, 1), (1, .iload_n 1, 1), (2, .invokevirtual 249, 3), (5, .ifCond .ne 5, 3), (8, .iconst (-1), 1), (9, .ireturn, 1), (10, .aload_n 0, 1), (11, .iload_n 2, 1), (12, .iconst 0, 1), (13, .sipush 255, 3), (16, .invokevirtual 217, 3), (19, .ifCond .ne 6, 3), (22, .bipush (-2), 2), (24, .ireturn, 1), (25, .aload_n 0, 1), (26, .getfield 29, 3), (29, .iload_n 1, 1), (30, .iaload, 1), (31, .istore_n 3, 1), (32, .aload_n 0, 1), (33, .getfield 29, 3), (36, .iload_n 1, 1), (37, .iload_n 2, 1), (38, .iastore, 1), (39, .iload_n 3, 1), (40, .ireturn, 1)]
set_option maxRecDepth 20000 in
theorem eX11_learn : zq_dec tX11_learn cX11_learn := by unfold zq_dec; decide +kernel
abbrev YX11_room : zq_Y := (yX11_room, cX11_room, 5, some .int)
def tX11_room : List (Nat × Instr × Nat) := [(0, .aload_n 0, 1), (1, .iload_n 1, 1), (2, .invokevirtual 259, 3), (5, .ifCond .eq 14, 3), (8, .aload_n 0, 1), (9, .iload_n 2, 1), (10, .iconst 0, 1), (11, .bipush 6, 2), (13, .invokevirtual 217, 3), (16, .ifCond .ne 5, 3), (19, .iconst (-1), 1), (20, .ireturn, 1), (21, .aload_n 0, 1), (22, .iload_n 3, 1), (23, .iconst 0, 1), (24, .bipush 9, 2), (26, .invokevirtual 217, 3), (29, .ifCond .ne 6, 3), (32, .bipush (-2), 2), (34, .ireturn, 1), (35, .aload_n 0, 1), (36, .getfield 32, 3), (39, .iload_n 1, 1), (40, .iaload, 1), (41, .istore 4, 2), (43, .aload_n 0, 1), (44, .getfield 32, 3), (47, .iload_n 1, 1), (48, .iload_n 2, 1), (49, .iastore, 1), (50, .aload_n 0, 1), (51, .getfield 35, 3), (54, .iload_n 1, 1), (55, .iload_n 3, 1), (56, .iastore, 1), (57, .iload 4, 2), (59, .ireturn, 1)]
set_option maxRecDepth 20000 in
theorem eX11_room : zq_dec tX11_room cX11_room := by unfold zq_dec; decide +kernel
abbrev YX11_inside : zq_Y := (yX11_inside, cX11_inside, 5, some .int)
def tX11_inside : List (Nat × Instr × Nat) := [(0, .aload_n 0, 1), (1, .iload_n 1, 1), (2, .invokevirtual 259, 3), (5, .ifCond .eq 13, 3), (8, .aload_n 0, 1), (9, .iload_n 2, 1), (10, .iconst 0, 1), (11, .iconst 3, 1), (12, .invokevirtual 217, 3), (15, .ifCond .ne 5, 3), (18, .iconst (-1), 1), (19, .ireturn, 1), (20, .iload_n 2, 1), (21, .ifCond .ne 10, 3), (24, .aload_n 0, 1), (25, .getfield 32, 3), (28, .iload_n 1, 1), (29, .iaload, 1), (30, .ireturn, 1), (31, .iload_n 2, 1), (32, .iconst 1, 1), (33, .if_icmp .ne 10, 3), (36, .aload_n 0, 1), (37, .getfield 35, 3), (40, .iload_n 1, 1), (41, .iaload, 1), (42, .ireturn, 1), (43, .aload_n 0, 1), (44, .aload_n 0, 1), (45, .invokevirtual 252, 3), (48, .putfield 38, 3), (51, .iconst 0, 1), (52, .istore_n 3, 1), (53, .iconst 0, 1), (54, .istore 4, 2), (56, .iload 4, 2), (58, .aload_n 0, 1), (59, .getfield 7, 3), (62, .if_icmp .ge 56, 3), (65, .iload_n 3, 1), (66, .aload_n 0, 1), (67, .aload_n 0, 1), (68, .getfield 13, 3), (71, .iload 4, 2), (73, .invokevirtual 221, 3), (76, .iload_n 1, 1), (77, .if_icmp .ne 32, 3), (80, .iload_n 2, 1), (81, .iconst 2, 1), (82, .if_icmp .eq 20, 3), (85, .aload_n 0, 1), (86, .aload_n 0, 1), (87, .getfield 13, 3), (90, .iload 4, 2), (92, .aload_n 0, 1), (93, .getfield 16, 3), (96, .invokevirtual 256, 3), (99, .ifCond .eq 10, 3), (102, .iconst 1, 1), (103, .iload 4, 2), (105, .ishl, 1), (106, .goto 4, 3), (109, .iconst 0, 1), (110, .ior, 1), (111, .istore_n 3, 1), (112, .iinc 4 1, 3), (115, .goto (-59), 3), (118, .iload_n 3, 1), (119, .ireturn, 1)]
set_option maxRecDepth 20000 in
theorem eX11_inside : zq_dec tX11_inside cX11_inside := by unfold zq_dec; decide +kernel
abbrev YX11_feed : zq_Y := (yX11_feed, cX11_feed, 2, some .int)
def tX11_feed : List (Nat × Instr × Nat) := [(0, .aload_n 0, 1), (1, .iload_n 1, 1), (2, .iconst 0, 1), (3, .bipush 127, 2), (5, .invokevirtual 217, 3), (8, .ifCond .ne 6, 3), (11, .bipush (-2), 2), (13, .ireturn, 1), (14, .aload_n 0, 1), (15, .getfield 47, 3), (18, .bipush 100, 2), (20, .if_icmp .ne 6, 3), (23, .bipush (-4), 2), (25, .ireturn, 1), (26, .aload_n 0, 1), (27, .getfield 56, 3), (30, .aload_n 0, 1), (31, .getfield 47, 3), (34, .iload_n 1, 1), (35, .iastore, 1), (36, .aload_n 0, 1), (37, .dup, 1), (38, .getfield 47, 3), (41, .iconst 1, 1), (42, .iadd, 1), (43, .putfield 47, 3), (46, .aload_n 0, 1), (47, .getfield 47, 3), (50, .ireturn, 1)]
set_option maxRecDepth 20000 in
theorem eX11_feed : zq_dec tX11_feed cX11_feed := by unfold zq_dec; decide +kernel
abbrev YX11_next : zq_Y := (yX11_next, cX11_next, 1, some .int)
def tX11_next : List (Nat × Instr × Nat) := [(0, .aload_n 0, 1), (1, .getfield 50, 3), (4, .aload_n 0, 1), (5, .getfield 47, 3), (8, .if_icmp .ge 15, 3), (11, .aload_n 0, 1), (12, .getfield 56, 3), (15, .aload_n 0, 1), (16, .getfield 50, 3), (19, .iaload, 1), (20, .goto 4, 3), (23, .iconst (-1), 1), (24, .ireturn, 1)]
set_option maxRecDepth 20000 in
theorem eX11_next : zq_dec tX11_next cX11_next := by unfold zq_dec; decide +kernel
abbrev YX11_takes : zq_Y := (yX11_takes, cX11_takes, 2, some .boolean)
def tX11_takes : List (Nat × Instr × Nat) := [(0, .aload_n 0, 1), (1, .invokevirtual 262, 3), (4, .iload_n 1, 1), (5, .if_icmp .eq 5, 3), (8, .iconst 0, 1), (9, .ireturn, 1), (10, .aload_n 0, 1), (11, .dup, 1), (12, .getfield 50, 3), (15, .iconst 1, 1), (16, .iadd, 1), (17, .putfield 50, 3), (20, .iconst 1, 1), (21, .ireturn, 1)]
set_option maxRecDepth 20000 in
theorem eX11_takes : zq_dec tX11_takes cX11_takes := by unfold zq_dec; decide +kernel
abbrev YX11_takesWord : zq_Y := (yX11_takesWord, cX11_takesWord, 4, some .boolean)
def tX11_takesWord : List (Nat × Instr × Nat) := [(0, .iconst 0, 1), (1, .istore_n 3, 1), (2, .iload_n 3, 1), (3, .iload_n 2, 1), (4, .if_icmp .ge 26, 3), (7, .aload_n 0, 1), (8, .aload_n 0, 1), (9, .getfield 89, 3), (12, .iload_n 1, 1), (13, .iload_n 3, 1), (14, .iadd, 1), (15, .iaload, 1), (16, .invokevirtual 265, 3), (19, .ifCond .ne 5, 3), (22, .iconst 0, 1), (23, .ireturn, 1), (24, .iinc 3 1, 3), (27, .goto (-25), 3), (30, .aload_n 0, 1), (31, .bipush 32, 2), (33, .invokevirtual 265, 3), (36, .ireturn, 1)]
set_option maxRecDepth 20000 in
theorem eX11_takesWord : zq_dec tX11_takesWord cX11_takesWord := by unfold zq_dec; decide +kernel
abbrev YX11_isDigit : zq_Y := (yX11_isDigit, cX11_isDigit, 1, some .boolean)
def tX11_isDigit : List (Nat × Instr × Nat) := [(0, .aload_n 0, 1), (1, .aload_n 0, 1), (2, .invokevirtual 262, 3), (5, .bipush 48, 2), (7, .bipush 57, 2), (9, .invokevirtual 217, 3), (12, .ireturn, 1)]
set_option maxRecDepth 20000 in
theorem eX11_isDigit : zq_dec tX11_isDigit cX11_isDigit := by unfold zq_dec; decide +kernel
abbrev YX11_takesNumber : zq_Y := (yX11_takesNumber, cX11_takesNumber, 2, some .boolean)
def tX11_takesNumber : List (Nat × Instr × Nat) := [(0, .aload_n 0, 1), (1, .invokevirtual 268, 3), (4, .ifCond .ne 5, 3), (7, .iconst 0, 1), (8, .ireturn, 1), (9, .aload_n 0, 1), (10, .iconst 0, 1), (11, .putfield 53, 3), (14, .iconst 0, 1), (15, .istore_n 1, 1), (16, .iload_n 1, 1), (17, .iconst 2, 1), (18, .if_icmp .ge 45, 3), (21, .aload_n 0, 1), (22, .invokevirtual 268, 3), (25, .ifCond .eq 38, 3), (28, .aload_n 0, 1), (29, .bipush 10, 2), (31, .aload_n 0, 1), (32, .getfield 53, 3), (35, .imul, 1), (36, .aload_n 0, 1), (37, .invokevirtual 262, 3), (40, .iadd, 1), (41, .bipush 48, 2), (43, .isub, 1), (44, .putfield 53, 3), (47, .aload_n 0, 1), (48, .dup, 1), (49, .getfield 50, 3), (52, .iconst 1, 1), (53, .iadd, 1), (54, .putfield 50, 3), (57, .iinc 1 1, 3), (60, .goto (-44), 3), (63, .iconst 1, 1), (64, .ireturn, 1)]
set_option maxRecDepth 20000 in
theorem eX11_takesNumber : zq_dec tX11_takesNumber cX11_takesNumber := by unfold zq_dec; decide +kernel
abbrev YX11_put : zq_Y := (yX11_put, cX11_put, 2, none)
def tX11_put : List (Nat × Instr × Nat) := [(0, .aload_n 0, 1), (1, .getfield 74, 3), (4, .aload_n 0, 1), (5, .getfield 80, 3), (8, .iload_n 1, 1), (9, .iastore, 1), (10, .aload_n 0, 1), (11, .dup, 1), (12, .getfield 80, 3), (15, .iconst 1, 1), (16, .iadd, 1), (17, .putfield 80, 3), (20, .return_, 1)]
set_option maxRecDepth 20000 in
theorem eX11_put : zq_dec tX11_put cX11_put := by unfold zq_dec; decide +kernel
abbrev YX11_whole : zq_Y := (yX11_whole, cX11_whole, 1, none)
def tX11_whole : List (Nat × Instr × Nat) := [(0, .aload_n 0, 1), (1, .getfield 83, 3), (4, .ifCond .le 48, 3), (7, .aload_n 0, 1), (8, .getfield 77, 3), (11, .aload_n 0, 1), (12, .getfield 83, 3), (15, .iconst 1, 1), (16, .isub, 1), (17, .iaload, 1), (18, .bipush 33, 2), (20, .if_icmp .ne 32, 3), (23, .aload_n 0, 1), (24, .bipush (-33), 2), (26, .invokevirtual 272, 3), (29, .aload_n 0, 1), (30, .dup, 1), (31, .getfield 83, 3), (34, .iconst 1, 1), (35, .isub, 1), (36, .putfield 83, 3), (39, .aload_n 0, 1), (40, .dup, 1), (41, .getfield 86, 3), (44, .iconst 1, 1), (45, .isub, 1), (46, .putfield 86, 3), (49, .goto (-49), 3), (52, .return_, 1)]
set_option maxRecDepth 20000 in
theorem eX11_whole : zq_dec tX11_whole cX11_whole := by unfold zq_dec; decide +kernel
abbrev YX11_settle : zq_Y := (yX11_settle, cX11_settle, 2, none)
def tX11_settle : List (Nat × Instr × Nat) := [(0, .aload_n 0, 1), (1, .getfield 83, 3), (4, .ifCond .le 68, 3), (7, .aload_n 0, 1), (8, .getfield 77, 3), (11, .aload_n 0, 1), (12, .getfield 83, 3), (15, .iconst 1, 1), (16, .isub, 1), (17, .iaload, 1), (18, .bipush 38, 2), (20, .if_icmp .eq 25, 3), (23, .aload_n 0, 1), (24, .getfield 77, 3), (27, .aload_n 0, 1), (28, .getfield 83, 3), (31, .iconst 1, 1), (32, .isub, 1), (33, .iaload, 1), (34, .bipush 124, 2), (36, .if_icmp .ne 36, 3), (39, .iload_n 1, 1), (40, .bipush 38, 2), (42, .if_icmp .eq 30, 3), (45, .aload_n 0, 1), (46, .dup, 1), (47, .getfield 83, 3), (50, .iconst 1, 1), (51, .isub, 1), (52, .putfield 83, 3), (55, .aload_n 0, 1), (56, .aload_n 0, 1), (57, .getfield 77, 3), (60, .aload_n 0, 1), (61, .getfield 83, 3), (64, .iaload, 1), (65, .ineg, 1), (66, .invokevirtual 272, 3), (69, .goto (-69), 3), (72, .return_, 1)]
set_option maxRecDepth 20000 in
theorem eX11_settle : zq_dec tX11_settle cX11_settle := by unfold zq_dec; decide +kernel
abbrev YX11_place : zq_Y := (yX11_place, cX11_place, 2, some .int)
def tX11_place : List (Nat × Instr × Nat) := [(0, .iload_n 1, 1), (1, .tableswitch 107 97 116 #[99, 107, 107, 107, 107, 107, 107, 107, 107, 107, 103, 107, 107, 101, 107, 95, 107, 97, 107, 105], 95), (96, .iconst 0, 1), (97, .ireturn, 1), (98, .iconst 1, 1), (99, .ireturn, 1), (100, .iconst 2, 1), (101, .ireturn, 1), (102, .iconst 3, 1), (103, .ireturn, 1), (104, .iconst 4, 1), (105, .ireturn, 1), (106, .iconst 5, 1), (107, .ireturn, 1), (108, .iconst (-1), 1), (109, .ireturn, 1)]
set_option maxRecDepth 20000 in
theorem eX11_place : zq_dec tX11_place cX11_place := by unfold zq_dec; decide +kernel
abbrev YX11_takesTest : zq_Y := (yX11_takesTest, cX11_takesTest, 3, some .boolean)
def tX11_takesTest : List (Nat × Instr × Nat) := [(0, .aload_n 0, 1), (1, .aload_n 0, 1), (2, .invokevirtual 262, 3), (5, .invokevirtual 276, 3), (8, .istore_n 1, 1), (9, .iload_n 1, 1), (10, .ifCond .ge 5, 3), (13, .iconst 0, 1), (14, .ireturn, 1), (15, .aload_n 0, 1), (16, .dup, 1), (17, .getfield 50, 3), (20, .iconst 1, 1), (21, .iadd, 1), (22, .putfield 50, 3), (25, .aload_n 0, 1), (26, .invokevirtual 262, 3), (29, .istore_n 2, 1), (30, .aload_n 0, 1), (31, .iload_n 2, 1), (32, .bipush 60, 2), (34, .bipush 62, 2), (36, .invokevirtual 217, 3), (39, .ifCond .ne 5, 3), (42, .iconst 0, 1), (43, .ireturn, 1), (44, .aload_n 0, 1), (45, .dup, 1), (46, .getfield 50, 3), (49, .iconst 1, 1), (50, .iadd, 1), (51, .putfield 50, 3), (54, .aload_n 0, 1), (55, .invokevirtual 280, 3), (58, .ifCond .ne 5, 3), (61, .iconst 0, 1), (62, .ireturn, 1), (63, .aload_n 0, 1), (64, .sipush 1000, 3), (67, .iload_n 1, 1), (68, .imul, 1), (69, .bipush 100, 2), (71, .iload_n 2, 1), (72, .bipush 60, 2), (74, .isub, 1), (75, .imul, 1), (76, .iadd, 1), (77, .aload_n 0, 1), (78, .getfield 53, 3), (81, .iadd, 1), (82, .invokevirtual 272, 3), (85, .aload_n 0, 1), (86, .invokevirtual 283, 3), (89, .iconst 1, 1), (90, .ireturn, 1)]
set_option maxRecDepth 20000 in
theorem eX11_takesTest : zq_dec tX11_takesTest cX11_takesTest := by unfold zq_dec; decide +kernel
abbrev YX11_takesE : zq_Y := (yX11_takesE, cX11_takesE, 4, some .boolean)
def tX11_takesE : List (Nat × Instr × Nat) := [(0, .aload_n 0, 1), (1, .iconst 0, 1), (2, .putfield 83, 3), (5, .aload_n 0, 1), (6, .iconst 0, 1), (7, .putfield 86, 3), (10, .aload_n 0, 1), (11, .getfield 68, 3), (14, .iload_n 1, 1), (15, .aload_n 0, 1), (16, .getfield 80, 3), (19, .iastore, 1), (20, .iconst 1, 1), (21, .istore_n 2, 1), (22, .aload_n 0, 1), (23, .invokevirtual 262, 3), (26, .istore_n 3, 1), (27, .iload_n 2, 1), (28, .ifCond .eq 82, 3), (31, .iload_n 3, 1), (32, .bipush 33, 2), (34, .if_icmp .eq 9, 3), (37, .iload_n 3, 1), (38, .bipush 40, 2), (40, .if_icmp .ne 56, 3), (43, .aload_n 0, 1), (44, .getfield 86, 3), (47, .iconst 4, 1), (48, .if_icmp .ne 5, 3), (51, .iconst 0, 1), (52, .ireturn, 1), (53, .aload_n 0, 1), (54, .dup, 1), (55, .getfield 86, 3), (58, .iconst 1, 1), (59, .iadd, 1), (60, .putfield 86, 3), (63, .aload_n 0, 1), (64, .getfield 77, 3), (67, .aload_n 0, 1), (68, .getfield 83, 3), (71, .iload_n 3, 1), (72, .iastore, 1), (73, .aload_n 0, 1), (74, .dup, 1), (75, .getfield 83, 3), (78, .iconst 1, 1), (79, .iadd, 1), (80, .putfield 83, 3), (83, .aload_n 0, 1), (84, .dup, 1), (85, .getfield 50, 3), (88, .iconst 1, 1), (89, .iadd, 1), (90, .putfield 50, 3), (93, .goto (-71), 3), (96, .aload_n 0, 1), (97, .invokevirtual 286, 3), (100, .ifCond .eq 8, 3), (103, .iconst 0, 1), (104, .istore_n 2, 1), (105, .goto (-83), 3), (108, .iconst 0, 1), (109, .ireturn, 1), (110, .iload_n 3, 1), (111, .bipush 38, 2), (113, .if_icmp .eq 9, 3), (116, .iload_n 3, 1), (117, .bipush 124, 2), (119, .if_icmp .ne 43, 3), (122, .aload_n 0, 1), (123, .iload_n 3, 1), (124, .invokevirtual 289, 3), (127, .aload_n 0, 1), (128, .getfield 77, 3), (131, .aload_n 0, 1), (132, .getfield 83, 3), (135, .iload_n 3, 1), (136, .iastore, 1), (137, .aload_n 0, 1), (138, .dup, 1), (139, .getfield 83, 3), (142, .iconst 1, 1), (143, .iadd, 1), (144, .putfield 83, 3), (147, .iconst 1, 1), (148, .istore_n 2, 1), (149, .aload_n 0, 1), (150, .dup, 1), (151, .getfield 50, 3), (154, .iconst 1, 1), (155, .iadd, 1), (156, .putfield 50, 3), (159, .goto (-137), 3), (162, .aload_n 0, 1), (163, .bipush 124, 2), (165, .invokevirtual 289, 3), (168, .aload_n 0, 1), (169, .getfield 71, 3), (172, .iload_n 1, 1), (173, .aload_n 0, 1), (174, .getfield 80, 3), (177, .iastore, 1), (178, .aload_n 0, 1), (179, .getfield 83, 3), (182, .ifCond .ne 5, 3), (185, .iconst 1, 1), (186, .ireturn, 1), (187, .iload_n 3, 1), (188, .bipush 41, 2), (190, .if_icmp .eq 5, 3), (193, .iconst 0, 1), (194, .ireturn, 1), (195, .aload_n 0, 1), (196, .dup, 1), (197, .getfield 83, 3), (200, .iconst 1, 1), (201, .isub, 1), (202, .putfield 83, 3), (205, .aload_n 0, 1), (206, .dup, 1), (207, .getfield 86, 3), (210, .iconst 1, 1), (211, .isub, 1), (212, .putfield 86, 3), (215, .aload_n 0, 1), (216, .dup, 1), (217, .getfield 50, 3), (220, .iconst 1, 1), (221, .iadd, 1), (222, .putfield 50, 3), (225, .aload_n 0, 1), (226, .invokevirtual 283, 3), (229, .goto (-207), 3)]
set_option maxRecDepth 20000 in
theorem eX11_takesE : zq_dec tX11_takesE cX11_takesE := by unfold zq_dec; decide +kernel
abbrev YX11_takesHead : zq_Y := (yX11_takesHead, cX11_takesHead, 2, some .boolean)
def tX11_takesHead : List (Nat × Instr × Nat) := [(0, .aload_n 0, 1), (1, .invokevirtual 262, 3), (4, .lookupswitch 79 #[(98, 50), (112, 36), (119, 64)], 36), (40, .aload_n 0, 1), (41, .getfield 62, 3), (44, .iload_n 1, 1), (45, .iconst 0, 1), (46, .iastore, 1), (47, .aload_n 0, 1), (48, .iconst 0, 1), (49, .iconst 5, 1), (50, .invokevirtual 292, 3), (53, .ireturn, 1), (54, .aload_n 0, 1), (55, .getfield 62, 3), (58, .iload_n 1, 1), (59, .iconst 1, 1), (60, .iastore, 1), (61, .aload_n 0, 1), (62, .iconst 5, 1), (63, .iconst 3, 1), (64, .invokevirtual 292, 3), (67, .ireturn, 1), (68, .aload_n 0, 1), (69, .getfield 62, 3), (72, .iload_n 1, 1), (73, .iconst 2, 1), (74, .iastore, 1), (75, .aload_n 0, 1), (76, .bipush 8, 2), (78, .iconst 5, 1), (79, .invokevirtual 292, 3), (82, .ireturn, 1), (83, .aload_n 0, 1), (84, .getfield 62, 3), (87, .iload_n 1, 1), (88, .iconst 3, 1), (89, .iastore, 1), (90, .aload_n 0, 1), (91, .bipush 13, 2), (93, .iconst 4, 1), (94, .invokevirtual 292, 3), (97, .ireturn, 1)]
set_option maxRecDepth 20000 in
theorem eX11_takesHead : zq_dec tX11_takesHead cX11_takesHead := by unfold zq_dec; decide +kernel
abbrev YX11_takesClause : zq_Y := (yX11_takesClause, cX11_takesClause, 2, some .boolean)
def tX11_takesClause : List (Nat × Instr × Nat) := [(0, .aload_n 0, 1), (1, .iload_n 1, 1), (2, .invokevirtual 296, 3), (5, .ifCond .ne 5, 3), (8, .iconst 0, 1), (9, .ireturn, 1), (10, .aload_n 0, 1), (11, .getfield 62, 3), (14, .iload_n 1, 1), (15, .iaload, 1), (16, .iconst 1, 1), (17, .if_icmp .ne 9, 3), (20, .aload_n 0, 1), (21, .iload_n 1, 1), (22, .invokevirtual 299, 3), (25, .ireturn, 1), (26, .aload_n 0, 1), (27, .invokevirtual 280, 3), (30, .ifCond .ne 5, 3), (33, .iconst 0, 1), (34, .ireturn, 1), (35, .aload_n 0, 1), (36, .getfield 65, 3), (39, .iload_n 1, 1), (40, .aload_n 0, 1), (41, .getfield 53, 3), (44, .iastore, 1), (45, .aload_n 0, 1), (46, .getfield 62, 3), (49, .iload_n 1, 1), (50, .iaload, 1), (51, .iconst 3, 1), (52, .if_icmp .eq 20, 3), (55, .aload_n 0, 1), (56, .bipush 32, 2), (58, .invokevirtual 265, 3), (61, .ifCond .eq 15, 3), (64, .aload_n 0, 1), (65, .iload_n 1, 1), (66, .invokevirtual 299, 3), (69, .ifCond .eq 7, 3), (72, .iconst 1, 1), (73, .goto 4, 3), (76, .iconst 0, 1), (77, .ireturn, 1)]
set_option maxRecDepth 20000 in
theorem eX11_takesClause : zq_dec tX11_takesClause cX11_takesClause := by unfold zq_dec; decide +kernel
abbrev YX11_goesText : zq_Y := (yX11_goesText, cX11_goesText, 3, some .boolean)
def tX11_goesText : List (Nat × Instr × Nat) := [(0, .aload_n 0, 1), (1, .iconst 0, 1), (2, .putfield 50, 3), (5, .aload_n 0, 1), (6, .bipush 100, 2), (8, .iload_n 1, 1), (9, .imul, 1), (10, .putfield 80, 3), (13, .iconst 0, 1), (14, .istore_n 2, 1), (15, .aload_n 0, 1), (16, .bipush 10, 2), (18, .iload_n 1, 1), (19, .imul, 1), (20, .iload_n 2, 1), (21, .iadd, 1), (22, .invokevirtual 302, 3), (25, .ifCond .ne 5, 3), (28, .iconst 0, 1), (29, .ireturn, 1), (30, .iinc 2 1, 3), (33, .aload_n 0, 1), (34, .getfield 59, 3), (37, .iload_n 1, 1), (38, .iload_n 2, 1), (39, .iastore, 1), (40, .aload_n 0, 1), (41, .getfield 50, 3), (44, .aload_n 0, 1), (45, .getfield 47, 3), (48, .if_icmp .ne 5, 3), (51, .iconst 1, 1), (52, .ireturn, 1), (53, .iload_n 2, 1), (54, .bipush 10, 2), (56, .if_icmp .eq 12, 3), (59, .aload_n 0, 1), (60, .bipush 59, 2), (62, .invokevirtual 265, 3), (65, .ifCond .ne (-50), 3), (68, .iconst 0, 1), (69, .ireturn, 1)]
set_option maxRecDepth 20000 in
theorem eX11_goesText : zq_dec tX11_goesText cX11_goesText := by unfold zq_dec; decide +kernel
abbrev YX11_house : zq_Y := (yX11_house, cX11_house, 2, some .int)
def tX11_house : List (Nat × Instr × Nat) := [(0, .aload_n 0, 1), (1, .getfield 41, 3), (4, .bipush 6, 2), (6, .if_icmp .ne 6, 3), (9, .bipush (-4), 2), (11, .ireturn, 1), (12, .aload_n 0, 1), (13, .aload_n 0, 1), (14, .getfield 41, 3), (17, .invokevirtual 305, 3), (20, .istore_n 1, 1), (21, .aload_n 0, 1), (22, .iconst 0, 1), (23, .putfield 47, 3), (26, .iload_n 1, 1), (27, .ifCond .ne 11, 3), (30, .bipush (-10), 2), (32, .aload_n 0, 1), (33, .getfield 50, 3), (36, .isub, 1), (37, .ireturn, 1), (38, .aload_n 0, 1), (39, .aload_n 0, 1), (40, .getfield 41, 3), (43, .putfield 44, 3), (46, .aload_n 0, 1), (47, .dup, 1), (48, .getfield 41, 3), (51, .iconst 1, 1), (52, .iadd, 1), (53, .putfield 41, 3), (56, .aload_n 0, 1), (57, .getfield 44, 3), (60, .ireturn, 1)]
set_option maxRecDepth 20000 in
theorem eX11_house : zq_dec tX11_house cX11_house := by unfold zq_dec; decide +kernel
abbrev YX11_first : zq_Y := (yX11_first, cX11_first, 1, some .int)
def tX11_first : List (Nat × Instr × Nat) := [(0, .aload_n 0, 1), (1, .getfield 44, 3), (4, .ifCond .ge 7, 3), (7, .iconst 0, 1), (8, .goto 10, 3), (11, .bipush 10, 2), (13, .aload_n 0, 1), (14, .getfield 44, 3), (17, .imul, 1), (18, .ireturn, 1)]
set_option maxRecDepth 20000 in
theorem eX11_first : zq_dec tX11_first cX11_first := by unfold zq_dec; decide +kernel
abbrev YX11_behind : zq_Y := (yX11_behind, cX11_behind, 1, some .int)
def tX11_behind : List (Nat × Instr × Nat) := [(0, .aload_n 0, 1), (1, .getfield 44, 3), (4, .ifCond .ge 7, 3), (7, .iconst 0, 1), (8, .goto 20, 3), (11, .bipush 10, 2), (13, .aload_n 0, 1), (14, .getfield 44, 3), (17, .imul, 1), (18, .aload_n 0, 1), (19, .getfield 59, 3), (22, .aload_n 0, 1), (23, .getfield 44, 3), (26, .iaload, 1), (27, .iadd, 1), (28, .ireturn, 1)]
set_option maxRecDepth 20000 in
theorem eX11_behind : zq_dec tX11_behind cX11_behind := by unfold zq_dec; decide +kernel
abbrev YX11_sameNow : zq_Y := (yX11_sameNow, cX11_sameNow, 3, some .int)
def tX11_sameNow : List (Nat × Instr × Nat) := [(0, .iconst 0, 1), (1, .istore_n 1, 1), (2, .aload_n 0, 1), (3, .invokevirtual 308, 3), (6, .istore_n 2, 1), (7, .iload_n 2, 1), (8, .aload_n 0, 1), (9, .invokevirtual 311, 3), (12, .if_icmp .ge 30, 3), (15, .aload_n 0, 1), (16, .getfield 62, 3), (19, .iload_n 2, 1), (20, .iaload, 1), (21, .iconst 3, 1), (22, .if_icmp .ne 12, 3), (25, .aload_n 0, 1), (26, .getfield 65, 3), (29, .iload_n 2, 1), (30, .iaload, 1), (31, .goto 4, 3), (34, .iload_n 1, 1), (35, .istore_n 1, 1), (36, .iinc 2 1, 3), (39, .goto (-32), 3), (42, .iload_n 1, 1), (43, .ireturn, 1)]
set_option maxRecDepth 20000 in
theorem eX11_sameNow : zq_dec tX11_sameNow cX11_sameNow := by unfold zq_dec; decide +kernel
abbrev YX11_told : zq_Y := (yX11_told, cX11_told, 2, some .int)
def tX11_told : List (Nat × Instr × Nat) := [(0, .iload_n 1, 1), (1, .ifCond .ne 10, 3), (4, .aload_n 0, 1), (5, .invokevirtual 252, 3), (8, .goto 28, 3), (11, .iload_n 1, 1), (12, .iconst 1, 1), (13, .if_icmp .ne 10, 3), (16, .aload_n 0, 1), (17, .getfield 16, 3), (20, .goto 16, 3), (23, .iload_n 1, 1), (24, .iconst 2, 1), (25, .if_icmp .ne 10, 3), (28, .aload_n 0, 1), (29, .getfield 19, 3), (32, .goto 4, 3), (35, .iconst (-1), 1), (36, .ireturn, 1)]
set_option maxRecDepth 20000 in
theorem eX11_told : zq_dec tX11_told cX11_told := by unfold zq_dec; decide +kernel
abbrev YX11_factOf : zq_Y := (yX11_factOf, cX11_factOf, 6, some .int)
def tX11_factOf : List (Nat × Instr × Nat) := [(0, .iload_n 1, 1), (1, .tableswitch 69 0 4 #[35, 37, 39, 49, 52], 35), (36, .iload_n 2, 1), (37, .ireturn, 1), (38, .iload_n 3, 1), (39, .ireturn, 1), (40, .aload_n 0, 1), (41, .getfield 22, 3), (44, .iload_n 2, 1), (45, .iaload, 1), (46, .bipush 10, 2), (48, .idiv, 1), (49, .ireturn, 1), (50, .iload 4, 2), (52, .ireturn, 1), (53, .iload_n 3, 1), (54, .iconst 3, 1), (55, .if_icmp .ne 8, 3), (58, .bipush 9, 2), (60, .goto 9, 3), (63, .aload_n 0, 1), (64, .getfield 32, 3), (67, .iload_n 3, 1), (68, .iaload, 1), (69, .ireturn, 1), (70, .iload 5, 2), (72, .ireturn, 1)]
set_option maxRecDepth 20000 in
theorem eX11_factOf : zq_dec tX11_factOf cX11_factOf := by unfold zq_dec; decide +kernel
abbrev YX11_holds : zq_Y := (yX11_holds, cX11_holds, 11, some .boolean)
def tX11_holds : List (Nat × Instr × Nat) := [(0, .iconst 0, 1), (1, .istore 6, 2), (3, .aload_n 0, 1), (4, .getfield 68, 3), (7, .iload_n 1, 1), (8, .iaload, 1), (9, .istore 7, 2), (11, .iload 7, 2), (13, .aload_n 0, 1), (14, .getfield 71, 3), (17, .iload_n 1, 1), (18, .iaload, 1), (19, .if_icmp .ge 238, 3), (22, .aload_n 0, 1), (23, .getfield 74, 3), (26, .iload 7, 2), (28, .iaload, 1), (29, .istore 8, 2), (31, .iload 8, 2), (33, .bipush (-33), 2), (35, .if_icmp .ne 32, 3), (38, .aload_n 0, 1), (39, .getfield 92, 3), (42, .iload 6, 2), (44, .iconst 1, 1), (45, .isub, 1), (46, .aload_n 0, 1), (47, .getfield 92, 3), (50, .iload 6, 2), (52, .iconst 1, 1), (53, .isub, 1), (54, .baload, 1), (55, .ifCond .ne 7, 3), (58, .iconst 1, 1), (59, .goto 4, 3), (62, .iconst 0, 1), (63, .bastore, 1), (64, .goto 187, 3), (67, .iload 8, 2), (69, .ifCond .ge 82, 3), (72, .iinc 6 (-1), 3), (75, .aload_n 0, 1), (76, .getfield 92, 3), (79, .iload 6, 2), (81, .iconst 1, 1), (82, .isub, 1), (83, .iload 8, 2), (85, .bipush (-38), 2), (87, .if_icmp .ne 33, 3), (90, .aload_n 0, 1), (91, .getfield 92, 3), (94, .iload 6, 2), (96, .iconst 1, 1), (97, .isub, 1), (98, .baload, 1), (99, .ifCond .eq 17, 3), (102, .aload_n 0, 1), (103, .getfield 92, 3), (106, .iload 6, 2), (108, .baload, 1), (109, .ifCond .eq 7, 3), (112, .iconst 1, 1), (113, .goto 34, 3), (116, .iconst 0, 1), (117, .goto 30, 3), (120, .aload_n 0, 1), (121, .getfield 92, 3), (124, .iload 6, 2), (126, .iconst 1, 1), (127, .isub, 1), (128, .baload, 1), (129, .ifCond .ne 13, 3), (132, .aload_n 0, 1), (133, .getfield 92, 3), (136, .iload 6, 2), (138, .baload, 1), (139, .ifCond .eq 7, 3), (142, .iconst 1, 1), (143, .goto 4, 3), (146, .iconst 0, 1), (147, .bastore, 1), (148, .goto 103, 3), (151, .aload_n 0, 1), (152, .iload 8, 2), (154, .sipush 1000, 3), (157, .idiv, 1), (158, .iload_n 2, 1), (159, .iload_n 3, 1), (160, .iload 4, 2), (162, .iload 5, 2), (164, .invokevirtual 314, 3), (167, .istore 9, 2), (169, .iload 8, 2), (171, .bipush 100, 2), (173, .idiv, 1), (174, .bipush 10, 2), (176, .irem, 1), (177, .istore 10, 2), (179, .aload_n 0, 1), (180, .getfield 92, 3), (183, .iload 6, 2), (185, .iload 10, 2), (187, .ifCond .ne 21, 3), (190, .iload 9, 2), (192, .iload 8, 2), (194, .bipush 100, 2), (196, .irem, 1), (197, .if_icmp .ge 7, 3), (200, .iconst 1, 1), (201, .goto 46, 3), (204, .iconst 0, 1), (205, .goto 42, 3), (208, .iload 10, 2), (210, .iconst 1, 1), (211, .if_icmp .ne 21, 3), (214, .iload 9, 2), (216, .iload 8, 2), (218, .bipush 100, 2), (220, .irem, 1), (221, .if_icmp .ne 7, 3), (224, .iconst 1, 1), (225, .goto 22, 3), (228, .iconst 0, 1), (229, .goto 18, 3), (232, .iload 9, 2), (234, .iload 8, 2), (236, .bipush 100, 2), (238, .irem, 1), (239, .if_icmp .le 7, 3), (242, .iconst 1, 1), (243, .goto 4, 3), (246, .iconst 0, 1), (247, .bastore, 1), (248, .iinc 6 1, 3), (251, .iinc 7 1, 3), (254, .goto (-243), 3), (257, .aload_n 0, 1), (258, .getfield 92, 3), (261, .iconst 0, 1), (262, .baload, 1), (263, .ireturn, 1)]
set_option maxRecDepth 20000 in
theorem eX11_holds : zq_dec tX11_holds cX11_holds := by unfold zq_dec; decide +kernel
abbrev YX11_sumOf : zq_Y := (yX11_sumOf, cX11_sumOf, 8, some .int)
def tX11_sumOf : List (Nat × Instr × Nat) := [(0, .iconst 0, 1), (1, .istore 6, 2), (3, .aload_n 0, 1), (4, .invokevirtual 308, 3), (7, .istore 7, 2), (9, .iload 7, 2), (11, .aload_n 0, 1), (12, .invokevirtual 311, 3), (15, .if_icmp .ge 51, 3), (18, .iload 6, 2), (20, .aload_n 0, 1), (21, .getfield 62, 3), (24, .iload 7, 2), (26, .iaload, 1), (27, .iload_n 1, 1), (28, .if_icmp .ne 28, 3), (31, .aload_n 0, 1), (32, .iload 7, 2), (34, .iload_n 2, 1), (35, .iload_n 3, 1), (36, .iload 4, 2), (38, .iload 5, 2), (40, .invokevirtual 318, 3), (43, .ifCond .eq 13, 3), (46, .aload_n 0, 1), (47, .getfield 65, 3), (50, .iload 7, 2), (52, .iaload, 1), (53, .goto 4, 3), (56, .iconst 0, 1), (57, .iadd, 1), (58, .istore 6, 2), (60, .iinc 7 1, 3), (63, .goto (-54), 3), (66, .iload 6, 2), (68, .ireturn, 1)]
set_option maxRecDepth 20000 in
theorem eX11_sumOf : zq_dec tX11_sumOf cX11_sumOf := by unfold zq_dec; decide +kernel
abbrev YX11_isBarred : zq_Y := (yX11_isBarred, cX11_isBarred, 5, some .boolean)
def tX11_isBarred : List (Nat × Instr × Nat) := [(0, .aload_n 0, 1), (1, .invokevirtual 308, 3), (4, .istore 4, 2), (6, .iload 4, 2), (8, .aload_n 0, 1), (9, .invokevirtual 311, 3), (12, .if_icmp .ge 36, 3), (15, .aload_n 0, 1), (16, .getfield 62, 3), (19, .iload 4, 2), (21, .iaload, 1), (22, .iconst 1, 1), (23, .if_icmp .ne 19, 3), (26, .aload_n 0, 1), (27, .iload 4, 2), (29, .iload_n 1, 1), (30, .iload_n 2, 1), (31, .iload_n 3, 1), (32, .bipush 99, 2), (34, .invokevirtual 318, 3), (37, .ifCond .eq 5, 3), (40, .iconst 1, 1), (41, .ireturn, 1), (42, .iinc 4 1, 3), (45, .goto (-39), 3), (48, .iconst 0, 1), (49, .ireturn, 1)]
set_option maxRecDepth 20000 in
theorem eX11_isBarred : zq_dec tX11_isBarred cX11_isBarred := by unfold zq_dec; decide +kernel
abbrev YX11_layComings : zq_Y := (yX11_layComings, cX11_layComings, 4, none)
def tX11_layComings : List (Nat × Instr × Nat) := [(0, .aload_n 0, 1), (1, .aload_n 0, 1), (2, .invokevirtual 252, 3), (5, .putfield 38, 3), (8, .iconst 0, 1), (9, .istore_n 1, 1), (10, .iload_n 1, 1), (11, .aload_n 0, 1), (12, .getfield 7, 3), (15, .if_icmp .ge 89, 3), (18, .iconst 0, 1), (19, .istore_n 2, 1), (20, .iload_n 2, 1), (21, .iconst 4, 1), (22, .if_icmp .ge 76, 3), (25, .iconst 1, 1), (26, .istore_n 3, 1), (27, .iload_n 3, 1), (28, .aload_n 0, 1), (29, .getfield 7, 3), (32, .if_icmp .gt 60, 3), (35, .aload_n 0, 1), (36, .getfield 96, 3), (39, .bipush 24, 2), (41, .iload_n 1, 1), (42, .imul, 1), (43, .bipush 6, 2), (45, .iload_n 2, 1), (46, .imul, 1), (47, .iadd, 1), (48, .iload_n 3, 1), (49, .iadd, 1), (50, .iconst 1, 1), (51, .aload_n 0, 1), (52, .iconst 0, 1), (53, .iload_n 1, 1), (54, .iload_n 2, 1), (55, .iload_n 3, 1), (56, .bipush 99, 2), (58, .invokevirtual 322, 3), (61, .iadd, 1), (62, .iastore, 1), (63, .aload_n 0, 1), (64, .getfield 99, 3), (67, .bipush 24, 2), (69, .iload_n 1, 1), (70, .imul, 1), (71, .bipush 6, 2), (73, .iload_n 2, 1), (74, .imul, 1), (75, .iadd, 1), (76, .iload_n 3, 1), (77, .iadd, 1), (78, .aload_n 0, 1), (79, .iload_n 1, 1), (80, .iload_n 2, 1), (81, .iload_n 3, 1), (82, .invokevirtual 325, 3), (85, .bastore, 1), (86, .iinc 3 1, 3), (89, .goto (-62), 3), (92, .iinc 2 1, 3), (95, .goto (-75), 3), (98, .iinc 1 1, 3), (101, .goto (-91), 3), (104, .return_, 1)]
set_option maxRecDepth 20000 in
theorem eX11_layComings : zq_dec tX11_layComings cX11_layComings := by unfold zq_dec; decide +kernel
abbrev YX11_comingOf : zq_Y := (yX11_comingOf, cX11_comingOf, 4, some .int)
def tX11_comingOf : List (Nat × Instr × Nat) := [(0, .bipush 24, 2), (2, .iload_n 2, 1), (3, .imul, 1), (4, .bipush 6, 2), (6, .iload_n 3, 1), (7, .imul, 1), (8, .iadd, 1), (9, .aload_n 0, 1), (10, .iload_n 1, 1), (11, .iload_n 3, 1), (12, .invokevirtual 243, 3), (15, .iadd, 1), (16, .iconst 1, 1), (17, .iadd, 1), (18, .ireturn, 1)]
set_option maxRecDepth 20000 in
theorem eX11_comingOf : zq_dec tX11_comingOf cX11_comingOf := by unfold zq_dec; decide +kernel
abbrev YX11_mayCome : zq_Y := (yX11_mayCome, cX11_mayCome, 4, some .boolean)
def tX11_mayCome : List (Nat × Instr × Nat) := [(0, .aload_n 0, 1), (1, .iload_n 1, 1), (2, .iload_n 2, 1), (3, .invokevirtual 221, 3), (6, .iload_n 3, 1), (7, .if_icmp .eq 22, 3), (10, .aload_n 0, 1), (11, .getfield 99, 3), (14, .aload_n 0, 1), (15, .iload_n 1, 1), (16, .iload_n 2, 1), (17, .iload_n 3, 1), (18, .invokevirtual 328, 3), (21, .baload, 1), (22, .ifCond .ne 7, 3), (25, .iconst 1, 1), (26, .goto 4, 3), (29, .iconst 0, 1), (30, .ireturn, 1)]
set_option maxRecDepth 20000 in
theorem eX11_mayCome : zq_dec tX11_mayCome cX11_mayCome := by unfold zq_dec; decide +kernel
abbrev YX11_coming : zq_Y := (yX11_coming, cX11_coming, 5, some .int)
def tX11_coming : List (Nat × Instr × Nat) := [(0, .aload_n 0, 1), (1, .iload_n 1, 1), (2, .invokevirtual 249, 3), (5, .ifCond .eq 21, 3), (8, .aload_n 0, 1), (9, .iload_n 2, 1), (10, .invokevirtual 225, 3), (13, .ifCond .eq 13, 3), (16, .aload_n 0, 1), (17, .iload_n 3, 1), (18, .iconst 0, 1), (19, .iconst 1, 1), (20, .invokevirtual 217, 3), (23, .ifCond .ne 5, 3), (26, .iconst (-1), 1), (27, .ireturn, 1), (28, .aload_n 0, 1), (29, .aload_n 0, 1), (30, .getfield 13, 3), (33, .iload_n 1, 1), (34, .invokevirtual 221, 3), (37, .iload_n 2, 1), (38, .if_icmp .ne 6, 3), (41, .bipush (-2), 2), (43, .ireturn, 1), (44, .aload_n 0, 1), (45, .aload_n 0, 1), (46, .getfield 13, 3), (49, .iload_n 2, 1), (50, .invokevirtual 243, 3), (53, .iconst 1, 1), (54, .iadd, 1), (55, .istore 4, 2), (57, .iload_n 3, 1), (58, .ifCond .ne 19, 3), (61, .iconst 1, 1), (62, .aload_n 0, 1), (63, .iconst 0, 1), (64, .iload_n 1, 1), (65, .iload_n 2, 1), (66, .iload 4, 2), (68, .bipush 99, 2), (70, .invokevirtual 322, 3), (73, .iadd, 1), (74, .goto 19, 3), (77, .aload_n 0, 1), (78, .iload_n 1, 1), (79, .iload_n 2, 1), (80, .iload 4, 2), (82, .invokevirtual 325, 3), (85, .ifCond .eq 7, 3), (88, .iconst 1, 1), (89, .goto 4, 3), (92, .iconst 0, 1), (93, .ireturn, 1)]
set_option maxRecDepth 20000 in
theorem eX11_coming : zq_dec tX11_coming cX11_coming := by unfold zq_dec; decide +kernel
abbrev YX11_come : zq_Y := (yX11_come, cX11_come, 5, some .int)
def tX11_come : List (Nat × Instr × Nat) := [(0, .aload_n 0, 1), (1, .iload_n 1, 1), (2, .invokevirtual 249, 3), (5, .ifCond .eq 11, 3), (8, .aload_n 0, 1), (9, .iload_n 2, 1), (10, .invokevirtual 225, 3), (13, .ifCond .ne 5, 3), (16, .iconst (-1), 1), (17, .ireturn, 1), (18, .aload_n 0, 1), (19, .aload_n 0, 1), (20, .getfield 13, 3), (23, .iload_n 1, 1), (24, .invokevirtual 221, 3), (27, .iload_n 2, 1), (28, .if_icmp .ne 6, 3), (31, .bipush (-2), 2), (33, .ireturn, 1), (34, .aload_n 0, 1), (35, .aload_n 0, 1), (36, .getfield 13, 3), (39, .iload_n 2, 1), (40, .invokevirtual 243, 3), (43, .iconst 1, 1), (44, .iadd, 1), (45, .istore_n 3, 1), (46, .aload_n 0, 1), (47, .getfield 16, 3), (50, .sipush 9999, 3), (53, .if_icmp .eq 13, 3), (56, .aload_n 0, 1), (57, .iload_n 1, 1), (58, .iload_n 2, 1), (59, .iload_n 3, 1), (60, .invokevirtual 325, 3), (63, .ifCond .eq 6, 3), (66, .bipush (-3), 2), (68, .ireturn, 1), (69, .iconst 1, 1), (70, .aload_n 0, 1), (71, .iconst 0, 1), (72, .iload_n 1, 1), (73, .iload_n 2, 1), (74, .iload_n 3, 1), (75, .bipush 99, 2), (77, .invokevirtual 322, 3), (80, .iadd, 1), (81, .istore 4, 2), (83, .aload_n 0, 1), (84, .aload_n 0, 1), (85, .getfield 19, 3), (88, .iload 4, 2), (90, .iadd, 1), (91, .sipush 9999, 3), (94, .if_icmp .le 9, 3), (97, .sipush 9999, 3), (100, .goto 10, 3), (103, .aload_n 0, 1), (104, .getfield 19, 3), (107, .iload 4, 2), (109, .iadd, 1), (110, .putfield 19, 3), (113, .aload_n 0, 1), (114, .aload_n 0, 1), (115, .aload_n 0, 1), (116, .getfield 13, 3), (119, .iload_n 1, 1), (120, .iload_n 2, 1), (121, .invokevirtual 229, 3), (124, .putfield 13, 3), (127, .aload_n 0, 1), (128, .dup, 1), (129, .getfield 16, 3), (132, .iconst 1, 1), (133, .iadd, 1), (134, .putfield 16, 3), (137, .iload 4, 2), (139, .ireturn, 1)]
set_option maxRecDepth 20000 in
theorem eX11_come : zq_dec tX11_come cX11_come := by unfold zq_dec; decide +kernel
abbrev YX11_said : zq_Y := (yX11_said, cX11_said, 7, some .int)
def tX11_said : List (Nat × Instr × Nat) := [(0, .aload_n 0, 1), (1, .aload_n 0, 1), (2, .getfield 13, 3), (5, .iload_n 1, 1), (6, .invokevirtual 221, 3), (9, .istore_n 3, 1), (10, .aload_n 0, 1), (11, .aload_n 0, 1), (12, .getfield 13, 3), (15, .iload_n 3, 1), (16, .invokevirtual 243, 3), (19, .istore 4, 2), (21, .iconst 0, 1), (22, .istore 5, 2), (24, .iconst 0, 1), (25, .istore 6, 2), (27, .iload 6, 2), (29, .aload_n 0, 1), (30, .getfield 7, 3), (33, .if_icmp .ge 70, 3), (36, .aload_n 0, 1), (37, .aload_n 0, 1), (38, .getfield 13, 3), (41, .iload 6, 2), (43, .invokevirtual 221, 3), (46, .iload_n 3, 1), (47, .if_icmp .ne 50, 3), (50, .aload_n 0, 1), (51, .aload_n 0, 1), (52, .getfield 29, 3), (55, .iload 6, 2), (57, .iaload, 1), (58, .iload_n 2, 1), (59, .invokevirtual 331, 3), (62, .ifCond .eq 6, 3), (65, .goto 32, 3), (68, .iload 5, 2), (70, .aload_n 0, 1), (71, .iconst 2, 1), (72, .iload 6, 2), (74, .iload_n 3, 1), (75, .iload 4, 2), (77, .iload_n 2, 1), (78, .invokevirtual 322, 3), (81, .iadd, 1), (82, .istore 5, 2), (84, .aload_n 0, 1), (85, .getfield 29, 3), (88, .iload 6, 2), (90, .dup2, 1), (91, .iaload, 1), (92, .iconst 1, 1), (93, .iload_n 2, 1), (94, .ishl, 1), (95, .ior, 1), (96, .iastore, 1), (97, .iinc 6 1, 3), (100, .goto (-73), 3), (103, .iload 5, 2), (105, .ireturn, 1)]
set_option maxRecDepth 20000 in
theorem eX11_said : zq_dec tX11_said cX11_said := by unfold zq_dec; decide +kernel
abbrev YX11_say : zq_Y := (yX11_say, cX11_say, 3, some .int)
def tX11_say : List (Nat × Instr × Nat) := [(0, .aload_n 0, 1), (1, .iload_n 1, 1), (2, .invokevirtual 249, 3), (5, .ifCond .eq 11, 3), (8, .aload_n 0, 1), (9, .iload_n 2, 1), (10, .invokevirtual 334, 3), (13, .ifCond .ne 7, 3), (16, .sipush (-10001), 3), (19, .ireturn, 1), (20, .aload_n 0, 1), (21, .aload_n 0, 1), (22, .invokevirtual 252, 3), (25, .putfield 38, 3), (28, .aload_n 0, 1), (29, .aload_n 0, 1), (30, .getfield 29, 3), (33, .iload_n 1, 1), (34, .iaload, 1), (35, .iload_n 2, 1), (36, .invokevirtual 331, 3), (39, .ifCond .eq 19, 3), (42, .aload_n 0, 1), (43, .aload_n 0, 1), (44, .getfield 13, 3), (47, .iload_n 1, 1), (48, .aload_n 0, 1), (49, .getfield 16, 3), (52, .invokevirtual 256, 3), (55, .ifCond .ne 9, 3), (58, .sipush (-10003), 3), (61, .goto 9, 3), (64, .aload_n 0, 1), (65, .iload_n 1, 1), (66, .iload_n 2, 1), (67, .invokevirtual 337, 3), (70, .ireturn, 1)]
set_option maxRecDepth 20000 in
theorem eX11_say : zq_dec tX11_say cX11_say := by unfold zq_dec; decide +kernel
abbrev YX11_places : zq_Y := (yX11_places, cX11_places, 1, some .int)
def tX11_places : List (Nat × Instr × Nat) := [(0, .iconst 1, 1), (1, .iconst 2, 1), (2, .aload_n 0, 1), (3, .getfield 7, 3), (6, .imul, 1), (7, .ishl, 1), (8, .ireturn, 1)]
set_option maxRecDepth 20000 in
theorem eX11_places : zq_dec tX11_places cX11_places := by unfold zq_dec; decide +kernel
abbrev YX11_beginAt : zq_Y := (yX11_beginAt, cX11_beginAt, 3, none)
def tX11_beginAt : List (Nat × Instr × Nat) := [(0, .iconst 0, 1), (1, .istore_n 2, 1), (2, .iload_n 2, 1), (3, .aload_n 0, 1), (4, .invokevirtual 340, 3), (7, .if_icmp .ge 16, 3), (10, .aload_n 0, 1), (11, .getfield 102, 3), (14, .iload_n 2, 1), (15, .iconst 0, 1), (16, .bastore, 1), (17, .iinc 2 1, 3), (20, .goto (-18), 3), (23, .aload_n 0, 1), (24, .getfield 102, 3), (27, .iload_n 1, 1), (28, .iconst 1, 1), (29, .bastore, 1), (30, .return_, 1)]
set_option maxRecDepth 20000 in
theorem eX11_beginAt : zq_dec tX11_beginAt cX11_beginAt := by unfold zq_dec; decide +kernel
abbrev YX11_goOn : zq_Y := (yX11_goOn, cX11_goOn, 4, none)
def tX11_goOn : List (Nat × Instr × Nat) := [(0, .iconst 0, 1), (1, .istore_n 1, 1), (2, .iload_n 1, 1), (3, .aload_n 0, 1), (4, .invokevirtual 340, 3), (7, .if_icmp .ge 16, 3), (10, .aload_n 0, 1), (11, .getfield 105, 3), (14, .iload_n 1, 1), (15, .iconst 0, 1), (16, .bastore, 1), (17, .iinc 1 1, 3), (20, .goto (-18), 3), (23, .iconst 0, 1), (24, .istore_n 1, 1), (25, .iload_n 1, 1), (26, .aload_n 0, 1), (27, .invokevirtual 340, 3), (30, .if_icmp .ge 70, 3), (33, .iconst 0, 1), (34, .istore_n 2, 1), (35, .iload_n 2, 1), (36, .aload_n 0, 1), (37, .getfield 7, 3), (40, .if_icmp .ge 54, 3), (43, .aload_n 0, 1), (44, .getfield 102, 3), (47, .iload_n 1, 1), (48, .baload, 1), (49, .ifCond .eq 45, 3), (52, .iconst 0, 1), (53, .istore_n 3, 1), (54, .iload_n 3, 1), (55, .iconst 4, 1), (56, .if_icmp .ge 32, 3), (59, .aload_n 0, 1), (60, .iload_n 1, 1), (61, .iload_n 2, 1), (62, .iload_n 3, 1), (63, .invokevirtual 343, 3), (66, .ifCond .eq 16, 3), (69, .aload_n 0, 1), (70, .getfield 105, 3), (73, .aload_n 0, 1), (74, .iload_n 1, 1), (75, .iload_n 2, 1), (76, .iload_n 3, 1), (77, .invokevirtual 229, 3), (80, .iconst 1, 1), (81, .bastore, 1), (82, .iinc 3 1, 3), (85, .goto (-31), 3), (88, .iinc 2 1, 3), (91, .goto (-56), 3), (94, .iinc 1 1, 3), (97, .goto (-72), 3), (100, .iconst 0, 1), (101, .istore_n 1, 1), (102, .iload_n 1, 1), (103, .aload_n 0, 1), (104, .invokevirtual 340, 3), (107, .if_icmp .ge 21, 3), (110, .aload_n 0, 1), (111, .getfield 102, 3), (114, .iload_n 1, 1), (115, .aload_n 0, 1), (116, .getfield 105, 3), (119, .iload_n 1, 1), (120, .baload, 1), (121, .bastore, 1), (122, .iinc 1 1, 3), (125, .goto (-23), 3), (128, .return_, 1)]
set_option maxRecDepth 20000 in
theorem eX11_goOn : zq_dec tX11_goOn cX11_goOn := by unfold zq_dec; decide +kernel
abbrev YX11_canSpeak : zq_Y := (yX11_canSpeak, cX11_canSpeak, 5, some .boolean)
def tX11_canSpeak : List (Nat × Instr × Nat) := [(0, .iconst 0, 1), (1, .istore 4, 2), (3, .iload 4, 2), (5, .aload_n 0, 1), (6, .invokevirtual 340, 3), (9, .if_icmp .ge 43, 3), (12, .aload_n 0, 1), (13, .getfield 102, 3), (16, .iload 4, 2), (18, .baload, 1), (19, .ifCond .eq 27, 3), (22, .aload_n 0, 1), (23, .iload 4, 2), (25, .iload_n 1, 1), (26, .invokevirtual 221, 3), (29, .iload_n 2, 1), (30, .if_icmp .ne 16, 3), (33, .aload_n 0, 1), (34, .iload 4, 2), (36, .iload_n 1, 1), (37, .iload_n 3, 1), (38, .invokevirtual 256, 3), (41, .ifCond .eq 5, 3), (44, .iconst 1, 1), (45, .ireturn, 1), (46, .iinc 4 1, 3), (49, .goto (-46), 3), (52, .iconst 0, 1), (53, .ireturn, 1)]
set_option maxRecDepth 20000 in
theorem eX11_canSpeak : zq_dec tX11_canSpeak cX11_canSpeak := by unfold zq_dec; decide +kernel
abbrev YX11_soonestOf : zq_Y := (yX11_soonestOf, cX11_soonestOf, 4, some .int)
def tX11_soonestOf : List (Nat × Instr × Nat) := [(0, .aload_n 0, 1), (1, .aload_n 0, 1), (2, .getfield 13, 3), (5, .invokevirtual 346, 3), (8, .iconst 0, 1), (9, .istore_n 3, 1), (10, .iload_n 3, 1), (11, .bipush 13, 2), (13, .if_icmp .ge 30, 3), (16, .aload_n 0, 1), (17, .iload_n 1, 1), (18, .iload_n 2, 1), (19, .aload_n 0, 1), (20, .getfield 16, 3), (23, .iload_n 3, 1), (24, .iadd, 1), (25, .invokevirtual 349, 3), (28, .ifCond .eq 5, 3), (31, .iload_n 3, 1), (32, .ireturn, 1), (33, .aload_n 0, 1), (34, .invokevirtual 352, 3), (37, .iinc 3 1, 3), (40, .goto (-30), 3), (43, .bipush (-5), 2), (45, .ireturn, 1)]
set_option maxRecDepth 20000 in
theorem eX11_soonestOf : zq_dec tX11_soonestOf cX11_soonestOf := by unfold zq_dec; decide +kernel
abbrev YX11_leadsBy : zq_Y := (yX11_leadsBy, cX11_leadsBy, 6, some .boolean)
def tX11_leadsBy : List (Nat × Instr × Nat) := [(0, .aload_n 0, 1), (1, .aload_n 0, 1), (2, .getfield 13, 3), (5, .iload_n 1, 1), (6, .iconst 4, 1), (7, .idiv, 1), (8, .iload_n 1, 1), (9, .iconst 4, 1), (10, .irem, 1), (11, .invokevirtual 343, 3), (14, .ifCond .ne 5, 3), (17, .iconst 0, 1), (18, .ireturn, 1), (19, .aload_n 0, 1), (20, .aload_n 0, 1), (21, .aload_n 0, 1), (22, .getfield 13, 3), (25, .iload_n 1, 1), (26, .iconst 4, 1), (27, .idiv, 1), (28, .iload_n 1, 1), (29, .iconst 4, 1), (30, .irem, 1), (31, .invokevirtual 229, 3), (34, .invokevirtual 346, 3), (37, .iconst 1, 1), (38, .istore 5, 2), (40, .iload 5, 2), (42, .iload 4, 2), (44, .if_icmp .ge 13, 3), (47, .aload_n 0, 1), (48, .invokevirtual 352, 3), (51, .iinc 5 1, 3), (54, .goto (-14), 3), (57, .aload_n 0, 1), (58, .iload_n 2, 1), (59, .iload_n 3, 1), (60, .aload_n 0, 1), (61, .getfield 16, 3), (64, .iload 4, 2), (66, .iadd, 1), (67, .invokevirtual 349, 3), (70, .ireturn, 1)]
set_option maxRecDepth 20000 in
theorem eX11_leadsBy : zq_dec tX11_leadsBy cX11_leadsBy := by unfold zq_dec; decide +kernel
abbrev YX11_soonest : zq_Y := (yX11_soonest, cX11_soonest, 6, some .int)
def tX11_soonest : List (Nat × Instr × Nat) := [(0, .aload_n 0, 1), (1, .iload_n 1, 1), (2, .invokevirtual 249, 3), (5, .ifCond .eq 21, 3), (8, .aload_n 0, 1), (9, .iload_n 2, 1), (10, .invokevirtual 259, 3), (13, .ifCond .eq 13, 3), (16, .aload_n 0, 1), (17, .iload_n 3, 1), (18, .iconst 0, 1), (19, .iconst 1, 1), (20, .invokevirtual 217, 3), (23, .ifCond .ne 5, 3), (26, .iconst (-1), 1), (27, .ireturn, 1), (28, .aload_n 0, 1), (29, .invokevirtual 355, 3), (32, .aload_n 0, 1), (33, .iload_n 1, 1), (34, .iload_n 2, 1), (35, .invokevirtual 358, 3), (38, .istore 4, 2), (40, .iload_n 3, 1), (41, .ifCond .ne 6, 3), (44, .iload 4, 2), (46, .ireturn, 1), (47, .iconst 0, 1), (48, .istore 5, 2), (50, .iload 5, 2), (52, .iconst 4, 1), (53, .aload_n 0, 1), (54, .getfield 7, 3), (57, .imul, 1), (58, .if_icmp .ge 30, 3), (61, .iload 4, 2), (63, .ifCond .le 25, 3), (66, .aload_n 0, 1), (67, .iload 5, 2), (69, .iload_n 1, 1), (70, .iload_n 2, 1), (71, .iload 4, 2), (73, .invokevirtual 361, 3), (76, .ifCond .eq 6, 3), (79, .iload 5, 2), (81, .ireturn, 1), (82, .iinc 5 1, 3), (85, .goto (-35), 3), (88, .bipush (-5), 2), (90, .ireturn, 1)]
set_option maxRecDepth 20000 in
theorem eX11_soonest : zq_dec tX11_soonest cX11_soonest := by unfold zq_dec; decide +kernel
abbrev YX11_goOnCheap : zq_Y := (yX11_goOnCheap, cX11_goOnCheap, 6, none)
def tX11_goOnCheap : List (Nat × Instr × Nat) := [(0, .iconst 0, 1), (1, .istore_n 1, 1), (2, .iload_n 1, 1), (3, .aload_n 0, 1), (4, .invokevirtual 340, 3), (7, .if_icmp .ge 16, 3), (10, .aload_n 0, 1), (11, .getfield 111, 3), (14, .iload_n 1, 1), (15, .iconst (-1), 1), (16, .iastore, 1), (17, .iinc 1 1, 3), (20, .goto (-18), 3), (23, .iconst 0, 1), (24, .istore_n 1, 1), (25, .iload_n 1, 1), (26, .aload_n 0, 1), (27, .invokevirtual 340, 3), (30, .if_icmp .ge 131, 3), (33, .iconst 0, 1), (34, .istore_n 2, 1), (35, .iload_n 2, 1), (36, .aload_n 0, 1), (37, .getfield 7, 3), (40, .if_icmp .ge 115, 3), (43, .aload_n 0, 1), (44, .getfield 108, 3), (47, .iload_n 1, 1), (48, .iaload, 1), (49, .ifCond .lt 106, 3), (52, .iconst 0, 1), (53, .istore_n 3, 1), (54, .iload_n 3, 1), (55, .iconst 4, 1), (56, .if_icmp .ge 93, 3), (59, .aload_n 0, 1), (60, .iload_n 1, 1), (61, .iload_n 2, 1), (62, .iload_n 3, 1), (63, .invokevirtual 343, 3), (66, .ifCond .ne 6, 3), (69, .goto 74, 3), (72, .aload_n 0, 1), (73, .iload_n 1, 1), (74, .iload_n 2, 1), (75, .iload_n 3, 1), (76, .invokevirtual 229, 3), (79, .istore 4, 2), (81, .aload_n 0, 1), (82, .getfield 108, 3), (85, .iload_n 1, 1), (86, .iaload, 1), (87, .aload_n 0, 1), (88, .getfield 96, 3), (91, .aload_n 0, 1), (92, .iload_n 1, 1), (93, .iload_n 2, 1), (94, .iload_n 3, 1), (95, .invokevirtual 328, 3), (98, .iaload, 1), (99, .iadd, 1), (100, .istore 5, 2), (102, .aload_n 0, 1), (103, .getfield 111, 3), (106, .iload 4, 2), (108, .aload_n 0, 1), (109, .getfield 111, 3), (112, .iload 4, 2), (114, .iaload, 1), (115, .ifCond .lt 15, 3), (118, .iload 5, 2), (120, .aload_n 0, 1), (121, .getfield 111, 3), (124, .iload 4, 2), (126, .iaload, 1), (127, .if_icmp .ge 8, 3), (130, .iload 5, 2), (132, .goto 10, 3), (135, .aload_n 0, 1), (136, .getfield 111, 3), (139, .iload 4, 2), (141, .iaload, 1), (142, .iastore, 1), (143, .iinc 3 1, 3), (146, .goto (-92), 3), (149, .iinc 2 1, 3), (152, .goto (-117), 3), (155, .iinc 1 1, 3), (158, .goto (-133), 3), (161, .iconst 0, 1), (162, .istore_n 1, 1), (163, .iload_n 1, 1), (164, .aload_n 0, 1), (165, .invokevirtual 340, 3), (168, .if_icmp .ge 21, 3), (171, .aload_n 0, 1), (172, .getfield 108, 3), (175, .iload_n 1, 1), (176, .aload_n 0, 1), (177, .getfield 111, 3), (180, .iload_n 1, 1), (181, .iaload, 1), (182, .iastore, 1), (183, .iinc 1 1, 3), (186, .goto (-23), 3), (189, .return_, 1)]
set_option maxRecDepth 20000 in
theorem eX11_goOnCheap : zq_dec tX11_goOnCheap cX11_goOnCheap := by unfold zq_dec; decide +kernel
abbrev YX11_cheapest : zq_Y := (yX11_cheapest, cX11_cheapest, 7, some .int)
def tX11_cheapest : List (Nat × Instr × Nat) := [(0, .aload_n 0, 1), (1, .iload_n 1, 1), (2, .invokevirtual 249, 3), (5, .ifCond .eq 11, 3), (8, .aload_n 0, 1), (9, .iload_n 2, 1), (10, .invokevirtual 259, 3), (13, .ifCond .ne 5, 3), (16, .iconst (-1), 1), (17, .ireturn, 1), (18, .aload_n 0, 1), (19, .iload_n 3, 1), (20, .iconst 0, 1), (21, .iconst 4, 1), (22, .invokevirtual 217, 3), (25, .ifCond .ne 6, 3), (28, .bipush (-2), 2), (30, .ireturn, 1), (31, .aload_n 0, 1), (32, .invokevirtual 355, 3), (35, .iconst 0, 1), (36, .istore 4, 2), (38, .iload 4, 2), (40, .aload_n 0, 1), (41, .invokevirtual 340, 3), (44, .if_icmp .ge 30, 3), (47, .aload_n 0, 1), (48, .getfield 108, 3), (51, .iload 4, 2), (53, .iload 4, 2), (55, .aload_n 0, 1), (56, .getfield 13, 3), (59, .if_icmp .ne 7, 3), (62, .iconst 0, 1), (63, .goto 4, 3), (66, .iconst (-1), 1), (67, .iastore, 1), (68, .iinc 4 1, 3), (71, .goto (-33), 3), (74, .bipush (-5), 2), (76, .istore 4, 2), (78, .iconst 0, 1), (79, .istore 5, 2), (81, .iload 5, 2), (83, .iload_n 3, 1), (84, .if_icmp .gt 103, 3), (87, .iload 5, 2), (89, .ifCond .le 7, 3), (92, .aload_n 0, 1), (93, .invokevirtual 364, 3), (96, .iconst 0, 1), (97, .istore 6, 2), (99, .iload 6, 2), (101, .aload_n 0, 1), (102, .invokevirtual 340, 3), (105, .if_icmp .ge 76, 3), (108, .aload_n 0, 1), (109, .getfield 108, 3), (112, .iload 6, 2), (114, .iaload, 1), (115, .ifCond .lt 60, 3), (118, .aload_n 0, 1), (119, .iload 6, 2), (121, .iload_n 1, 1), (122, .invokevirtual 221, 3), (125, .iload_n 2, 1), (126, .if_icmp .ne 49, 3), (129, .iload 4, 2), (131, .ifCond .lt 15, 3), (134, .aload_n 0, 1), (135, .getfield 108, 3), (138, .iload 6, 2), (140, .iaload, 1), (141, .iload 4, 2), (143, .if_icmp .ge 32, 3), (146, .aload_n 0, 1), (147, .iload 6, 2), (149, .iload_n 1, 1), (150, .aload_n 0, 1), (151, .getfield 16, 3), (154, .iload 5, 2), (156, .iadd, 1), (157, .invokevirtual 256, 3), (160, .ifCond .ne 6, 3), (163, .goto 12, 3), (166, .aload_n 0, 1), (167, .getfield 108, 3), (170, .iload 6, 2), (172, .iaload, 1), (173, .istore 4, 2), (175, .iinc 6 1, 3), (178, .goto (-79), 3), (181, .iinc 5 1, 3), (184, .goto (-103), 3), (187, .iload 4, 2), (189, .ireturn, 1)]
set_option maxRecDepth 20000 in
theorem eX11_cheapest : zq_dec tX11_cheapest cX11_cheapest := by unfold zq_dec; decide +kernel
abbrev YX11_never : zq_Y := (yX11_never, cX11_never, 5, some .int)
def tX11_never : List (Nat × Instr × Nat) := [(0, .aload_n 0, 1), (1, .iload_n 1, 1), (2, .invokevirtual 259, 3), (5, .ifCond .ne 5, 3), (8, .iconst (-1), 1), (9, .ireturn, 1), (10, .aload_n 0, 1), (11, .invokevirtual 355, 3), (14, .iconst 0, 1), (15, .istore_n 2, 1), (16, .aload_n 0, 1), (17, .aload_n 0, 1), (18, .getfield 13, 3), (21, .invokevirtual 346, 3), (24, .iconst 0, 1), (25, .istore_n 3, 1), (26, .iload_n 3, 1), (27, .bipush 13, 2), (29, .if_icmp .ge 72, 3), (32, .iload_n 3, 1), (33, .ifCond .le 7, 3), (36, .aload_n 0, 1), (37, .invokevirtual 352, 3), (40, .iconst 0, 1), (41, .istore 4, 2), (43, .iload 4, 2), (45, .aload_n 0, 1), (46, .getfield 7, 3), (49, .if_icmp .ge 46, 3), (52, .iload_n 2, 1), (53, .aload_n 0, 1), (54, .iload_n 2, 1), (55, .iload 4, 2), (57, .invokevirtual 331, 3), (60, .ifCond .ne 26, 3), (63, .aload_n 0, 1), (64, .iload 4, 2), (66, .iload_n 1, 1), (67, .aload_n 0, 1), (68, .getfield 16, 3), (71, .iload_n 3, 1), (72, .iadd, 1), (73, .invokevirtual 349, 3), (76, .ifCond .eq 10, 3), (79, .iconst 1, 1), (80, .iload 4, 2), (82, .ishl, 1), (83, .goto 4, 3), (86, .iconst 0, 1), (87, .ior, 1), (88, .istore_n 2, 1), (89, .iinc 4 1, 3), (92, .goto (-49), 3), (95, .iinc 3 1, 3), (98, .goto (-72), 3), (101, .iconst 1, 1), (102, .aload_n 0, 1), (103, .getfield 7, 3), (106, .ishl, 1), (107, .iconst 1, 1), (108, .isub, 1), (109, .iload_n 2, 1), (110, .iconst (-1), 1), (111, .ixor, 1), (112, .iand, 1), (113, .ireturn, 1)]
set_option maxRecDepth 20000 in
theorem eX11_never : zq_dec tX11_never cX11_never := by unfold zq_dec; decide +kernel
abbrev YX11_spread : zq_Y := (yX11_spread, cX11_spread, 7, some .int)
def tX11_spread : List (Nat × Instr × Nat) := [(0, .iload_n 2, 1), (1, .istore 4, 2), (3, .iconst 0, 1), (4, .istore 5, 2), (6, .iload 5, 2), (8, .aload_n 0, 1), (9, .getfield 7, 3), (12, .if_icmp .ge 81, 3), (15, .aload_n 0, 1), (16, .iload_n 2, 1), (17, .iload 5, 2), (19, .invokevirtual 331, 3), (22, .ifCond .eq 65, 3), (25, .aload_n 0, 1), (26, .iload_n 1, 1), (27, .iload 5, 2), (29, .iload_n 3, 1), (30, .invokevirtual 256, 3), (33, .ifCond .ne 6, 3), (36, .goto 51, 3), (39, .iconst 0, 1), (40, .istore 6, 2), (42, .iload 6, 2), (44, .aload_n 0, 1), (45, .getfield 7, 3), (48, .if_icmp .ge 39, 3), (51, .iload 4, 2), (53, .aload_n 0, 1), (54, .iload_n 1, 1), (55, .iload 6, 2), (57, .invokevirtual 221, 3), (60, .aload_n 0, 1), (61, .iload_n 1, 1), (62, .iload 5, 2), (64, .invokevirtual 221, 3), (67, .if_icmp .ne 10, 3), (70, .iconst 1, 1), (71, .iload 6, 2), (73, .ishl, 1), (74, .goto 4, 3), (77, .iconst 0, 1), (78, .ior, 1), (79, .istore 4, 2), (81, .iinc 6 1, 3), (84, .goto (-42), 3), (87, .iinc 5 1, 3), (90, .goto (-84), 3), (93, .iload 4, 2), (95, .ireturn, 1)]
set_option maxRecDepth 20000 in
theorem eX11_spread : zq_dec tX11_spread cX11_spread := by unfold zq_dec; decide +kernel
abbrev YX11_goOnKnown : zq_Y := (yX11_goOnKnown, cX11_goOnKnown, 6, none)
def tX11_goOnKnown : List (Nat × Instr × Nat) := [(0, .iconst 0, 1), (1, .istore_n 2, 1), (2, .iload_n 2, 1), (3, .bipush 32, 2), (5, .aload_n 0, 1), (6, .invokevirtual 340, 3), (9, .imul, 1), (10, .if_icmp .ge 16, 3), (13, .aload_n 0, 1), (14, .getfield 118, 3), (17, .iload_n 2, 1), (18, .iconst 0, 1), (19, .bastore, 1), (20, .iinc 2 1, 3), (23, .goto (-21), 3), (26, .iconst 0, 1), (27, .istore_n 2, 1), (28, .iload_n 2, 1), (29, .bipush 32, 2), (31, .aload_n 0, 1), (32, .invokevirtual 340, 3), (35, .imul, 1), (36, .if_icmp .ge 105, 3), (39, .aload_n 0, 1), (40, .getfield 115, 3), (43, .iload_n 2, 1), (44, .baload, 1), (45, .ifCond .ne 6, 3), (48, .goto 87, 3), (51, .iconst 0, 1), (52, .istore_n 3, 1), (53, .iload_n 3, 1), (54, .aload_n 0, 1), (55, .getfield 7, 3), (58, .if_icmp .ge 77, 3), (61, .iconst 0, 1), (62, .istore 4, 2), (64, .iload 4, 2), (66, .iconst 4, 1), (67, .if_icmp .ge 62, 3), (70, .aload_n 0, 1), (71, .iload_n 2, 1), (72, .bipush 32, 2), (74, .idiv, 1), (75, .iload_n 3, 1), (76, .iload 4, 2), (78, .invokevirtual 343, 3), (81, .ifCond .ne 6, 3), (84, .goto 39, 3), (87, .aload_n 0, 1), (88, .iload_n 2, 1), (89, .bipush 32, 2), (91, .idiv, 1), (92, .iload_n 3, 1), (93, .iload 4, 2), (95, .invokevirtual 229, 3), (98, .istore 5, 2), (100, .aload_n 0, 1), (101, .getfield 118, 3), (104, .bipush 32, 2), (106, .iload 5, 2), (108, .imul, 1), (109, .aload_n 0, 1), (110, .iload 5, 2), (112, .iload_n 2, 1), (113, .bipush 32, 2), (115, .irem, 1), (116, .iload_n 1, 1), (117, .invokevirtual 367, 3), (120, .iadd, 1), (121, .iconst 1, 1), (122, .bastore, 1), (123, .iinc 4 1, 3), (126, .goto (-62), 3), (129, .iinc 3 1, 3), (132, .goto (-79), 3), (135, .iinc 2 1, 3), (138, .goto (-110), 3), (141, .iconst 0, 1), (142, .istore_n 2, 1), (143, .iload_n 2, 1), (144, .bipush 32, 2), (146, .aload_n 0, 1), (147, .invokevirtual 340, 3), (150, .imul, 1), (151, .if_icmp .ge 21, 3), (154, .aload_n 0, 1), (155, .getfield 115, 3), (158, .iload_n 2, 1), (159, .aload_n 0, 1), (160, .getfield 118, 3), (163, .iload_n 2, 1), (164, .baload, 1), (165, .bastore, 1), (166, .iinc 2 1, 3), (169, .goto (-26), 3), (172, .return_, 1)]
set_option maxRecDepth 20000 in
theorem eX11_goOnKnown : zq_dec tX11_goOnKnown cX11_goOnKnown := by unfold zq_dec; decide +kernel
abbrev YX11_fewestBy : zq_Y := (yX11_fewestBy, cX11_fewestBy, 7, some .int)
def tX11_fewestBy : List (Nat × Instr × Nat) := [(0, .aload_n 0, 1), (1, .invokevirtual 355, 3), (4, .iconst 0, 1), (5, .istore 4, 2), (7, .iconst 0, 1), (8, .istore 5, 2), (10, .iload 5, 2), (12, .aload_n 0, 1), (13, .getfield 7, 3), (16, .if_icmp .ge 37, 3), (19, .iload 4, 2), (21, .aload_n 0, 1), (22, .aload_n 0, 1), (23, .getfield 29, 3), (26, .iload 5, 2), (28, .iaload, 1), (29, .iload_n 1, 1), (30, .invokevirtual 331, 3), (33, .ifCond .eq 10, 3), (36, .iconst 1, 1), (37, .iload 5, 2), (39, .ishl, 1), (40, .goto 4, 3), (43, .iconst 0, 1), (44, .ior, 1), (45, .istore 4, 2), (47, .iinc 5 1, 3), (50, .goto (-40), 3), (53, .iconst 0, 1), (54, .istore 5, 2), (56, .iload 5, 2), (58, .bipush 32, 2), (60, .aload_n 0, 1), (61, .invokevirtual 340, 3), (64, .imul, 1), (65, .if_icmp .ge 17, 3), (68, .aload_n 0, 1), (69, .getfield 115, 3), (72, .iload 5, 2), (74, .iconst 0, 1), (75, .bastore, 1), (76, .iinc 5 1, 3), (79, .goto (-23), 3), (82, .aload_n 0, 1), (83, .getfield 115, 3), (86, .bipush 32, 2), (88, .aload_n 0, 1), (89, .getfield 13, 3), (92, .imul, 1), (93, .aload_n 0, 1), (94, .aload_n 0, 1), (95, .getfield 13, 3), (98, .iload 4, 2), (100, .aload_n 0, 1), (101, .getfield 16, 3), (104, .invokevirtual 367, 3), (107, .iadd, 1), (108, .iconst 1, 1), (109, .bastore, 1), (110, .iconst 0, 1), (111, .istore 5, 2), (113, .iload 5, 2), (115, .bipush 7, 2), (117, .if_icmp .ge 106, 3), (120, .iconst 0, 1), (121, .istore 6, 2), (123, .iload 6, 2), (125, .bipush 32, 2), (127, .aload_n 0, 1), (128, .invokevirtual 340, 3), (131, .imul, 1), (132, .if_icmp .ge 65, 3), (135, .aload_n 0, 1), (136, .getfield 115, 3), (139, .iload 6, 2), (141, .baload, 1), (142, .ifCond .eq 49, 3), (145, .iload_n 2, 1), (146, .ifCond .ge 22, 3), (149, .iload 6, 2), (151, .bipush 32, 2), (153, .irem, 1), (154, .iconst 1, 1), (155, .aload_n 0, 1), (156, .getfield 7, 3), (159, .ishl, 1), (160, .iconst 1, 1), (161, .isub, 1), (162, .if_icmp .ne 29, 3), (165, .goto 23, 3), (168, .aload_n 0, 1), (169, .iload 6, 2), (171, .iload_n 2, 1), (172, .invokevirtual 331, 3), (175, .ifCond .eq 16, 3), (178, .aload_n 0, 1), (179, .iload 6, 2), (181, .iload_n 3, 1), (182, .invokevirtual 331, 3), (185, .ifCond .ne 6, 3), (188, .iload 5, 2), (190, .ireturn, 1), (191, .iinc 6 1, 3), (194, .goto (-71), 3), (197, .iload 5, 2), (199, .bipush 6, 2), (201, .if_icmp .ge 16, 3), (204, .aload_n 0, 1), (205, .aload_n 0, 1), (206, .getfield 16, 3), (209, .iload 5, 2), (211, .iadd, 1), (212, .iconst 1, 1), (213, .iadd, 1), (214, .invokevirtual 370, 3), (217, .iinc 5 1, 3), (220, .goto (-107), 3), (223, .bipush (-5), 2), (225, .ireturn, 1)]
set_option maxRecDepth 20000 in
theorem eX11_fewestBy : zq_dec tX11_fewestBy cX11_fewestBy := by unfold zq_dec; decide +kernel
abbrev YX11_heard : zq_Y := (yX11_heard, cX11_heard, 2, some .int)
def tX11_heard : List (Nat × Instr × Nat) := [(0, .aload_n 0, 1), (1, .iload_n 1, 1), (2, .invokevirtual 334, 3), (5, .ifCond .eq 13, 3), (8, .aload_n 0, 1), (9, .iload_n 1, 1), (10, .iconst (-1), 1), (11, .iconst (-1), 1), (12, .invokevirtual 373, 3), (15, .goto 4, 3), (18, .iconst (-1), 1), (19, .ireturn, 1)]
set_option maxRecDepth 20000 in
theorem eX11_heard : zq_dec tX11_heard cX11_heard := by unfold zq_dec; decide +kernel
abbrev YX11_secret : zq_Y := (yX11_secret, cX11_secret, 4, some .int)
def tX11_secret : List (Nat × Instr × Nat) := [(0, .aload_n 0, 1), (1, .iload_n 1, 1), (2, .invokevirtual 249, 3), (5, .ifCond .eq 19, 3), (8, .aload_n 0, 1), (9, .iload_n 2, 1), (10, .invokevirtual 249, 3), (13, .ifCond .eq 11, 3), (16, .aload_n 0, 1), (17, .iload_n 3, 1), (18, .invokevirtual 334, 3), (21, .ifCond .ne 5, 3), (24, .iconst (-1), 1), (25, .ireturn, 1), (26, .iload_n 1, 1), (27, .iload_n 2, 1), (28, .if_icmp .ne 6, 3), (31, .bipush (-2), 2), (33, .ireturn, 1), (34, .aload_n 0, 1), (35, .iload_n 3, 1), (36, .iload_n 1, 1), (37, .iload_n 2, 1), (38, .invokevirtual 373, 3), (41, .ireturn, 1)]
set_option maxRecDepth 20000 in
theorem eX11_secret : zq_dec tX11_secret cX11_secret := by unfold zq_dec; decide +kernel
abbrev YX11_isWon : zq_Y := (yX11_isWon, cX11_isWon, 7, some .boolean)
def tX11_isWon : List (Nat × Instr × Nat) := [(0, .iconst 0, 1), (1, .istore 5, 2), (3, .iconst 0, 1), (4, .istore 6, 2), (6, .iload 6, 2), (8, .aload_n 0, 1), (9, .getfield 7, 3), (12, .if_icmp .ge 45, 3), (15, .iload 5, 2), (17, .aload_n 0, 1), (18, .iload_n 1, 1), (19, .iload 6, 2), (21, .invokevirtual 221, 3), (24, .iload_n 2, 1), (25, .if_icmp .ne 22, 3), (28, .aload_n 0, 1), (29, .iload_n 1, 1), (30, .iload 6, 2), (32, .iload 4, 2), (34, .invokevirtual 256, 3), (37, .ifCond .eq 10, 3), (40, .iconst 1, 1), (41, .iload 6, 2), (43, .ishl, 1), (44, .goto 4, 3), (47, .iconst 0, 1), (48, .ior, 1), (49, .istore 5, 2), (51, .iinc 6 1, 3), (54, .goto (-48), 3), (57, .iload 5, 2), (59, .iload_n 3, 1), (60, .iand, 1), (61, .ifCond .eq 16, 3), (64, .iload 5, 2), (66, .iload_n 3, 1), (67, .iconst (-1), 1), (68, .ixor, 1), (69, .iand, 1), (70, .ifCond .ne 7, 3), (73, .iconst 1, 1), (74, .goto 4, 3), (77, .iconst 0, 1), (78, .ireturn, 1)]
set_option maxRecDepth 20000 in
theorem eX11_isWon : zq_dec tX11_isWon cX11_isWon := by unfold zq_dec; decide +kernel
abbrev YX11_mayTurn : zq_Y := (yX11_mayTurn, cX11_mayTurn, 3, some .boolean)
def tX11_mayTurn : List (Nat × Instr × Nat) := [(0, .iload_n 2, 1), (1, .ifCond .eq 21, 3), (4, .aload_n 0, 1), (5, .iload_n 1, 1), (6, .iload_n 2, 1), (7, .iconst 1, 1), (8, .isub, 1), (9, .iconst 4, 1), (10, .idiv, 1), (11, .iload_n 2, 1), (12, .iconst 1, 1), (13, .isub, 1), (14, .iconst 4, 1), (15, .irem, 1), (16, .invokevirtual 343, 3), (19, .ifCond .eq 7, 3), (22, .iconst 1, 1), (23, .goto 4, 3), (26, .iconst 0, 1), (27, .ireturn, 1)]
set_option maxRecDepth 20000 in
theorem eX11_mayTurn : zq_dec tX11_mayTurn cX11_mayTurn := by unfold zq_dec; decide +kernel
abbrev YX11_behindTurn : zq_Y := (yX11_behindTurn, cX11_behindTurn, 3, some .int)
def tX11_behindTurn : List (Nat × Instr × Nat) := [(0, .iload_n 2, 1), (1, .ifCond .ne 7, 3), (4, .iload_n 1, 1), (5, .goto 18, 3), (8, .aload_n 0, 1), (9, .iload_n 1, 1), (10, .iload_n 2, 1), (11, .iconst 1, 1), (12, .isub, 1), (13, .iconst 4, 1), (14, .idiv, 1), (15, .iload_n 2, 1), (16, .iconst 1, 1), (17, .isub, 1), (18, .iconst 4, 1), (19, .irem, 1), (20, .invokevirtual 229, 3), (23, .ireturn, 1)]
set_option maxRecDepth 20000 in
theorem eX11_behindTurn : zq_dec tX11_behindTurn cX11_behindTurn := by unfold zq_dec; decide +kernel
abbrev YX11_turns : zq_Y := (yX11_turns, cX11_turns, 1, some .int)
def tX11_turns : List (Nat × Instr × Nat) := [(0, .iconst 4, 1), (1, .aload_n 0, 1), (2, .getfield 7, 3), (5, .imul, 1), (6, .iconst 1, 1), (7, .iadd, 1), (8, .ireturn, 1)]
set_option maxRecDepth 20000 in
theorem eX11_turns : zq_dec tX11_turns cX11_turns := by unfold zq_dec; decide +kernel
abbrev YX11_winsThird : zq_Y := (yX11_winsThird, cX11_winsThird, 7, some .boolean)
def tX11_winsThird : List (Nat × Instr × Nat) := [(0, .iload 5, 2), (2, .ifCond .ne 13, 3), (5, .aload_n 0, 1), (6, .iload_n 1, 1), (7, .iload_n 2, 1), (8, .iload_n 3, 1), (9, .iload 4, 2), (11, .invokevirtual 376, 3), (14, .ireturn, 1), (15, .iconst 0, 1), (16, .istore 6, 2), (18, .iload 6, 2), (20, .aload_n 0, 1), (21, .invokevirtual 379, 3), (24, .if_icmp .ge 51, 3), (27, .aload_n 0, 1), (28, .iload_n 1, 1), (29, .iload 6, 2), (31, .invokevirtual 382, 3), (34, .ifCond .eq 35, 3), (37, .aload_n 0, 1), (38, .aload_n 0, 1), (39, .iload_n 1, 1), (40, .iload 6, 2), (42, .invokevirtual 385, 3), (45, .iload_n 2, 1), (46, .iload_n 3, 1), (47, .iload 6, 2), (49, .ifCond .ne 8, 3), (52, .iload 4, 2), (54, .goto 7, 3), (57, .iload 4, 2), (59, .iconst 1, 1), (60, .iadd, 1), (61, .invokevirtual 376, 3), (64, .ifCond .eq 5, 3), (67, .iconst 1, 1), (68, .ireturn, 1), (69, .iinc 6 1, 3), (72, .goto (-54), 3), (75, .iconst 0, 1), (76, .ireturn, 1)]
set_option maxRecDepth 20000 in
theorem eX11_winsThird : zq_dec tX11_winsThird cX11_winsThird := by unfold zq_dec; decide +kernel
abbrev YX11_winsSecond : zq_Y := (yX11_winsSecond, cX11_winsSecond, 7, some .boolean)
def tX11_winsSecond : List (Nat × Instr × Nat) := [(0, .iload 5, 2), (2, .iconst 2, 1), (3, .if_icmp .ge 13, 3), (6, .aload_n 0, 1), (7, .iload_n 1, 1), (8, .iload_n 2, 1), (9, .iload_n 3, 1), (10, .iload 4, 2), (12, .invokevirtual 376, 3), (15, .ireturn, 1), (16, .iconst 0, 1), (17, .istore 6, 2), (19, .iload 6, 2), (21, .aload_n 0, 1), (22, .invokevirtual 379, 3), (25, .if_icmp .ge 62, 3), (28, .aload_n 0, 1), (29, .iload_n 1, 1), (30, .iload 6, 2), (32, .invokevirtual 382, 3), (35, .ifCond .eq 46, 3), (38, .aload_n 0, 1), (39, .aload_n 0, 1), (40, .iload_n 1, 1), (41, .iload 6, 2), (43, .invokevirtual 385, 3), (46, .iload_n 2, 1), (47, .iload_n 3, 1), (48, .iload 6, 2), (50, .ifCond .ne 8, 3), (53, .iload 4, 2), (55, .goto 7, 3), (58, .iload 4, 2), (60, .iconst 1, 1), (61, .iadd, 1), (62, .iload 5, 2), (64, .iconst 3, 1), (65, .if_icmp .ne 7, 3), (68, .iconst 1, 1), (69, .goto 4, 3), (72, .iconst 0, 1), (73, .invokevirtual 388, 3), (76, .ifCond .ne 5, 3), (79, .iconst 0, 1), (80, .ireturn, 1), (81, .iinc 6 1, 3), (84, .goto (-65), 3), (87, .iconst 1, 1), (88, .ireturn, 1)]
set_option maxRecDepth 20000 in
theorem eX11_winsSecond : zq_dec tX11_winsSecond cX11_winsSecond := by unfold zq_dec; decide +kernel
abbrev YX11_game : zq_Y := (yX11_game, cX11_game, 5, some .int)
def tX11_game : List (Nat × Instr × Nat) := [(0, .aload_n 0, 1), (1, .iload_n 1, 1), (2, .invokevirtual 259, 3), (5, .ifCond .ne 5, 3), (8, .iconst (-1), 1), (9, .ireturn, 1), (10, .aload_n 0, 1), (11, .iload_n 2, 1), (12, .iconst 0, 1), (13, .iconst 1, 1), (14, .aload_n 0, 1), (15, .getfield 7, 3), (18, .ishl, 1), (19, .iconst 1, 1), (20, .isub, 1), (21, .invokevirtual 217, 3), (24, .ifCond .eq 13, 3), (27, .aload_n 0, 1), (28, .iload_n 3, 1), (29, .iconst 1, 1), (30, .iconst 3, 1), (31, .invokevirtual 217, 3), (34, .ifCond .ne 6, 3), (37, .bipush (-2), 2), (39, .ireturn, 1), (40, .aload_n 0, 1), (41, .invokevirtual 355, 3), (44, .iconst 0, 1), (45, .istore 4, 2), (47, .iload 4, 2), (49, .aload_n 0, 1), (50, .invokevirtual 379, 3), (53, .if_icmp .ge 62, 3), (56, .aload_n 0, 1), (57, .aload_n 0, 1), (58, .getfield 13, 3), (61, .iload 4, 2), (63, .invokevirtual 382, 3), (66, .ifCond .eq 43, 3), (69, .aload_n 0, 1), (70, .aload_n 0, 1), (71, .aload_n 0, 1), (72, .getfield 13, 3), (75, .iload 4, 2), (77, .invokevirtual 385, 3), (80, .iload_n 1, 1), (81, .iload_n 2, 1), (82, .iload 4, 2), (84, .ifCond .ne 10, 3), (87, .aload_n 0, 1), (88, .getfield 16, 3), (91, .goto 9, 3), (94, .aload_n 0, 1), (95, .getfield 16, 3), (98, .iconst 1, 1), (99, .iadd, 1), (100, .iload_n 3, 1), (101, .invokevirtual 392, 3), (104, .ifCond .eq 5, 3), (107, .iconst 1, 1), (108, .ireturn, 1), (109, .iinc 4 1, 3), (112, .goto (-65), 3), (115, .iconst 0, 1), (116, .ireturn, 1)]
set_option maxRecDepth 20000 in
theorem eX11_game : zq_dec tX11_game cX11_game := by unfold zq_dec; decide +kernel
abbrev YX11_votes : zq_Y := (yX11_votes, cX11_votes, 5, some .int)
def tX11_votes : List (Nat × Instr × Nat) := [(0, .aload_n 0, 1), (1, .iload_n 1, 1), (2, .invokevirtual 259, 3), (5, .ifCond .eq 11, 3), (8, .aload_n 0, 1), (9, .iload_n 2, 1), (10, .invokevirtual 334, 3), (13, .ifCond .ne 5, 3), (16, .iconst (-1), 1), (17, .ireturn, 1), (18, .iconst 0, 1), (19, .istore_n 3, 1), (20, .iconst 0, 1), (21, .istore 4, 2), (23, .iload 4, 2), (25, .aload_n 0, 1), (26, .getfield 7, 3), (29, .if_icmp .ge 50, 3), (32, .iload_n 3, 1), (33, .aload_n 0, 1), (34, .aload_n 0, 1), (35, .getfield 13, 3), (38, .iload 4, 2), (40, .invokevirtual 221, 3), (43, .iload_n 1, 1), (44, .if_icmp .eq 7, 3), (47, .iconst 0, 1), (48, .goto 23, 3), (51, .aload_n 0, 1), (52, .aload_n 0, 1), (53, .getfield 29, 3), (56, .iload 4, 2), (58, .iaload, 1), (59, .iload_n 2, 1), (60, .invokevirtual 331, 3), (63, .ifCond .eq 7, 3), (66, .iconst 1, 1), (67, .goto 4, 3), (70, .iconst (-1), 1), (71, .iadd, 1), (72, .istore_n 3, 1), (73, .iinc 4 1, 3), (76, .goto (-53), 3), (79, .iload_n 3, 1), (80, .ifCond .le 7, 3), (83, .iconst 1, 1), (84, .goto 4, 3), (87, .iconst 0, 1), (88, .ireturn, 1)]
set_option maxRecDepth 20000 in
theorem eX11_votes : zq_dec tX11_votes cX11_votes := by unfold zq_dec; decide +kernel
abbrev YX11_spoken : zq_Y := (yX11_spoken, cX11_spoken, 3, some .int)
def tX11_spoken : List (Nat × Instr × Nat) := [(0, .iload_n 1, 1), (1, .iconst (-1), 1), (2, .if_icmp .ne 10, 3), (5, .aload_n 0, 1), (6, .iconst 0, 1), (7, .putfield 121, 3), (10, .iconst 0, 1), (11, .ireturn, 1), (12, .aload_n 0, 1), (13, .iload_n 1, 1), (14, .iconst 0, 1), (15, .iconst 1, 1), (16, .aload_n 0, 1), (17, .getfield 7, 3), (20, .ishl, 1), (21, .iconst 1, 1), (22, .isub, 1), (23, .invokevirtual 217, 3), (26, .ifCond .eq 13, 3), (29, .aload_n 0, 1), (30, .iload_n 1, 1), (31, .invokevirtual 395, 3), (34, .iconst 2, 1), (35, .irem, 1), (36, .ifCond .ne 6, 3), (39, .bipush (-2), 2), (41, .ireturn, 1), (42, .aload_n 0, 1), (43, .iload_n 2, 1), (44, .invokevirtual 249, 3), (47, .ifCond .eq 12, 3), (50, .aload_n 0, 1), (51, .iload_n 1, 1), (52, .iload_n 2, 1), (53, .invokevirtual 331, 3), (56, .ifCond .ne 5, 3), (59, .iconst (-1), 1), (60, .ireturn, 1), (61, .aload_n 0, 1), (62, .getfield 121, 3), (65, .bipush 12, 2), (67, .if_icmp .ne 6, 3), (70, .bipush (-4), 2), (72, .ireturn, 1), (73, .aload_n 0, 1), (74, .getfield 124, 3), (77, .aload_n 0, 1), (78, .getfield 121, 3), (81, .iload_n 1, 1), (82, .iastore, 1), (83, .aload_n 0, 1), (84, .getfield 127, 3), (87, .aload_n 0, 1), (88, .getfield 121, 3), (91, .iload_n 2, 1), (92, .iastore, 1), (93, .aload_n 0, 1), (94, .dup, 1), (95, .getfield 121, 3), (98, .iconst 1, 1), (99, .iadd, 1), (100, .putfield 121, 3), (103, .aload_n 0, 1), (104, .getfield 121, 3), (107, .ireturn, 1)]
set_option maxRecDepth 20000 in
theorem eX11_spoken : zq_dec tX11_spoken cX11_spoken := by unfold zq_dec; decide +kernel
abbrev YX11_layOrder : zq_Y := (yX11_layOrder, cX11_layOrder, 5, some .boolean)
def tX11_layOrder : List (Nat × Instr × Nat) := [(0, .iload_n 1, 1), (1, .istore_n 2, 1), (2, .iconst 0, 1), (3, .istore_n 3, 1), (4, .iconst 0, 1), (5, .istore 4, 2), (7, .iload 4, 2), (9, .aload_n 0, 1), (10, .getfield 7, 3), (13, .if_icmp .ge 58, 3), (16, .aload_n 0, 1), (17, .getfield 130, 3), (20, .iload 4, 2), (22, .iload_n 2, 1), (23, .aload_n 0, 1), (24, .getfield 7, 3), (27, .irem, 1), (28, .iastore, 1), (29, .iload_n 2, 1), (30, .aload_n 0, 1), (31, .getfield 7, 3), (34, .idiv, 1), (35, .istore_n 2, 1), (36, .aload_n 0, 1), (37, .iload_n 3, 1), (38, .aload_n 0, 1), (39, .getfield 130, 3), (42, .iload 4, 2), (44, .iaload, 1), (45, .invokevirtual 331, 3), (48, .ifCond .eq 5, 3), (51, .iconst 0, 1), (52, .ireturn, 1), (53, .iload_n 3, 1), (54, .iconst 1, 1), (55, .aload_n 0, 1), (56, .getfield 130, 3), (59, .iload 4, 2), (61, .iaload, 1), (62, .ishl, 1), (63, .ior, 1), (64, .istore_n 3, 1), (65, .iinc 4 1, 3), (68, .goto (-61), 3), (71, .iconst 1, 1), (72, .ireturn, 1)]
set_option maxRecDepth 20000 in
theorem eX11_layOrder : zq_dec tX11_layOrder cX11_layOrder := by unfold zq_dec; decide +kernel
abbrev YX11_goesWithRows : zq_Y := (yX11_goesWithRows, cX11_goesWithRows, 4, some .boolean)
def tX11_goesWithRows : List (Nat × Instr × Nat) := [(0, .iconst 0, 1), (1, .istore_n 1, 1), (2, .iload_n 1, 1), (3, .aload_n 0, 1), (4, .getfield 121, 3), (7, .if_icmp .ge 89, 3), (10, .iconst 0, 1), (11, .istore_n 2, 1), (12, .iconst 0, 1), (13, .istore_n 3, 1), (14, .iload_n 3, 1), (15, .aload_n 0, 1), (16, .getfield 7, 3), (19, .if_icmp .ge 51, 3), (22, .iload_n 2, 1), (23, .aload_n 0, 1), (24, .aload_n 0, 1), (25, .getfield 124, 3), (28, .iload_n 1, 1), (29, .iaload, 1), (30, .iload_n 3, 1), (31, .invokevirtual 331, 3), (34, .ifCond .eq 27, 3), (37, .aload_n 0, 1), (38, .getfield 130, 3), (41, .iload_n 3, 1), (42, .iaload, 1), (43, .aload_n 0, 1), (44, .getfield 130, 3), (47, .aload_n 0, 1), (48, .getfield 127, 3), (51, .iload_n 1, 1), (52, .iaload, 1), (53, .iaload, 1), (54, .if_icmp .ge 7, 3), (57, .iconst 1, 1), (58, .goto 4, 3), (61, .iconst 0, 1), (62, .iadd, 1), (63, .istore_n 2, 1), (64, .iinc 3 1, 3), (67, .goto (-53), 3), (70, .iconst 2, 1), (71, .iload_n 2, 1), (72, .imul, 1), (73, .iconst 1, 1), (74, .iadd, 1), (75, .aload_n 0, 1), (76, .aload_n 0, 1), (77, .getfield 124, 3), (80, .iload_n 1, 1), (81, .iaload, 1), (82, .invokevirtual 395, 3), (85, .if_icmp .eq 5, 3), (88, .iconst 0, 1), (89, .ireturn, 1), (90, .iinc 1 1, 3), (93, .goto (-91), 3), (96, .iconst 1, 1), (97, .ireturn, 1)]
set_option maxRecDepth 20000 in
theorem eX11_goesWithRows : zq_dec tX11_goesWithRows cX11_goesWithRows := by unfold zq_dec; decide +kernel
abbrev YX11_fits : zq_Y := (yX11_fits, cX11_fits, 4, some .int)
def tX11_fits : List (Nat × Instr × Nat) := [(0, .aload_n 0, 1), (1, .getfield 7, 3), (4, .ifCond .ne 6, 3), (7, .bipush (-5), 2), (9, .ireturn, 1), (10, .iconst 1, 1), (11, .istore_n 1, 1), (12, .iconst 0, 1), (13, .istore_n 2, 1), (14, .iload_n 2, 1), (15, .aload_n 0, 1), (16, .getfield 7, 3), (19, .if_icmp .ge 16, 3), (22, .iload_n 1, 1), (23, .aload_n 0, 1), (24, .getfield 7, 3), (27, .imul, 1), (28, .istore_n 1, 1), (29, .iinc 2 1, 3), (32, .goto (-18), 3), (35, .iconst 0, 1), (36, .istore_n 2, 1), (37, .iconst 0, 1), (38, .istore_n 3, 1), (39, .iload_n 3, 1), (40, .iload_n 1, 1), (41, .if_icmp .ge 32, 3), (44, .iload_n 2, 1), (45, .aload_n 0, 1), (46, .iload_n 3, 1), (47, .invokevirtual 398, 3), (50, .ifCond .eq 14, 3), (53, .aload_n 0, 1), (54, .invokevirtual 401, 3), (57, .ifCond .eq 7, 3), (60, .iconst 1, 1), (61, .goto 4, 3), (64, .iconst 0, 1), (65, .iadd, 1), (66, .istore_n 2, 1), (67, .iinc 3 1, 3), (70, .goto (-31), 3), (73, .iload_n 2, 1), (74, .ireturn, 1)]
set_option maxRecDepth 20000 in
theorem eX11_fits : zq_dec tX11_fits cX11_fits := by unfold zq_dec; decide +kernel
abbrev YX11_divisor : zq_Y := (yX11_divisor, cX11_divisor, 11, some .long)
def tX11_divisor : List (Nat × Instr × Nat) := [(0, .lload_n 1, 1), (1, .lstore 5, 2), (3, .lload_n 3, 1), (4, .lstore 7, 2), (6, .lload 7, 2), (8, .lconst 0, 1), (9, .lcmp, 1), (10, .ifCond .eq 21, 3), (13, .lload 5, 2), (15, .lload 7, 2), (17, .lrem, 1), (18, .lstore 9, 2), (20, .lload 7, 2), (22, .lstore 5, 2), (24, .lload 9, 2), (26, .lstore 7, 2), (28, .goto (-22), 3), (31, .lload 5, 2), (33, .lreturn, 1)]
set_option maxRecDepth 20000 in
theorem eX11_divisor : zq_dec tX11_divisor cX11_divisor := by unfold zq_dec; decide +kernel
abbrev YX11_waysFrom : zq_Y := (yX11_waysFrom, cX11_waysFrom, 5, some .int)
def tX11_waysFrom : List (Nat × Instr × Nat) := [(0, .iconst 0, 1), (1, .istore_n 2, 1), (2, .iconst 0, 1), (3, .istore_n 3, 1), (4, .iload_n 3, 1), (5, .aload_n 0, 1), (6, .getfield 7, 3), (9, .if_icmp .ge 43, 3), (12, .iconst 0, 1), (13, .istore 4, 2), (15, .iload 4, 2), (17, .iconst 4, 1), (18, .if_icmp .ge 28, 3), (21, .iload_n 2, 1), (22, .aload_n 0, 1), (23, .iload_n 1, 1), (24, .iload_n 3, 1), (25, .iload 4, 2), (27, .invokevirtual 343, 3), (30, .ifCond .eq 7, 3), (33, .iconst 1, 1), (34, .goto 4, 3), (37, .iconst 0, 1), (38, .iadd, 1), (39, .istore_n 2, 1), (40, .iinc 4 1, 3), (43, .goto (-28), 3), (46, .iinc 3 1, 3), (49, .goto (-45), 3), (52, .iload_n 2, 1), (53, .ireturn, 1)]
set_option maxRecDepth 20000 in
theorem eX11_waysFrom : zq_dec tX11_waysFrom cX11_waysFrom := by unfold zq_dec; decide +kernel
abbrev YX11_speaksBehind : zq_Y := (yX11_speaksBehind, cX11_speaksBehind, 7, some .int)
def tX11_speaksBehind : List (Nat × Instr × Nat) := [(0, .iconst 0, 1), (1, .istore 4, 2), (3, .iconst 0, 1), (4, .istore 5, 2), (6, .iload 5, 2), (8, .aload_n 0, 1), (9, .getfield 7, 3), (12, .if_icmp .ge 66, 3), (15, .iconst 0, 1), (16, .istore 6, 2), (18, .iload 6, 2), (20, .iconst 4, 1), (21, .if_icmp .ge 51, 3), (24, .iload 4, 2), (26, .aload_n 0, 1), (27, .iload_n 1, 1), (28, .iload 5, 2), (30, .iload 6, 2), (32, .invokevirtual 343, 3), (35, .ifCond .eq 27, 3), (38, .aload_n 0, 1), (39, .aload_n 0, 1), (40, .iload_n 1, 1), (41, .iload 5, 2), (43, .iload 6, 2), (45, .invokevirtual 229, 3), (48, .iload_n 2, 1), (49, .iload_n 3, 1), (50, .iconst 1, 1), (51, .iadd, 1), (52, .invokevirtual 256, 3), (55, .ifCond .eq 7, 3), (58, .iconst 1, 1), (59, .goto 4, 3), (62, .iconst 0, 1), (63, .iadd, 1), (64, .istore 4, 2), (66, .iinc 6 1, 3), (69, .goto (-51), 3), (72, .iinc 5 1, 3), (75, .goto (-69), 3), (78, .iload 4, 2), (80, .ireturn, 1)]
set_option maxRecDepth 20000 in
theorem eX11_speaksBehind : zq_dec tX11_speaksBehind cX11_speaksBehind := by unfold zq_dec; decide +kernel
abbrev YX11_addLot : zq_Y := (yX11_addLot, cX11_addLot, 11, none)
def tX11_addLot : List (Nat × Instr × Nat) := [(0, .aload_n 0, 1), (1, .getfield 133, 3), (4, .lload_n 3, 1), (5, .lmul, 1), (6, .lload_n 1, 1), (7, .aload_n 0, 1), (8, .getfield 137, 3), (11, .lmul, 1), (12, .ladd, 1), (13, .lstore 5, 2), (15, .aload_n 0, 1), (16, .getfield 137, 3), (19, .lload_n 3, 1), (20, .lmul, 1), (21, .lstore 7, 2), (23, .aload_n 0, 1), (24, .lload 5, 2), (26, .lload 7, 2), (28, .invokevirtual 404, 3), (31, .lstore 9, 2), (33, .aload_n 0, 1), (34, .lload 5, 2), (36, .lload 9, 2), (38, .ldiv, 1), (39, .putfield 133, 3), (42, .aload_n 0, 1), (43, .lload 7, 2), (45, .lload 9, 2), (47, .ldiv, 1), (48, .putfield 137, 3), (51, .return_, 1)]
set_option maxRecDepth 20000 in
theorem eX11_addLot : zq_dec tX11_addLot cX11_addLot := by unfold zq_dec; decide +kernel
abbrev YX11_addFrom : zq_Y := (yX11_addFrom, cX11_addFrom, 6, none)
def tX11_addFrom : List (Nat × Instr × Nat) := [(0, .aload_n 0, 1), (1, .iload_n 1, 1), (2, .invokevirtual 408, 3), (5, .istore 5, 2), (7, .iload 5, 2), (9, .ifCond .ne 28, 3), (12, .aload_n 0, 1), (13, .aload_n 0, 1), (14, .iload_n 1, 1), (15, .iload_n 2, 1), (16, .iload_n 3, 1), (17, .invokevirtual 256, 3), (20, .ifCond .eq 7, 3), (23, .lconst 1, 1), (24, .goto 4, 3), (27, .lconst 0, 1), (28, .iload 4, 2), (30, .i2l, 1), (31, .invokevirtual 411, 3), (34, .goto 22, 3), (37, .aload_n 0, 1), (38, .aload_n 0, 1), (39, .iload_n 1, 1), (40, .iload_n 2, 1), (41, .iload_n 3, 1), (42, .invokevirtual 415, 3), (45, .i2l, 1), (46, .iload 4, 2), (48, .i2l, 1), (49, .iload 5, 2), (51, .i2l, 1), (52, .lmul, 1), (53, .invokevirtual 411, 3), (56, .return_, 1)]
set_option maxRecDepth 20000 in
theorem eX11_addFrom : zq_dec tX11_addFrom cX11_addFrom := by unfold zq_dec; decide +kernel
abbrev YX11_layLot : zq_Y := (yX11_layLot, cX11_layLot, 6, none)
def tX11_layLot : List (Nat × Instr × Nat) := [(0, .aload_n 0, 1), (1, .lconst 0, 1), (2, .putfield 133, 3), (5, .aload_n 0, 1), (6, .lconst 1, 1), (7, .putfield 137, 3), (10, .aload_n 0, 1), (11, .aload_n 0, 1), (12, .getfield 13, 3), (15, .invokevirtual 408, 3), (18, .istore_n 3, 1), (19, .iload_n 2, 1), (20, .ifCond .eq 7, 3), (23, .iload_n 3, 1), (24, .ifCond .ne 30, 3), (27, .aload_n 0, 1), (28, .aload_n 0, 1), (29, .aload_n 0, 1), (30, .getfield 13, 3), (33, .iload_n 1, 1), (34, .aload_n 0, 1), (35, .getfield 16, 3), (38, .invokevirtual 256, 3), (41, .ifCond .eq 7, 3), (44, .lconst 1, 1), (45, .goto 4, 3), (48, .lconst 0, 1), (49, .lconst 1, 1), (50, .invokevirtual 411, 3), (53, .return_, 1), (54, .iload_n 2, 1), (55, .iconst 1, 1), (56, .if_icmp .ne 18, 3), (59, .aload_n 0, 1), (60, .aload_n 0, 1), (61, .getfield 13, 3), (64, .iload_n 1, 1), (65, .aload_n 0, 1), (66, .getfield 16, 3), (69, .iconst 1, 1), (70, .invokevirtual 418, 3), (73, .return_, 1), (74, .iconst 0, 1), (75, .istore 4, 2), (77, .iload 4, 2), (79, .aload_n 0, 1), (80, .getfield 7, 3), (83, .if_icmp .ge 63, 3), (86, .iconst 0, 1), (87, .istore 5, 2), (89, .iload 5, 2), (91, .iconst 4, 1), (92, .if_icmp .ge 48, 3), (95, .aload_n 0, 1), (96, .aload_n 0, 1), (97, .getfield 13, 3), (100, .iload 4, 2), (102, .iload 5, 2), (104, .invokevirtual 343, 3), (107, .ifCond .eq 27, 3), (110, .aload_n 0, 1), (111, .aload_n 0, 1), (112, .aload_n 0, 1), (113, .getfield 13, 3), (116, .iload 4, 2), (118, .iload 5, 2), (120, .invokevirtual 229, 3), (123, .iload_n 1, 1), (124, .aload_n 0, 1), (125, .getfield 16, 3), (128, .iconst 1, 1), (129, .iadd, 1), (130, .iload_n 3, 1), (131, .invokevirtual 418, 3), (134, .iinc 5 1, 3), (137, .goto (-48), 3), (140, .iinc 4 1, 3), (143, .goto (-66), 3), (146, .return_, 1)]
set_option maxRecDepth 20000 in
theorem eX11_layLot : zq_dec tX11_layLot cX11_layLot := by unfold zq_dec; decide +kernel
abbrev YX11_lot : zq_Y := (yX11_lot, cX11_lot, 4, some .long)
def tX11_lot : List (Nat × Instr × Nat) := [(0, .aload_n 0, 1), (1, .iload_n 1, 1), (2, .invokevirtual 249, 3), (5, .ifCond .eq 23, 3), (8, .aload_n 0, 1), (9, .iload_n 2, 1), (10, .iconst 0, 1), (11, .iconst 2, 1), (12, .invokevirtual 217, 3), (15, .ifCond .eq 13, 3), (18, .aload_n 0, 1), (19, .iload_n 3, 1), (20, .iconst 0, 1), (21, .iconst 1, 1), (22, .invokevirtual 217, 3), (25, .ifCond .ne 7, 3), (28, .ldc2_w 422, 3), (31, .lreturn, 1), (32, .aload_n 0, 1), (33, .invokevirtual 355, 3), (36, .aload_n 0, 1), (37, .iload_n 1, 1), (38, .iload_n 2, 1), (39, .invokevirtual 424, 3), (42, .iload_n 3, 1), (43, .ifCond .ne 10, 3), (46, .aload_n 0, 1), (47, .getfield 133, 3), (50, .goto 7, 3), (53, .aload_n 0, 1), (54, .getfield 137, 3), (57, .lreturn, 1)]
set_option maxRecDepth 20000 in
theorem eX11_lot : zq_dec tX11_lot cX11_lot := by unfold zq_dec; decide +kernel
abbrev YX11_book : zq_Y := (yX11_book, cX11_book, 2, some .int)
def tX11_book : List (Nat × Instr × Nat) := [(0, .iload_n 1, 1), (1, .iconst (-1), 1), (2, .if_icmp .ne 10, 3), (5, .aload_n 0, 1), (6, .iconst 0, 1), (7, .putfield 140, 3), (10, .iconst 0, 1), (11, .ireturn, 1), (12, .aload_n 0, 1), (13, .iload_n 1, 1), (14, .iconst 0, 1), (15, .bipush 49, 2), (17, .invokevirtual 217, 3), (20, .ifCond .eq 14, 3), (23, .aload_n 0, 1), (24, .iload_n 1, 1), (25, .bipush 10, 2), (27, .irem, 1), (28, .invokevirtual 334, 3), (31, .ifCond .ne 5, 3), (34, .iconst (-1), 1), (35, .ireturn, 1), (36, .aload_n 0, 1), (37, .getfield 140, 3), (40, .bipush 12, 2), (42, .if_icmp .ne 6, 3), (45, .bipush (-4), 2), (47, .ireturn, 1), (48, .aload_n 0, 1), (49, .getfield 143, 3), (52, .aload_n 0, 1), (53, .getfield 140, 3), (56, .iload_n 1, 1), (57, .iastore, 1), (58, .aload_n 0, 1), (59, .dup, 1), (60, .getfield 140, 3), (63, .iconst 1, 1), (64, .iadd, 1), (65, .putfield 140, 3), (68, .aload_n 0, 1), (69, .getfield 140, 3), (72, .ireturn, 1)]
set_option maxRecDepth 20000 in
theorem eX11_book : zq_dec tX11_book cX11_book := by unfold zq_dec; decide +kernel
abbrev YX11_readBook : zq_Y := (yX11_readBook, cX11_readBook, 3, some .int)
def tX11_readBook : List (Nat × Instr × Nat) := [(0, .aload_n 0, 1), (1, .aload_n 0, 1), (2, .invokevirtual 252, 3), (5, .putfield 38, 3), (8, .iconst 0, 1), (9, .istore_n 1, 1), (10, .iload_n 1, 1), (11, .iconst 5, 1), (12, .if_icmp .ge 21, 3), (15, .aload_n 0, 1), (16, .getfield 146, 3), (19, .iload_n 1, 1), (20, .aload_n 0, 1), (21, .getfield 29, 3), (24, .iload_n 1, 1), (25, .iaload, 1), (26, .iastore, 1), (27, .iinc 1 1, 3), (30, .goto (-20), 3), (33, .iconst 0, 1), (34, .istore_n 1, 1), (35, .iload_n 1, 1), (36, .aload_n 0, 1), (37, .getfield 140, 3), (40, .if_icmp .ge 102, 3), (43, .aload_n 0, 1), (44, .aload_n 0, 1), (45, .getfield 143, 3), (48, .iload_n 1, 1), (49, .iaload, 1), (50, .bipush 10, 2), (52, .idiv, 1), (53, .invokevirtual 249, 3), (56, .ifCond .eq 86, 3), (59, .aload_n 0, 1), (60, .aload_n 0, 1), (61, .getfield 29, 3), (64, .aload_n 0, 1), (65, .getfield 143, 3), (68, .iload_n 1, 1), (69, .iaload, 1), (70, .bipush 10, 2), (72, .idiv, 1), (73, .iaload, 1), (74, .aload_n 0, 1), (75, .getfield 143, 3), (78, .iload_n 1, 1), (79, .iaload, 1), (80, .bipush 10, 2), (82, .irem, 1), (83, .invokevirtual 331, 3), (86, .ifCond .eq 56, 3), (89, .aload_n 0, 1), (90, .aload_n 0, 1), (91, .getfield 13, 3), (94, .aload_n 0, 1), (95, .getfield 143, 3), (98, .iload_n 1, 1), (99, .iaload, 1), (100, .bipush 10, 2), (102, .idiv, 1), (103, .aload_n 0, 1), (104, .getfield 16, 3), (107, .invokevirtual 256, 3), (110, .ifCond .eq 32, 3), (113, .aload_n 0, 1), (114, .aload_n 0, 1), (115, .getfield 143, 3), (118, .iload_n 1, 1), (119, .iaload, 1), (120, .bipush 10, 2), (122, .idiv, 1), (123, .aload_n 0, 1), (124, .getfield 143, 3), (127, .iload_n 1, 1), (128, .iaload, 1), (129, .bipush 10, 2), (131, .irem, 1), (132, .invokevirtual 337, 3), (135, .istore_n 2, 1), (136, .iinc 1 1, 3), (139, .goto (-104), 3), (142, .iconst 0, 1), (143, .istore_n 2, 1), (144, .iload_n 2, 1), (145, .iconst 5, 1), (146, .if_icmp .ge 21, 3), (149, .aload_n 0, 1), (150, .getfield 29, 3), (153, .iload_n 2, 1), (154, .aload_n 0, 1), (155, .getfield 146, 3), (158, .iload_n 2, 1), (159, .iaload, 1), (160, .iastore, 1), (161, .iinc 2 1, 3), (164, .goto (-20), 3), (167, .iload_n 1, 1), (168, .ireturn, 1)]
set_option maxRecDepth 20000 in
theorem eX11_readBook : zq_dec tX11_readBook cX11_readBook := by unfold zq_dec; decide +kernel
abbrev YX11_judge : zq_Y := (yX11_judge, cX11_judge, 4, some .int)
def tX11_judge : List (Nat × Instr × Nat) := [(0, .aload_n 0, 1), (1, .iload_n 1, 1), (2, .invokevirtual 428, 3), (5, .ifCond .ne 5, 3), (8, .iconst (-1), 1), (9, .ireturn, 1), (10, .aload_n 0, 1), (11, .getfield 204, 3), (14, .iload_n 1, 1), (15, .iaload, 1), (16, .ifCond .lt 16, 3), (19, .aload_n 0, 1), (20, .getfield 204, 3), (23, .iload_n 1, 1), (24, .iaload, 1), (25, .iconst 2, 1), (26, .if_icmp .eq 6, 3), (29, .bipush (-12), 2), (31, .ireturn, 1), (32, .iconst 0, 1), (33, .istore_n 3, 1), (34, .iload_n 3, 1), (35, .aload_n 0, 1), (36, .getfield 7, 3), (39, .if_icmp .ge 67, 3), (42, .aload_n 0, 1), (43, .getfield 204, 3), (46, .iload_n 1, 1), (47, .iaload, 1), (48, .ifCond .lt 21, 3), (51, .iload_n 2, 1), (52, .ifCond .lt 17, 3), (55, .iload_n 2, 1), (56, .aload_n 0, 1), (57, .getfield 207, 3), (60, .iload_n 1, 1), (61, .iaload, 1), (62, .iload_n 3, 1), (63, .isub, 1), (64, .iconst 1, 1), (65, .isub, 1), (66, .if_icmp .le 8, 3), (69, .bipush 100, 2), (71, .iload_n 3, 1), (72, .iadd, 1), (73, .ireturn, 1), (74, .aload_n 0, 1), (75, .getfield 210, 3), (78, .bipush 60, 2), (80, .iload_n 1, 1), (81, .imul, 1), (82, .iload_n 2, 1), (83, .iadd, 1), (84, .iload_n 3, 1), (85, .iadd, 1), (86, .laload, 1), (87, .aload_n 0, 1), (88, .getfield 29, 3), (91, .iload_n 3, 1), (92, .iaload, 1), (93, .i2l, 1), (94, .lcmp, 1), (95, .ifCond .eq 5, 3), (98, .iload_n 3, 1), (99, .ireturn, 1), (100, .iinc 3 1, 3), (103, .goto (-69), 3), (106, .bipush (-5), 2), (108, .ireturn, 1)]
set_option maxRecDepth 20000 in
theorem eX11_judge : zq_dec tX11_judge cX11_judge := by unfold zq_dec; decide +kernel
abbrev YX11_image : zq_Y := (yX11_image, cX11_image, 2, some .int)
def tX11_image : List (Nat × Instr × Nat) := [(0, .aload_n 0, 1), (1, .iconst 1, 1), (2, .putfield 149, 3), (5, .aload_n 0, 1), (6, .aload_n 0, 1), (7, .getfield 44, 3), (10, .putfield 153, 3), (13, .aload_n 0, 1), (14, .aload_n 0, 1), (15, .getfield 7, 3), (18, .putfield 156, 3), (21, .aload_n 0, 1), (22, .aload_n 0, 1), (23, .getfield 13, 3), (26, .putfield 159, 3), (29, .aload_n 0, 1), (30, .aload_n 0, 1), (31, .getfield 16, 3), (34, .putfield 162, 3), (37, .aload_n 0, 1), (38, .aload_n 0, 1), (39, .getfield 19, 3), (42, .putfield 165, 3), (45, .aload_n 0, 1), (46, .aload_n 0, 1), (47, .getfield 121, 3), (50, .putfield 168, 3), (53, .aload_n 0, 1), (54, .aload_n 0, 1), (55, .getfield 140, 3), (58, .putfield 171, 3), (61, .iconst 0, 1), (62, .istore_n 1, 1), (63, .iload_n 1, 1), (64, .iconst 5, 1), (65, .if_icmp .ge 45, 3), (68, .aload_n 0, 1), (69, .getfield 174, 3), (72, .iload_n 1, 1), (73, .aload_n 0, 1), (74, .getfield 22, 3), (77, .iload_n 1, 1), (78, .iaload, 1), (79, .iastore, 1), (80, .aload_n 0, 1), (81, .getfield 177, 3), (84, .iload_n 1, 1), (85, .aload_n 0, 1), (86, .getfield 26, 3), (89, .iload_n 1, 1), (90, .iaload, 1), (91, .iastore, 1), (92, .aload_n 0, 1), (93, .getfield 180, 3), (96, .iload_n 1, 1), (97, .aload_n 0, 1), (98, .getfield 29, 3), (101, .iload_n 1, 1), (102, .iaload, 1), (103, .iastore, 1), (104, .iinc 1 1, 3), (107, .goto (-44), 3), (110, .iconst 0, 1), (111, .istore_n 1, 1), (112, .iload_n 1, 1), (113, .iconst 3, 1), (114, .if_icmp .ge 33, 3), (117, .aload_n 0, 1), (118, .getfield 183, 3), (121, .iload_n 1, 1), (122, .aload_n 0, 1), (123, .getfield 32, 3), (126, .iload_n 1, 1), (127, .iaload, 1), (128, .iastore, 1), (129, .aload_n 0, 1), (130, .getfield 186, 3), (133, .iload_n 1, 1), (134, .aload_n 0, 1), (135, .getfield 35, 3), (138, .iload_n 1, 1), (139, .iaload, 1), (140, .iastore, 1), (141, .iinc 1 1, 3), (144, .goto (-32), 3), (147, .iconst 0, 1), (148, .istore_n 1, 1), (149, .iload_n 1, 1), (150, .bipush 12, 2), (152, .if_icmp .ge 45, 3), (155, .aload_n 0, 1), (156, .getfield 189, 3), (159, .iload_n 1, 1), (160, .aload_n 0, 1), (161, .getfield 124, 3), (164, .iload_n 1, 1), (165, .iaload, 1), (166, .iastore, 1), (167, .aload_n 0, 1), (168, .getfield 192, 3), (171, .iload_n 1, 1), (172, .aload_n 0, 1), (173, .getfield 127, 3), (176, .iload_n 1, 1), (177, .iaload, 1), (178, .iastore, 1), (179, .aload_n 0, 1), (180, .getfield 195, 3), (183, .iload_n 1, 1), (184, .aload_n 0, 1), (185, .getfield 143, 3), (188, .iload_n 1, 1), (189, .iaload, 1), (190, .iastore, 1), (191, .iinc 1 1, 3), (194, .goto (-45), 3), (197, .aload_n 0, 1), (198, .getfield 7, 3), (201, .ireturn, 1)]
set_option maxRecDepth 20000 in
theorem eX11_image : zq_dec tX11_image cX11_image := by unfold zq_dec; decide +kernel
abbrev YX11_undo : zq_Y := (yX11_undo, cX11_undo, 2, some .int)
def tX11_undo : List (Nat × Instr × Nat) := [(0, .aload_n 0, 1), (1, .getfield 149, 3), (4, .ifCond .ne 6, 3), (7, .bipush (-3), 2), (9, .ireturn, 1), (10, .aload_n 0, 1), (11, .aload_n 0, 1), (12, .getfield 153, 3), (15, .putfield 44, 3), (18, .aload_n 0, 1), (19, .aload_n 0, 1), (20, .getfield 156, 3), (23, .putfield 7, 3), (26, .aload_n 0, 1), (27, .aload_n 0, 1), (28, .getfield 159, 3), (31, .putfield 13, 3), (34, .aload_n 0, 1), (35, .aload_n 0, 1), (36, .getfield 162, 3), (39, .putfield 16, 3), (42, .aload_n 0, 1), (43, .aload_n 0, 1), (44, .getfield 165, 3), (47, .putfield 19, 3), (50, .aload_n 0, 1), (51, .aload_n 0, 1), (52, .getfield 168, 3), (55, .putfield 121, 3), (58, .aload_n 0, 1), (59, .aload_n 0, 1), (60, .getfield 171, 3), (63, .putfield 140, 3), (66, .iconst 0, 1), (67, .istore_n 1, 1), (68, .iload_n 1, 1), (69, .iconst 5, 1), (70, .if_icmp .ge 45, 3), (73, .aload_n 0, 1), (74, .getfield 22, 3), (77, .iload_n 1, 1), (78, .aload_n 0, 1), (79, .getfield 174, 3), (82, .iload_n 1, 1), (83, .iaload, 1), (84, .iastore, 1), (85, .aload_n 0, 1), (86, .getfield 26, 3), (89, .iload_n 1, 1), (90, .aload_n 0, 1), (91, .getfield 177, 3), (94, .iload_n 1, 1), (95, .iaload, 1), (96, .iastore, 1), (97, .aload_n 0, 1), (98, .getfield 29, 3), (101, .iload_n 1, 1), (102, .aload_n 0, 1), (103, .getfield 180, 3), (106, .iload_n 1, 1), (107, .iaload, 1), (108, .iastore, 1), (109, .iinc 1 1, 3), (112, .goto (-44), 3), (115, .iconst 0, 1), (116, .istore_n 1, 1), (117, .iload_n 1, 1), (118, .iconst 3, 1), (119, .if_icmp .ge 33, 3), (122, .aload_n 0, 1), (123, .getfield 32, 3), (126, .iload_n 1, 1), (127, .aload_n 0, 1), (128, .getfield 183, 3), (131, .iload_n 1, 1), (132, .iaload, 1), (133, .iastore, 1), (134, .aload_n 0, 1), (135, .getfield 35, 3), (138, .iload_n 1, 1), (139, .aload_n 0, 1), (140, .getfield 186, 3), (143, .iload_n 1, 1), (144, .iaload, 1), (145, .iastore, 1), (146, .iinc 1 1, 3), (149, .goto (-32), 3), (152, .iconst 0, 1), (153, .istore_n 1, 1), (154, .iload_n 1, 1), (155, .bipush 12, 2), (157, .if_icmp .ge 45, 3), (160, .aload_n 0, 1), (161, .getfield 124, 3), (164, .iload_n 1, 1), (165, .aload_n 0, 1), (166, .getfield 189, 3), (169, .iload_n 1, 1), (170, .iaload, 1), (171, .iastore, 1), (172, .aload_n 0, 1), (173, .getfield 127, 3), (176, .iload_n 1, 1), (177, .aload_n 0, 1), (178, .getfield 192, 3), (181, .iload_n 1, 1), (182, .iaload, 1), (183, .iastore, 1), (184, .aload_n 0, 1), (185, .getfield 143, 3), (188, .iload_n 1, 1), (189, .aload_n 0, 1), (190, .getfield 195, 3), (193, .iload_n 1, 1), (194, .iaload, 1), (195, .iastore, 1), (196, .iinc 1 1, 3), (199, .goto (-45), 3), (202, .aload_n 0, 1), (203, .getfield 7, 3), (206, .ireturn, 1)]
set_option maxRecDepth 20000 in
theorem eX11_undo : zq_dec tX11_undo cX11_undo := by unfold zq_dec; decide +kernel
abbrev YX11_body : zq_Y := (yX11_body, cX11_body, 2, none)
def tX11_body : List (Nat × Instr × Nat) := [(0, .aload_n 0, 1), (1, .getfield 198, 3), (4, .bipush 20, 2), (6, .if_icmp .ge 13, 3), (9, .aload_n 0, 1), (10, .getfield 201, 3), (13, .aload_n 0, 1), (14, .getfield 198, 3), (17, .iload_n 1, 1), (18, .iastore, 1), (19, .aload_n 0, 1), (20, .dup, 1), (21, .getfield 198, 3), (24, .iconst 1, 1), (25, .iadd, 1), (26, .putfield 198, 3), (29, .return_, 1)]
set_option maxRecDepth 20000 in
theorem eX11_body : zq_dec tX11_body cX11_body := by unfold zq_dec; decide +kernel
abbrev YX11_roomHears : zq_Y := (yX11_roomHears, cX11_roomHears, 3, some .int)
def tX11_roomHears : List (Nat × Instr × Nat) := [(0, .aload_n 0, 1), (1, .bipush 10, 2), (3, .invokevirtual 431, 3), (6, .iload_n 2, 1), (7, .iload_n 1, 1), (8, .iadd, 1), (9, .ireturn, 1)]
set_option maxRecDepth 20000 in
theorem eX11_roomHears : zq_dec tX11_roomHears cX11_roomHears := by unfold zq_dec; decide +kernel
abbrev YX11_hearsAct : zq_Y := (yX11_hearsAct, cX11_hearsAct, 3, some .int)
def tX11_hearsAct : List (Nat × Instr × Nat) := [(0, .aload_n 0, 1), (1, .getfield 32, 3), (4, .iload_n 1, 1), (5, .iaload, 1), (6, .tableswitch 83 2 6 #[34, 83, 49, 34, 63], 34), (40, .aload_n 0, 1), (41, .bipush 30, 2), (43, .invokevirtual 431, 3), (46, .aload_n 0, 1), (47, .iload_n 1, 1), (48, .iload_n 2, 1), (49, .iconst 3, 1), (50, .imul, 1), (51, .invokevirtual 434, 3), (54, .ireturn, 1), (55, .aload_n 0, 1), (56, .bipush 50, 2), (58, .invokevirtual 431, 3), (61, .aload_n 0, 1), (62, .iload_n 1, 1), (63, .iload_n 2, 1), (64, .invokevirtual 434, 3), (67, .ineg, 1), (68, .ireturn, 1), (69, .aload_n 0, 1), (70, .bipush 71, 2), (72, .invokevirtual 431, 3), (75, .aload_n 0, 1), (76, .iload_n 1, 1), (77, .iload_n 2, 1), (78, .invokevirtual 434, 3), (81, .aload_n 0, 1), (82, .getfield 35, 3), (85, .iload_n 1, 1), (86, .iaload, 1), (87, .ixor, 1), (88, .ireturn, 1), (89, .aload_n 0, 1), (90, .iload_n 1, 1), (91, .iload_n 2, 1), (92, .invokevirtual 434, 3), (95, .ireturn, 1)]
set_option maxRecDepth 20000 in
theorem eX11_hearsAct : zq_dec tX11_hearsAct cX11_hearsAct := by unfold zq_dec; decide +kernel
abbrev YX11_roomSpeaks : zq_Y := (yX11_roomSpeaks, cX11_roomSpeaks, 3, some .int)
def tX11_roomSpeaks : List (Nat × Instr × Nat) := [(0, .aload_n 0, 1), (1, .bipush 11, 2), (3, .invokevirtual 431, 3), (6, .aload_n 0, 1), (7, .iload_n 1, 1), (8, .iload_n 2, 1), (9, .invokevirtual 437, 3), (12, .aload_n 0, 1), (13, .getfield 35, 3), (16, .iload_n 1, 1), (17, .iaload, 1), (18, .isub, 1), (19, .ireturn, 1)]
set_option maxRecDepth 20000 in
theorem eX11_roomSpeaks : zq_dec tX11_roomSpeaks cX11_roomSpeaks := by unfold zq_dec; decide +kernel
abbrev YX11_lowerSpeaks : zq_Y := (yX11_lowerSpeaks, cX11_lowerSpeaks, 3, some .int)
def tX11_lowerSpeaks : List (Nat × Instr × Nat) := [(0, .aload_n 0, 1), (1, .bipush 20, 2), (3, .invokevirtual 431, 3), (6, .aload_n 0, 1), (7, .iload_n 1, 1), (8, .iload_n 2, 1), (9, .invokevirtual 440, 3), (12, .bipush 6, 2), (14, .ixor, 1), (15, .ireturn, 1)]
set_option maxRecDepth 20000 in
theorem eX11_lowerSpeaks : zq_dec tX11_lowerSpeaks cX11_lowerSpeaks := by unfold zq_dec; decide +kernel
abbrev YX11_speaksAct : zq_Y := (yX11_speaksAct, cX11_speaksAct, 4, some .int)
def tX11_speaksAct : List (Nat × Instr × Nat) := [(0, .aload_n 0, 1), (1, .getfield 32, 3), (4, .iload_n 1, 1), (5, .iaload, 1), (6, .lookupswitch 78 #[(1, 34), (4, 41), (6, 56)], 34), (40, .aload_n 0, 1), (41, .iload_n 1, 1), (42, .iload_n 2, 1), (43, .invokevirtual 443, 3), (46, .ireturn, 1), (47, .aload_n 0, 1), (48, .bipush 51, 2), (50, .invokevirtual 431, 3), (53, .aload_n 0, 1), (54, .iload_n 1, 1), (55, .iload_n 2, 1), (56, .iconst 1, 1), (57, .iadd, 1), (58, .invokevirtual 443, 3), (61, .ireturn, 1), (62, .aload_n 0, 1), (63, .bipush 70, 2), (65, .invokevirtual 431, 3), (68, .aload_n 0, 1), (69, .iload_n 1, 1), (70, .iload_n 2, 1), (71, .invokevirtual 440, 3), (74, .istore_n 3, 1), (75, .iload_n 3, 1), (76, .aload_n 0, 1), (77, .iload_n 1, 1), (78, .iconst 2, 1), (79, .invokevirtual 434, 3), (82, .iadd, 1), (83, .ireturn, 1), (84, .aload_n 0, 1), (85, .iload_n 1, 1), (86, .iload_n 2, 1), (87, .invokevirtual 440, 3), (90, .ireturn, 1)]
set_option maxRecDepth 20000 in
theorem eX11_speaksAct : zq_dec tX11_speaksAct cX11_speaksAct := by unfold zq_dec; decide +kernel
abbrev YX11_roomTells : zq_Y := (yX11_roomTells, cX11_roomTells, 3, some .int)
def tX11_roomTells : List (Nat × Instr × Nat) := [(0, .aload_n 0, 1), (1, .bipush 12, 2), (3, .invokevirtual 431, 3), (6, .aload_n 0, 1), (7, .iload_n 1, 1), (8, .iload_n 2, 1), (9, .invokevirtual 446, 3), (12, .iconst 2, 1), (13, .imul, 1), (14, .ireturn, 1)]
set_option maxRecDepth 20000 in
theorem eX11_roomTells : zq_dec tX11_roomTells cX11_roomTells := by unfold zq_dec; decide +kernel
abbrev YX11_tellsAct : zq_Y := (yX11_tellsAct, cX11_tellsAct, 4, some .int)
def tX11_tellsAct : List (Nat × Instr × Nat) := [(0, .aload_n 0, 1), (1, .getfield 32, 3), (4, .iload_n 1, 1), (5, .iaload, 1), (6, .tableswitch 67 3 6 #[30, 67, 52, 30], 30), (36, .aload_n 0, 1), (37, .bipush 40, 2), (39, .invokevirtual 431, 3), (42, .aload_n 0, 1), (43, .iload_n 1, 1), (44, .iload_n 2, 1), (45, .invokevirtual 449, 3), (48, .istore_n 3, 1), (49, .iload_n 3, 1), (50, .aload_n 0, 1), (51, .iload_n 1, 1), (52, .iconst 1, 1), (53, .invokevirtual 446, 3), (56, .iadd, 1), (57, .ireturn, 1), (58, .aload_n 0, 1), (59, .bipush 60, 2), (61, .invokevirtual 431, 3), (64, .aload_n 0, 1), (65, .iload_n 1, 1), (66, .iload_n 2, 1), (67, .iload_n 1, 1), (68, .isub, 1), (69, .invokevirtual 449, 3), (72, .ireturn, 1), (73, .aload_n 0, 1), (74, .iload_n 1, 1), (75, .iload_n 2, 1), (76, .invokevirtual 449, 3), (79, .ireturn, 1)]
set_option maxRecDepth 20000 in
theorem eX11_tellsAct : zq_dec tX11_tellsAct cX11_tellsAct := by unfold zq_dec; decide +kernel
abbrev YX11_act : zq_Y := (yX11_act, cX11_act, 4, some .int)
def tX11_act : List (Nat × Instr × Nat) := [(0, .aload_n 0, 1), (1, .iconst 0, 1), (2, .putfield 198, 3), (5, .aload_n 0, 1), (6, .iload_n 1, 1), (7, .invokevirtual 259, 3), (10, .ifCond .eq 13, 3), (13, .aload_n 0, 1), (14, .iload_n 2, 1), (15, .iconst 0, 1), (16, .iconst 2, 1), (17, .invokevirtual 217, 3), (20, .ifCond .ne 5, 3), (23, .iconst 0, 1), (24, .ireturn, 1), (25, .iload_n 2, 1), (26, .ifCond .ne 12, 3), (29, .aload_n 0, 1), (30, .iload_n 1, 1), (31, .iload_n 3, 1), (32, .invokevirtual 437, 3), (35, .goto 23, 3), (38, .iload_n 2, 1), (39, .iconst 1, 1), (40, .if_icmp .ne 12, 3), (43, .aload_n 0, 1), (44, .iload_n 1, 1), (45, .iload_n 3, 1), (46, .invokevirtual 446, 3), (49, .goto 9, 3), (52, .aload_n 0, 1), (53, .iload_n 1, 1), (54, .iload_n 3, 1), (55, .invokevirtual 452, 3), (58, .ireturn, 1)]
set_option maxRecDepth 20000 in
theorem eX11_act : zq_dec tX11_act cX11_act := by unfold zq_dec; decide +kernel
abbrev YX11_trace : zq_Y := (yX11_trace, cX11_trace, 2, some .int)
def tX11_trace : List (Nat × Instr × Nat) := [(0, .aload_n 0, 1), (1, .iload_n 1, 1), (2, .iconst 0, 1), (3, .bipush 19, 2), (5, .invokevirtual 217, 3), (8, .ifCond .eq 20, 3), (11, .iload_n 1, 1), (12, .aload_n 0, 1), (13, .getfield 198, 3), (16, .if_icmp .ge 12, 3), (19, .aload_n 0, 1), (20, .getfield 201, 3), (23, .iload_n 1, 1), (24, .iaload, 1), (25, .goto 4, 3), (28, .iconst (-1), 1), (29, .ireturn, 1)]
set_option maxRecDepth 20000 in
theorem eX11_trace : zq_dec tX11_trace cX11_trace := by unfold zq_dec; decide +kernel
abbrev YX11_taken : zq_Y := (yX11_taken, cX11_taken, 4, some .int)
def tX11_taken : List (Nat × Instr × Nat) := [(0, .aload_n 0, 1), (1, .iload_n 2, 1), (2, .iconst 0, 1), (3, .bipush 6, 2), (5, .invokevirtual 217, 3), (8, .ifCond .ne 6, 3), (11, .bipush (-2), 2), (13, .ireturn, 1), (14, .aload_n 0, 1), (15, .iload_n 1, 1), (16, .invokevirtual 259, 3), (19, .ifCond .ne 6, 3), (22, .bipush (-11), 2), (24, .ireturn, 1), (25, .aload_n 0, 1), (26, .getfield 32, 3), (29, .iload_n 1, 1), (30, .iaload, 1), (31, .istore_n 3, 1), (32, .iload_n 2, 1), (33, .ifCond .eq 39, 3), (36, .iload_n 3, 1), (37, .iload_n 2, 1), (38, .if_icmp .eq 34, 3), (41, .iload_n 2, 1), (42, .iconst 1, 1), (43, .if_icmp .ne 8, 3), (46, .iload_n 3, 1), (47, .iconst 4, 1), (48, .if_icmp .eq 24, 3), (51, .iload_n 2, 1), (52, .iconst 2, 1), (53, .if_icmp .ne 8, 3), (56, .iload_n 3, 1), (57, .iconst 5, 1), (58, .if_icmp .eq 14, 3), (61, .iload_n 2, 1), (62, .iconst 3, 1), (63, .if_icmp .ne 13, 3), (66, .iload_n 3, 1), (67, .bipush 6, 2), (69, .if_icmp .ne 7, 3), (72, .iload_n 3, 1), (73, .goto 5, 3), (76, .bipush (-12), 2), (78, .ireturn, 1)]
set_option maxRecDepth 20000 in
theorem eX11_taken : zq_dec tX11_taken cX11_taken := by unfold zq_dec; decide +kernel
abbrev YX11_count : zq_Y := (yX11_count, cX11_count, 2, some .int)
def tX11_count : List (Nat × Instr × Nat) := [(0, .iload_n 1, 1), (1, .tableswitch 69 0 5 #[39, 44, 49, 54, 59, 64], 39), (40, .aload_n 0, 1), (41, .getfield 7, 3), (44, .ireturn, 1), (45, .aload_n 0, 1), (46, .getfield 41, 3), (49, .ireturn, 1), (50, .aload_n 0, 1), (51, .getfield 121, 3), (54, .ireturn, 1), (55, .aload_n 0, 1), (56, .getfield 140, 3), (59, .ireturn, 1), (60, .aload_n 0, 1), (61, .getfield 47, 3), (64, .ireturn, 1), (65, .aload_n 0, 1), (66, .getfield 198, 3), (69, .ireturn, 1), (70, .bipush (-2), 2), (72, .ireturn, 1)]
set_option maxRecDepth 20000 in
theorem eX11_count : zq_dec tX11_count cX11_count := by unfold zq_dec; decide +kernel
abbrev YX11_isTape : zq_Y := (yX11_isTape, cX11_isTape, 2, some .boolean)
def tX11_isTape : List (Nat × Instr × Nat) := [(0, .aload_n 0, 1), (1, .iload_n 1, 1), (2, .iconst 0, 1), (3, .iconst 5, 1), (4, .invokevirtual 217, 3), (7, .ireturn, 1)]
set_option maxRecDepth 20000 in
theorem eX11_isTape : zq_dec tX11_isTape cX11_isTape := by unfold zq_dec; decide +kernel
abbrev YX11_tape : zq_Y := (yX11_tape, cX11_tape, 5, some .int)
def tX11_tape : List (Nat × Instr × Nat) := [(0, .aload_n 0, 1), (1, .iload_n 1, 1), (2, .invokevirtual 428, 3), (5, .ifCond .ne 5, 3), (8, .iconst (-1), 1), (9, .ireturn, 1), (10, .aload_n 0, 1), (11, .iload_n 2, 1), (12, .iconst (-1), 1), (13, .iconst 4, 1), (14, .invokevirtual 217, 3), (17, .ifCond .eq 13, 3), (20, .iload_n 2, 1), (21, .ifCond .lt 12, 3), (24, .iload_n 3, 1), (25, .bipush 60, 2), (27, .if_icmp .le 6, 3), (30, .bipush (-2), 2), (32, .ireturn, 1), (33, .iload_n 2, 1), (34, .ifCond .lt 10, 3), (37, .iload_n 3, 1), (38, .ifCond .ge 6, 3), (41, .bipush (-14), 2), (43, .ireturn, 1), (44, .aload_n 0, 1), (45, .getfield 204, 3), (48, .iload_n 1, 1), (49, .iload_n 2, 1), (50, .iastore, 1), (51, .aload_n 0, 1), (52, .getfield 207, 3), (55, .iload_n 1, 1), (56, .iload_n 2, 1), (57, .ifCond .ge 7, 3), (60, .iconst 0, 1), (61, .goto 4, 3), (64, .iload_n 3, 1), (65, .iastore, 1), (66, .iconst 0, 1), (67, .istore 4, 2), (69, .iload 4, 2), (71, .bipush 60, 2), (73, .if_icmp .ge 22, 3), (76, .aload_n 0, 1), (77, .getfield 210, 3), (80, .bipush 60, 2), (82, .iload_n 1, 1), (83, .imul, 1), (84, .iload 4, 2), (86, .iadd, 1), (87, .lconst 0, 1), (88, .lastore, 1), (89, .iinc 4 1, 3), (92, .goto (-23), 3), (95, .iconst 1, 1), (96, .ireturn, 1)]
set_option maxRecDepth 20000 in
theorem eX11_tape : zq_dec tX11_tape cX11_tape := by unfold zq_dec; decide +kernel
abbrev YX11_narrow : zq_Y := (yX11_narrow, cX11_narrow, 4, some .long)
def tX11_narrow : List (Nat × Instr × Nat) := [(0, .iload_n 1, 1), (1, .ifCond .ne 10, 3), (4, .lload_n 2, 1), (5, .l2i, 1), (6, .i2b, 1), (7, .i2l, 1), (8, .goto 46, 3), (11, .iload_n 1, 1), (12, .iconst 1, 1), (13, .if_icmp .ne 10, 3), (16, .lload_n 2, 1), (17, .l2i, 1), (18, .i2s, 1), (19, .i2l, 1), (20, .goto 34, 3), (23, .iload_n 1, 1), (24, .iconst 2, 1), (25, .if_icmp .ne 9, 3), (28, .lload_n 2, 1), (29, .l2i, 1), (30, .i2l, 1), (31, .goto 23, 3), (34, .iload_n 1, 1), (35, .iconst 4, 1), (36, .if_icmp .ne 17, 3), (39, .lload_n 2, 1), (40, .lconst 0, 1), (41, .lcmp, 1), (42, .ifCond .eq 7, 3), (45, .lconst 1, 1), (46, .goto 8, 3), (49, .lconst 0, 1), (50, .goto 4, 3), (53, .lload_n 2, 1), (54, .lreturn, 1)]
set_option maxRecDepth 20000 in
theorem eX11_narrow : zq_dec tX11_narrow cX11_narrow := by unfold zq_dec; decide +kernel
abbrev YX11_item : zq_Y := (yX11_item, cX11_item, 5, some .int)
def tX11_item : List (Nat × Instr × Nat) := [(0, .aload_n 0, 1), (1, .iload_n 1, 1), (2, .invokevirtual 428, 3), (5, .ifCond .ne 5, 3), (8, .iconst (-1), 1), (9, .ireturn, 1), (10, .aload_n 0, 1), (11, .getfield 204, 3), (14, .iload_n 1, 1), (15, .iaload, 1), (16, .ifCond .ge 6, 3), (19, .bipush (-11), 2), (21, .ireturn, 1), (22, .aload_n 0, 1), (23, .iload_n 2, 1), (24, .iconst 0, 1), (25, .aload_n 0, 1), (26, .getfield 207, 3), (29, .iload_n 1, 1), (30, .iaload, 1), (31, .iconst 1, 1), (32, .isub, 1), (33, .invokevirtual 217, 3), (36, .ifCond .ne 6, 3), (39, .bipush (-13), 2), (41, .ireturn, 1), (42, .aload_n 0, 1), (43, .getfield 210, 3), (46, .bipush 60, 2), (48, .iload_n 1, 1), (49, .imul, 1), (50, .iload_n 2, 1), (51, .iadd, 1), (52, .aload_n 0, 1), (53, .aload_n 0, 1), (54, .getfield 204, 3), (57, .iload_n 1, 1), (58, .iaload, 1), (59, .lload_n 3, 1), (60, .invokevirtual 455, 3), (63, .lastore, 1), (64, .iconst 1, 1), (65, .ireturn, 1)]
set_option maxRecDepth 20000 in
theorem eX11_item : zq_dec tX11_item cX11_item := by unfold zq_dec; decide +kernel
abbrev YX11_read : zq_Y := (yX11_read, cX11_read, 3, some .long)
def tX11_read : List (Nat × Instr × Nat) := [(0, .aload_n 0, 1), (1, .iload_n 1, 1), (2, .invokevirtual 428, 3), (5, .ifCond .eq 29, 3), (8, .aload_n 0, 1), (9, .getfield 204, 3), (12, .iload_n 1, 1), (13, .iaload, 1), (14, .ifCond .lt 20, 3), (17, .aload_n 0, 1), (18, .iload_n 2, 1), (19, .iconst 0, 1), (20, .aload_n 0, 1), (21, .getfield 207, 3), (24, .iload_n 1, 1), (25, .iaload, 1), (26, .iconst 1, 1), (27, .isub, 1), (28, .invokevirtual 217, 3), (31, .ifCond .ne 9, 3), (34, .ldc2_w 422, 3), (37, .goto 14, 3), (40, .aload_n 0, 1), (41, .getfield 210, 3), (44, .bipush 60, 2), (46, .iload_n 1, 1), (47, .imul, 1), (48, .iload_n 2, 1), (49, .iadd, 1), (50, .laload, 1), (51, .lreturn, 1)]
set_option maxRecDepth 20000 in
theorem eX11_read : zq_dec tX11_read cX11_read := by unfold zq_dec; decide +kernel
abbrev YX11_shift : zq_Y := (yX11_shift, cX11_shift, 7, some .int)
def tX11_shift : List (Nat × Instr × Nat) := [(0, .aload_n 0, 1), (1, .iload_n 1, 1), (2, .invokevirtual 428, 3), (5, .ifCond .eq 11, 3), (8, .aload_n 0, 1), (9, .iload_n 3, 1), (10, .invokevirtual 428, 3), (13, .ifCond .ne 5, 3), (16, .iconst (-1), 1), (17, .ireturn, 1), (18, .aload_n 0, 1), (19, .getfield 204, 3), (22, .iload_n 1, 1), (23, .iaload, 1), (24, .ifCond .lt 12, 3), (27, .aload_n 0, 1), (28, .getfield 204, 3), (31, .iload_n 3, 1), (32, .iaload, 1), (33, .ifCond .ge 6, 3), (36, .bipush (-11), 2), (38, .ireturn, 1), (39, .aload_n 0, 1), (40, .getfield 204, 3), (43, .iload_n 1, 1), (44, .iaload, 1), (45, .aload_n 0, 1), (46, .getfield 204, 3), (49, .iload_n 3, 1), (50, .iaload, 1), (51, .if_icmp .eq 6, 3), (54, .bipush (-12), 2), (56, .ireturn, 1), (57, .iload 5, 2), (59, .ifCond .lt 39, 3), (62, .iload_n 2, 1), (63, .ifCond .lt 35, 3), (66, .iload 4, 2), (68, .ifCond .lt 30, 3), (71, .iload_n 2, 1), (72, .aload_n 0, 1), (73, .getfield 207, 3), (76, .iload_n 1, 1), (77, .iaload, 1), (78, .iload 5, 2), (80, .isub, 1), (81, .if_icmp .gt 17, 3), (84, .iload 4, 2), (86, .aload_n 0, 1), (87, .getfield 207, 3), (90, .iload_n 3, 1), (91, .iaload, 1), (92, .iload 5, 2), (94, .isub, 1), (95, .if_icmp .le 6, 3), (98, .bipush (-13), 2), (100, .ireturn, 1), (101, .iconst 0, 1), (102, .istore 6, 2), (104, .iload 6, 2), (106, .iload 5, 2), (108, .if_icmp .ge 30, 3), (111, .aload_n 0, 1), (112, .getfield 214, 3), (115, .iload 6, 2), (117, .aload_n 0, 1), (118, .getfield 210, 3), (121, .bipush 60, 2), (123, .iload_n 1, 1), (124, .imul, 1), (125, .iload_n 2, 1), (126, .iadd, 1), (127, .iload 6, 2), (129, .iadd, 1), (130, .laload, 1), (131, .lastore, 1), (132, .iinc 6 1, 3), (135, .goto (-31), 3), (138, .iconst 0, 1), (139, .istore 6, 2), (141, .iload 6, 2), (143, .iload 5, 2), (145, .if_icmp .ge 31, 3), (148, .aload_n 0, 1), (149, .getfield 210, 3), (152, .bipush 60, 2), (154, .iload_n 3, 1), (155, .imul, 1), (156, .iload 4, 2), (158, .iadd, 1), (159, .iload 6, 2), (161, .iadd, 1), (162, .aload_n 0, 1), (163, .getfield 214, 3), (166, .iload 6, 2), (168, .laload, 1), (169, .lastore, 1), (170, .iinc 6 1, 3), (173, .goto (-32), 3), (176, .iload 5, 2), (178, .ireturn, 1)]
set_option maxRecDepth 20000 in
theorem eX11_shift : zq_dec tX11_shift cX11_shift := by unfold zq_dec; decide +kernel
abbrev YJ6_bitCount_0f7a4 : zq_Y := (yJ6_bitCount_0f7a4, cJ6_bitCount_0f7a4, 1, some .int)
def tJ6_bitCount_0f7a4 : List (Nat × Instr × Nat) := [(0, .iload_n 0, 1), (1, .iload_n 0, 1), (2, .iconst 1, 1), (3, .iushr, 1), (4, .ldc_w 265, 3), (7, .iand, 1), (8, .isub, 1), (9, .istore_n 0, 1), (10, .iload_n 0, 1), (11, .ldc_w 266, 3), (14, .iand, 1), (15, .iload_n 0, 1), (16, .iconst 2, 1), (17, .iushr, 1), (18, .ldc_w 266, 3), (21, .iand, 1), (22, .iadd, 1), (23, .istore_n 0, 1), (24, .iload_n 0, 1), (25, .iload_n 0, 1), (26, .iconst 4, 1), (27, .iushr, 1), (28, .iadd, 1), (29, .ldc_w 267, 3), (32, .iand, 1), (33, .istore_n 0, 1), (34, .iload_n 0, 1), (35, .iload_n 0, 1), (36, .bipush 8, 2), (38, .iushr, 1), (39, .iadd, 1), (40, .istore_n 0, 1), (41, .iload_n 0, 1), (42, .iload_n 0, 1), (43, .bipush 16, 2), (45, .iushr, 1), (46, .iadd, 1), (47, .istore_n 0, 1), (48, .iload_n 0, 1), (49, .bipush 63, 2), (51, .iand, 1), (52, .ireturn, 1)]
set_option maxRecDepth 20000 in
theorem eJ6_bitCount_0f7a4 : zq_dec tJ6_bitCount_0f7a4 cJ6_bitCount_0f7a4 := by unfold zq_dec; decide +kernel
abbrev YJ0_length_8abf5 : zq_Y := (yJ0_length_8abf5, cJ0_length_8abf5, 1, some .int)
def tJ0_length_8abf5 : List (Nat × Instr × Nat) := [(0, .aload_n 0, 1), (1, .getfield 9, 3), (4, .arraylength, 1), (5, .aload_n 0, 1), (6, .invokevirtual 335, 3), (9, .ishr, 1), (10, .ireturn, 1)]
set_option maxRecDepth 20000 in
theorem eJ0_length_8abf5 : zq_dec tJ0_length_8abf5 cJ0_length_8abf5 := by unfold zq_dec; decide +kernel
abbrev YJ0_charAt_5068e : zq_Y := (yJ0_charAt_5068e, cJ0_charAt_5068e, 2, some .char)
def tJ0_charAt_5068e : List (Nat × Instr × Nat) := [(0, .aload_n 0, 1), (1, .invokevirtual 492, 3), (4, .ifCond .eq 12, 3), (7, .aload_n 0, 1), (8, .getfield 9, 3), (11, .iload_n 1, 1), (12, .invokestatic 495, 3), (15, .ireturn, 1), (16, .aload_n 0, 1), (17, .getfield 9, 3), (20, .iload_n 1, 1), (21, .invokestatic 498, 3), (24, .ireturn, 1)]
set_option maxRecDepth 20000 in
theorem eJ0_charAt_5068e : zq_dec tJ0_charAt_5068e cJ0_charAt_5068e := by unfold zq_dec; decide +kernel
abbrev YJ0_indexOf_0f7a4 : zq_Y := (yJ0_indexOf_0f7a4, cJ0_indexOf_0f7a4, 2, some .int)
def tJ0_indexOf_0f7a4 : List (Nat × Instr × Nat) := [(0, .aload_n 0, 1), (1, .iload_n 1, 1), (2, .iconst 0, 1), (3, .invokevirtual 633, 3), (6, .ireturn, 1)]
set_option maxRecDepth 20000 in
theorem eJ0_indexOf_0f7a4 : zq_dec tJ0_indexOf_0f7a4 cJ0_indexOf_0f7a4 := by unfold zq_dec; decide +kernel
abbrev YJ0_indexOf_7cf53 : zq_Y := (yJ0_indexOf_7cf53, cJ0_indexOf_7cf53, 3, some .int)
def tJ0_indexOf_7cf53 : List (Nat × Instr × Nat) := [(0, .aload_n 0, 1), (1, .invokevirtual 492, 3), (4, .ifCond .eq 19, 3), (7, .aload_n 0, 1), (8, .getfield 9, 3), (11, .iload_n 1, 1), (12, .iload_n 2, 1), (13, .aload_n 0, 1), (14, .invokevirtual 505, 3), (17, .invokestatic 637, 3), (20, .goto 16, 3), (23, .aload_n 0, 1), (24, .getfield 9, 3), (27, .iload_n 1, 1), (28, .iload_n 2, 1), (29, .aload_n 0, 1), (30, .invokevirtual 505, 3), (33, .invokestatic 640, 3), (36, .ireturn, 1)]
set_option maxRecDepth 20000 in
theorem eJ0_indexOf_7cf53 : zq_dec tJ0_indexOf_7cf53 cJ0_indexOf_7cf53 := by unfold zq_dec; decide +kernel
abbrev YJ0_coder_7d493 : zq_Y := (yJ0_coder_7d493, cJ0_coder_7d493, 1, some .byte)
def tJ0_coder_7d493 : List (Nat × Instr × Nat) := [(0, .getstatic 38, 3), (3, .ifCond .eq 10, 3), (6, .aload_n 0, 1), (7, .getfield 15, 3), (10, .goto 4, 3), (13, .iconst 1, 1), (14, .ireturn, 1)]
set_option maxRecDepth 20000 in
theorem eJ0_coder_7d493 : zq_dec tJ0_coder_7d493 cJ0_coder_7d493 := by unfold zq_dec; decide +kernel
abbrev YJ0_isLatin1_aae02 : zq_Y := (yJ0_isLatin1_aae02, cJ0_isLatin1_aae02, 1, some .boolean)
def tJ0_isLatin1_aae02 : List (Nat × Instr × Nat) := [(0, .getstatic 38, 3), (3, .ifCond .eq 14, 3), (6, .aload_n 0, 1), (7, .getfield 15, 3), (10, .ifCond .ne 7, 3), (13, .iconst 1, 1), (14, .goto 4, 3), (17, .iconst 0, 1), (18, .ireturn, 1)]
set_option maxRecDepth 20000 in
theorem eJ0_isLatin1_aae02 : zq_dec tJ0_isLatin1_aae02 cJ0_isLatin1_aae02 := by unfold zq_dec; decide +kernel
abbrev YJ0_checkIndex_df160 : zq_Y := (yJ0_checkIndex_df160, cJ0_checkIndex_df160, 2, none)
def tJ0_checkIndex_df160 : List (Nat × Instr × Nat) := [(0, .iload_n 0, 1), (1, .iload_n 1, 1), (2, .getstatic 1053, 3), (5, .invokestatic 1059, 3), (8, .pop, 1), (9, .return_, 1)]
set_option maxRecDepth 20000 in
theorem eJ0_checkIndex_df160 : zq_dec tJ0_checkIndex_df160 cJ0_checkIndex_df160 := by unfold zq_dec; decide +kernel
abbrev YJ1_charAt_3b067 : zq_Y := (yJ1_charAt_3b067, cJ1_charAt_3b067, 2, some .char)
def tJ1_charAt_3b067 : List (Nat × Instr × Nat) := [(0, .iload_n 1, 1), (1, .aload_n 0, 1), (2, .arraylength, 1), (3, .invokestatic 9, 3), (6, .aload_n 0, 1), (7, .iload_n 1, 1), (8, .baload, 1), (9, .sipush 255, 3), (12, .iand, 1), (13, .i2c, 1), (14, .ireturn, 1)]
set_option maxRecDepth 20000 in
theorem eJ1_charAt_3b067 : zq_dec tJ1_charAt_3b067 cJ1_charAt_3b067 := by unfold zq_dec; decide +kernel
abbrev YJ1_canEncode_9a6ad : zq_Y := (yJ1_canEncode_9a6ad, cJ1_canEncode_9a6ad, 1, some .boolean)
def tJ1_canEncode_9a6ad : List (Nat × Instr × Nat) := [(0, .iload_n 0, 1), (1, .ifCond .lt 14, 3), (4, .iload_n 0, 1), (5, .sipush 255, 3), (8, .if_icmp .gt 7, 3), (11, .iconst 1, 1), (12, .goto 4, 3), (15, .iconst 0, 1), (16, .ireturn, 1)]
set_option maxRecDepth 20000 in
theorem eJ1_canEncode_9a6ad : zq_dec tJ1_canEncode_9a6ad cJ1_canEncode_9a6ad := by unfold zq_dec; decide +kernel
abbrev YJ1_indexOf_4cfef : zq_Y := (yJ1_indexOf_4cfef, cJ1_indexOf_4cfef, 4, some .int)
def tJ1_indexOf_4cfef : List (Nat × Instr × Nat) := [(0, .iload_n 1, 1), (1, .invokestatic 88, 3), (4, .ifCond .ne 5, 3), (7, .iconst (-1), 1), (8, .ireturn, 1), (9, .iload_n 2, 1), (10, .iconst 0, 1), (11, .invokestatic 92, 3), (14, .istore_n 2, 1), (15, .iload_n 3, 1), (16, .aload_n 0, 1), (17, .arraylength, 1), (18, .invokestatic 38, 3), (21, .istore_n 3, 1), (22, .iload_n 2, 1), (23, .iload_n 3, 1), (24, .if_icmp .lt 5, 3), (27, .iconst (-1), 1), (28, .ireturn, 1), (29, .aload_n 0, 1), (30, .iload_n 1, 1), (31, .iload_n 2, 1), (32, .iload_n 3, 1), (33, .invokestatic 95, 3), (36, .ireturn, 1)]
set_option maxRecDepth 20000 in
theorem eJ1_indexOf_4cfef : zq_dec tJ1_indexOf_4cfef cJ1_indexOf_4cfef := by unfold zq_dec; decide +kernel
abbrev YJ1_indexOfChar_4cfef : zq_Y := (yJ1_indexOfChar_4cfef, cJ1_indexOfChar_4cfef, 6, some .int)
def tJ1_indexOfChar_4cfef : List (Nat × Instr × Nat) := [(0, .iload_n 1, 1), (1, .i2b, 1), (2, .istore 4, 2), (4, .iload_n 2, 1), (5, .istore 5, 2), (7, .iload 5, 2), (9, .iload_n 3, 1), (10, .if_icmp .ge 21, 3), (13, .aload_n 0, 1), (14, .iload 5, 2), (16, .baload, 1), (17, .iload 4, 2), (19, .if_icmp .ne 6, 3), (22, .iload 5, 2), (24, .ireturn, 1), (25, .iinc 5 1, 3), (28, .goto (-21), 3), (31, .iconst (-1), 1), (32, .ireturn, 1)]
set_option maxRecDepth 20000 in
theorem eJ1_indexOfChar_4cfef : zq_dec tJ1_indexOfChar_4cfef cJ1_indexOfChar_4cfef := by unfold zq_dec; decide +kernel
abbrev YJ7_fill_d0a16 : zq_Y := (yJ7_fill_d0a16, cJ7_fill_d0a16, 5, none)
def tJ7_fill_d0a16 : List (Nat × Instr × Nat) := [(0, .iconst 0, 1), (1, .istore_n 3, 1), (2, .aload_n 0, 1), (3, .arraylength, 1), (4, .istore 4, 2), (6, .iload_n 3, 1), (7, .iload 4, 2), (9, .if_icmp .ge 13, 3), (12, .aload_n 0, 1), (13, .iload_n 3, 1), (14, .lload_n 1, 1), (15, .lastore, 1), (16, .iinc 3 1, 3), (19, .goto (-13), 3), (22, .return_, 1)]
set_option maxRecDepth 20000 in
theorem eJ7_fill_d0a16 : zq_dec tJ7_fill_d0a16 cJ7_fill_d0a16 := by unfold zq_dec; decide +kernel
abbrev YJ7_fill_53178 : zq_Y := (yJ7_fill_53178, cJ7_fill_53178, 4, none)
def tJ7_fill_53178 : List (Nat × Instr × Nat) := [(0, .iconst 0, 1), (1, .istore_n 2, 1), (2, .aload_n 0, 1), (3, .arraylength, 1), (4, .istore_n 3, 1), (5, .iload_n 2, 1), (6, .iload_n 3, 1), (7, .if_icmp .ge 13, 3), (10, .aload_n 0, 1), (11, .iload_n 2, 1), (12, .iload_n 1, 1), (13, .iastore, 1), (14, .iinc 2 1, 3), (17, .goto (-12), 3), (20, .return_, 1)]
set_option maxRecDepth 20000 in
theorem eJ7_fill_53178 : zq_dec tJ7_fill_53178 cJ7_fill_53178 := by unfold zq_dec; decide +kernel
abbrev YJ3_checkIndex_8e157 : zq_Y := (yJ3_checkIndex_8e157, cJ3_checkIndex_8e157, 3, some .int)
def tJ3_checkIndex_8e157 : List (Nat × Instr × Nat) := [(0, .iload_n 0, 1), (1, .ifCond .lt 8, 3), (4, .iload_n 0, 1), (5, .iload_n 1, 1), (6, .if_icmp .lt 10, 3), (9, .aload_n 2, 1), (10, .iload_n 0, 1), (11, .iload_n 1, 1), (12, .invokestatic 95, 3), (15, .athrow, 1), (16, .iload_n 0, 1), (17, .ireturn, 1)]
set_option maxRecDepth 20000 in
theorem eJ3_checkIndex_8e157 : zq_dec tJ3_checkIndex_8e157 cJ3_checkIndex_8e157 := by unfold zq_dec; decide +kernel
end
section
theorem zd_X0_init : zq_cd YX0_init 0 ∧ Cond.instanceMethod yX0_init ∈ zq_T := ⟨⟨zq_mem 411 (by decide +kernel) rfl, zq_mem 133 (by decide +kernel) rfl, ⟨by decide +kernel, by decide +kernel, by decide +kernel⟩, by decide +kernel, Nat.le_of_ble_eq_true rfl⟩, zq_mem 410 (by decide +kernel) rfl⟩
theorem zd_X0_forget : zq_cd YX0_forget 0 ∧ Cond.instanceMethod yX0_forget ∈ zq_T ∧ Cond.selects yX0_forget.cls yX0_forget yX0_forget ∈ zq_T := ⟨⟨zq_mem 1114 (by decide +kernel) rfl, zq_mem 133 (by decide +kernel) rfl, ⟨by decide +kernel, by decide +kernel, by decide +kernel⟩, by decide +kernel, Nat.le_of_ble_eq_true rfl⟩, zq_mem 1112 (by decide +kernel) rfl, zq_mem 1113 (by decide +kernel) rfl⟩
theorem zd_X0_bodyAt : zq_cd YX0_bodyAt 1 ∧ Cond.instanceMethod yX0_bodyAt ∈ zq_T ∧ Cond.selects yX0_bodyAt.cls yX0_bodyAt yX0_bodyAt ∈ zq_T := ⟨⟨zq_mem 1141 (by decide +kernel) rfl, zq_mem 133 (by decide +kernel) rfl, ⟨by decide +kernel, by decide +kernel, by decide +kernel⟩, by decide +kernel, Nat.le_of_ble_eq_true rfl⟩, zq_mem 1139 (by decide +kernel) rfl, zq_mem 1140 (by decide +kernel) rfl⟩
theorem zd_X0_start : zq_cd YX0_start 5 ∧ Cond.instanceMethod yX0_start ∈ zq_T ∧ Cond.selects yX0_start.cls yX0_start yX0_start ∈ zq_T := ⟨⟨zq_mem 1118 (by decide +kernel) rfl, zq_mem 133 (by decide +kernel) rfl, ⟨by decide +kernel, by decide +kernel, by decide +kernel⟩, by decide +kernel, Nat.le_of_ble_eq_true rfl⟩, zq_mem 1116 (by decide +kernel) rfl, zq_mem 1117 (by decide +kernel) rfl⟩
theorem zd_X0_bodyFrom : zq_cd YX0_bodyFrom 2 ∧ Cond.static yX0_bodyFrom ∈ zq_T := ⟨⟨zq_mem 1125 (by decide +kernel) rfl, zq_mem 133 (by decide +kernel) rfl, ⟨by decide +kernel, by decide +kernel, by decide +kernel⟩, by decide +kernel, Nat.le_of_ble_eq_true rfl⟩, zq_mem 1124 (by decide +kernel) rfl⟩
theorem zd_X0_doFrom : zq_cd YX0_doFrom 4 ∧ Cond.instanceMethod yX0_doFrom ∈ zq_T ∧ Cond.selects yX0_doFrom.cls yX0_doFrom yX0_doFrom ∈ zq_T := ⟨⟨zq_mem 1122 (by decide +kernel) rfl, zq_mem 133 (by decide +kernel) rfl, ⟨by decide +kernel, by decide +kernel, by decide +kernel⟩, by decide +kernel, Nat.le_of_ble_eq_true rfl⟩, zq_mem 1121 (by decide +kernel) rfl, zq_mem 46 (by decide +kernel) rfl⟩
theorem zd_X0_note : zq_cd YX0_note 1 ∧ Cond.instanceMethod yX0_note ∈ zq_T ∧ Cond.selects yX0_note.cls yX0_note yX0_note ∈ zq_T := ⟨⟨zq_mem 1133 (by decide +kernel) rfl, zq_mem 133 (by decide +kernel) rfl, ⟨by decide +kernel, by decide +kernel, by decide +kernel⟩, by decide +kernel, Nat.le_of_ble_eq_true rfl⟩, zq_mem 1132 (by decide +kernel) rfl, zq_mem 47 (by decide +kernel) rfl⟩
theorem zd_X1_init : zq_cd YX1_init 1 ∧ Cond.instanceMethod yX1_init ∈ zq_T := ⟨⟨zq_mem 360 (by decide +kernel) rfl, zq_mem 130 (by decide +kernel) rfl, ⟨by decide +kernel, by decide +kernel, by decide +kernel⟩, by decide +kernel, Nat.le_of_ble_eq_true rfl⟩, zq_mem 359 (by decide +kernel) rfl⟩
theorem zd_X1_setsOfOneWithout : zq_cd YX1_setsOfOneWithout 2 ∧ Cond.static yX1_setsOfOneWithout ∈ zq_T := ⟨⟨zq_mem 988 (by decide +kernel) rfl, zq_mem 130 (by decide +kernel) rfl, ⟨by decide +kernel, by decide +kernel, by decide +kernel⟩, by decide +kernel, Nat.le_of_ble_eq_true rfl⟩, zq_mem 987 (by decide +kernel) rfl⟩
theorem zd_X1_fewestTill : zq_cd YX1_fewestTill 2 ∧ Cond.instanceMethod yX1_fewestTill ∈ zq_T ∧ Cond.selects yX1_fewestTill.cls yX1_fewestTill yX1_fewestTill ∈ zq_T := ⟨⟨zq_mem 947 (by decide +kernel) rfl, zq_mem 130 (by decide +kernel) rfl, ⟨by decide +kernel, by decide +kernel, by decide +kernel⟩, by decide +kernel, Nat.le_of_ble_eq_true rfl⟩, zq_mem 945 (by decide +kernel) rfl, zq_mem 946 (by decide +kernel) rfl⟩
theorem zd_X1_goOn : zq_cd YX1_goOn 0 ∧ Cond.instanceMethod yX1_goOn ∈ zq_T ∧ Cond.selects yX1_goOn.cls yX1_goOn yX1_goOn ∈ zq_T := ⟨⟨zq_mem 953 (by decide +kernel) rfl, zq_mem 130 (by decide +kernel) rfl, ⟨by decide +kernel, by decide +kernel, by decide +kernel⟩, by decide +kernel, Nat.le_of_ble_eq_true rfl⟩, zq_mem 952 (by decide +kernel) rfl, zq_mem 32 (by decide +kernel) rfl⟩
theorem zd_X1_leave : zq_cd YX1_leave 1 ∧ Cond.instanceMethod yX1_leave ∈ zq_T ∧ Cond.selects yX1_leave.cls yX1_leave yX1_leave ∈ zq_T := ⟨⟨zq_mem 957 (by decide +kernel) rfl, zq_mem 130 (by decide +kernel) rfl, ⟨by decide +kernel, by decide +kernel, by decide +kernel⟩, by decide +kernel, Nat.le_of_ble_eq_true rfl⟩, zq_mem 956 (by decide +kernel) rfl, zq_mem 33 (by decide +kernel) rfl⟩
theorem zd_X1_sayAll : zq_cd YX1_sayAll 1 ∧ Cond.instanceMethod yX1_sayAll ∈ zq_T ∧ Cond.selects yX1_sayAll.cls yX1_sayAll yX1_sayAll ∈ zq_T := ⟨⟨zq_mem 972 (by decide +kernel) rfl, zq_mem 130 (by decide +kernel) rfl, ⟨by decide +kernel, by decide +kernel, by decide +kernel⟩, by decide +kernel, Nat.le_of_ble_eq_true rfl⟩, zq_mem 971 (by decide +kernel) rfl, zq_mem 35 (by decide +kernel) rfl⟩
theorem zd_X1_tellSpeakers : zq_cd YX1_tellSpeakers 1 ∧ Cond.instanceMethod yX1_tellSpeakers ∈ zq_T ∧ Cond.selects yX1_tellSpeakers.cls yX1_tellSpeakers yX1_tellSpeakers ∈ zq_T := ⟨⟨zq_mem 966 (by decide +kernel) rfl, zq_mem 130 (by decide +kernel) rfl, ⟨by decide +kernel, by decide +kernel, by decide +kernel⟩, by decide +kernel, Nat.le_of_ble_eq_true rfl⟩, zq_mem 965 (by decide +kernel) rfl, zq_mem 34 (by decide +kernel) rfl⟩
theorem zd_X1_saidIn : zq_cd YX1_saidIn 1 ∧ Cond.instanceMethod yX1_saidIn ∈ zq_T ∧ Cond.selects yX1_saidIn.cls yX1_saidIn yX1_saidIn ∈ zq_T := ⟨⟨zq_mem 976 (by decide +kernel) rfl, zq_mem 130 (by decide +kernel) rfl, ⟨by decide +kernel, by decide +kernel, by decide +kernel⟩, by decide +kernel, Nat.le_of_ble_eq_true rfl⟩, zq_mem 975 (by decide +kernel) rfl, zq_mem 36 (by decide +kernel) rfl⟩
theorem zd_X1_knowingThen : zq_cd YX1_knowingThen 1 ∧ Cond.instanceMethod yX1_knowingThen ∈ zq_T ∧ Cond.selects yX1_knowingThen.cls yX1_knowingThen yX1_knowingThen ∈ zq_T := ⟨⟨zq_mem 981 (by decide +kernel) rfl, zq_mem 130 (by decide +kernel) rfl, ⟨by decide +kernel, by decide +kernel, by decide +kernel⟩, by decide +kernel, Nat.le_of_ble_eq_true rfl⟩, zq_mem 980 (by decide +kernel) rfl, zq_mem 37 (by decide +kernel) rfl⟩
theorem zd_X2_init : zq_cd YX2_init 0 ∧ Cond.instanceMethod yX2_init ∈ zq_T := ⟨⟨zq_mem 246 (by decide +kernel) rfl, zq_mem 126 (by decide +kernel) rfl, ⟨by decide +kernel, by decide +kernel, by decide +kernel⟩, by decide +kernel, Nat.le_of_ble_eq_true rfl⟩, zq_mem 245 (by decide +kernel) rfl⟩
theorem zd_X2_addStep : zq_cd YX2_addStep 1 ∧ Cond.instanceMethod yX2_addStep ∈ zq_T ∧ Cond.selects yX2_addStep.cls yX2_addStep yX2_addStep ∈ zq_T := ⟨⟨zq_mem 750 (by decide +kernel) rfl, zq_mem 126 (by decide +kernel) rfl, ⟨by decide +kernel, by decide +kernel, by decide +kernel⟩, by decide +kernel, Nat.le_of_ble_eq_true rfl⟩, zq_mem 748 (by decide +kernel) rfl, zq_mem 749 (by decide +kernel) rfl⟩
theorem zd_X2_addTest : zq_cd YX2_addTest 3 ∧ Cond.instanceMethod yX2_addTest ∈ zq_T ∧ Cond.selects yX2_addTest.cls yX2_addTest yX2_addTest ∈ zq_T := ⟨⟨zq_mem 746 (by decide +kernel) rfl, zq_mem 126 (by decide +kernel) rfl, ⟨by decide +kernel, by decide +kernel, by decide +kernel⟩, by decide +kernel, Nat.le_of_ble_eq_true rfl⟩, zq_mem 744 (by decide +kernel) rfl, zq_mem 745 (by decide +kernel) rfl⟩
theorem zd_X2_addClause : zq_cd YX2_addClause 2 ∧ Cond.instanceMethod yX2_addClause ∈ zq_T ∧ Cond.selects yX2_addClause.cls yX2_addClause yX2_addClause ∈ zq_T := ⟨⟨zq_mem 755 (by decide +kernel) rfl, zq_mem 126 (by decide +kernel) rfl, ⟨by decide +kernel, by decide +kernel, by decide +kernel⟩, by decide +kernel, Nat.le_of_ble_eq_true rfl⟩, zq_mem 753 (by decide +kernel) rfl, zq_mem 754 (by decide +kernel) rfl⟩
theorem zd_X2_together : zq_cd YX2_together 2 ∧ Cond.instanceMethod yX2_together ∈ zq_T ∧ Cond.selects yX2_together.cls yX2_together yX2_together ∈ zq_T := ⟨⟨zq_mem 790 (by decide +kernel) rfl, zq_mem 126 (by decide +kernel) rfl, ⟨by decide +kernel, by decide +kernel, by decide +kernel⟩, by decide +kernel, Nat.le_of_ble_eq_true rfl⟩, zq_mem 788 (by decide +kernel) rfl, zq_mem 789 (by decide +kernel) rfl⟩
theorem zd_X2_hasBar : zq_cd YX2_hasBar 1 ∧ Cond.instanceMethod yX2_hasBar ∈ zq_T ∧ Cond.selects yX2_hasBar.cls yX2_hasBar yX2_hasBar ∈ zq_T := ⟨⟨zq_mem 809 (by decide +kernel) rfl, zq_mem 126 (by decide +kernel) rfl, ⟨by decide +kernel, by decide +kernel, by decide +kernel⟩, by decide +kernel, Nat.le_of_ble_eq_true rfl⟩, zq_mem 807 (by decide +kernel) rfl, zq_mem 808 (by decide +kernel) rfl⟩
theorem zd_X2_holdsIn : zq_cd YX2_holdsIn 2 ∧ Cond.instanceMethod yX2_holdsIn ∈ zq_T ∧ Cond.selects yX2_holdsIn.cls yX2_holdsIn yX2_holdsIn ∈ zq_T := ⟨⟨zq_mem 794 (by decide +kernel) rfl, zq_mem 126 (by decide +kernel) rfl, ⟨by decide +kernel, by decide +kernel, by decide +kernel⟩, by decide +kernel, Nat.le_of_ble_eq_true rfl⟩, zq_mem 793 (by decide +kernel) rfl, zq_mem 20 (by decide +kernel) rfl⟩
theorem zd_X2_testHolds : zq_cd YX2_testHolds 2 ∧ Cond.static yX2_testHolds ∈ zq_T := ⟨⟨zq_mem 797 (by decide +kernel) rfl, zq_mem 126 (by decide +kernel) rfl, ⟨by decide +kernel, by decide +kernel, by decide +kernel⟩, by decide +kernel, Nat.le_of_ble_eq_true rfl⟩, zq_mem 796 (by decide +kernel) rfl⟩
theorem zd_X3_init : zq_cd YX3_init 0 ∧ Cond.instanceMethod yX3_init ∈ zq_T := ⟨⟨zq_mem 276 (by decide +kernel) rfl, zq_mem 127 (by decide +kernel) rfl, ⟨by decide +kernel, by decide +kernel, by decide +kernel⟩, by decide +kernel, Nat.le_of_ble_eq_true rfl⟩, zq_mem 275 (by decide +kernel) rfl⟩
theorem zd_X3_readInto : zq_cd YX3_readInto 3 ∧ Cond.instanceMethod yX3_readInto ∈ zq_T ∧ Cond.selects yX3_readInto.cls yX3_readInto yX3_readInto ∈ zq_T := ⟨⟨zq_mem 587 (by decide +kernel) rfl, zq_mem 127 (by decide +kernel) rfl, ⟨by decide +kernel, by decide +kernel, by decide +kernel⟩, by decide +kernel, Nat.le_of_ble_eq_true rfl⟩, zq_mem 585 (by decide +kernel) rfl, zq_mem 586 (by decide +kernel) rfl⟩
theorem zd_X3_readClause : zq_cd YX3_readClause 0 ∧ Cond.instanceMethod yX3_readClause ∈ zq_T ∧ Cond.selects yX3_readClause.cls yX3_readClause yX3_readClause ∈ zq_T := ⟨⟨zq_mem 594 (by decide +kernel) rfl, zq_mem 127 (by decide +kernel) rfl, ⟨by decide +kernel, by decide +kernel, by decide +kernel⟩, by decide +kernel, Nat.le_of_ble_eq_true rfl⟩, zq_mem 593 (by decide +kernel) rfl, zq_mem 7 (by decide +kernel) rfl⟩
theorem zd_X3_readWord : zq_cd YX3_readWord 0 ∧ Cond.instanceMethod yX3_readWord ∈ zq_T ∧ Cond.selects yX3_readWord.cls yX3_readWord yX3_readWord ∈ zq_T := ⟨⟨zq_mem 598 (by decide +kernel) rfl, zq_mem 127 (by decide +kernel) rfl, ⟨by decide +kernel, by decide +kernel, by decide +kernel⟩, by decide +kernel, Nat.le_of_ble_eq_true rfl⟩, zq_mem 597 (by decide +kernel) rfl, zq_mem 8 (by decide +kernel) rfl⟩
theorem zd_X3_readAny : zq_cd YX3_readAny 1 ∧ Cond.instanceMethod yX3_readAny ∈ zq_T ∧ Cond.selects yX3_readAny.cls yX3_readAny yX3_readAny ∈ zq_T := ⟨⟨zq_mem 728 (by decide +kernel) rfl, zq_mem 127 (by decide +kernel) rfl, ⟨by decide +kernel, by decide +kernel, by decide +kernel⟩, by decide +kernel, Nat.le_of_ble_eq_true rfl⟩, zq_mem 727 (by decide +kernel) rfl, zq_mem 13 (by decide +kernel) rfl⟩
theorem zd_X3_readAll : zq_cd YX3_readAll 1 ∧ Cond.instanceMethod yX3_readAll ∈ zq_T ∧ Cond.selects yX3_readAll.cls yX3_readAll yX3_readAll ∈ zq_T := ⟨⟨zq_mem 732 (by decide +kernel) rfl, zq_mem 127 (by decide +kernel) rfl, ⟨by decide +kernel, by decide +kernel, by decide +kernel⟩, by decide +kernel, Nat.le_of_ble_eq_true rfl⟩, zq_mem 731 (by decide +kernel) rfl, zq_mem 14 (by decide +kernel) rfl⟩
theorem zd_X3_readOne : zq_cd YX3_readOne 1 ∧ Cond.instanceMethod yX3_readOne ∈ zq_T ∧ Cond.selects yX3_readOne.cls yX3_readOne yX3_readOne ∈ zq_T := ⟨⟨zq_mem 736 (by decide +kernel) rfl, zq_mem 127 (by decide +kernel) rfl, ⟨by decide +kernel, by decide +kernel, by decide +kernel⟩, by decide +kernel, Nat.le_of_ble_eq_true rfl⟩, zq_mem 735 (by decide +kernel) rfl, zq_mem 15 (by decide +kernel) rfl⟩
theorem zd_X3_readTest : zq_cd YX3_readTest 0 ∧ Cond.instanceMethod yX3_readTest ∈ zq_T ∧ Cond.selects yX3_readTest.cls yX3_readTest yX3_readTest ∈ zq_T := ⟨⟨zq_mem 740 (by decide +kernel) rfl, zq_mem 127 (by decide +kernel) rfl, ⟨by decide +kernel, by decide +kernel, by decide +kernel⟩, by decide +kernel, Nat.le_of_ble_eq_true rfl⟩, zq_mem 739 (by decide +kernel) rfl, zq_mem 16 (by decide +kernel) rfl⟩
theorem zd_X3_readNumber : zq_cd YX3_readNumber 0 ∧ Cond.instanceMethod yX3_readNumber ∈ zq_T ∧ Cond.selects yX3_readNumber.cls yX3_readNumber yX3_readNumber ∈ zq_T := ⟨⟨zq_mem 662 (by decide +kernel) rfl, zq_mem 127 (by decide +kernel) rfl, ⟨by decide +kernel, by decide +kernel, by decide +kernel⟩, by decide +kernel, Nat.le_of_ble_eq_true rfl⟩, zq_mem 661 (by decide +kernel) rfl, zq_mem 11 (by decide +kernel) rfl⟩
theorem zd_X3_eat : zq_cd YX3_eat 1 ∧ Cond.instanceMethod yX3_eat ∈ zq_T ∧ Cond.selects yX3_eat.cls yX3_eat yX3_eat ∈ zq_T := ⟨⟨zq_mem 655 (by decide +kernel) rfl, zq_mem 127 (by decide +kernel) rfl, ⟨by decide +kernel, by decide +kernel, by decide +kernel⟩, by decide +kernel, Nat.le_of_ble_eq_true rfl⟩, zq_mem 654 (by decide +kernel) rfl, zq_mem 10 (by decide +kernel) rfl⟩
theorem zd_X3_eatAll : zq_cd YX3_eatAll 1 ∧ Cond.instanceMethod yX3_eatAll ∈ zq_T ∧ Cond.selects yX3_eatAll.cls yX3_eatAll yX3_eatAll ∈ zq_T := ⟨⟨zq_mem 603 (by decide +kernel) rfl, zq_mem 127 (by decide +kernel) rfl, ⟨by decide +kernel, by decide +kernel, by decide +kernel⟩, by decide +kernel, Nat.le_of_ble_eq_true rfl⟩, zq_mem 602 (by decide +kernel) rfl, zq_mem 9 (by decide +kernel) rfl⟩
theorem zd_X3_eatOneOf : zq_cd YX3_eatOneOf 1 ∧ Cond.instanceMethod yX3_eatOneOf ∈ zq_T ∧ Cond.selects yX3_eatOneOf.cls yX3_eatOneOf yX3_eatOneOf ∈ zq_T := ⟨⟨zq_mem 667 (by decide +kernel) rfl, zq_mem 127 (by decide +kernel) rfl, ⟨by decide +kernel, by decide +kernel, by decide +kernel⟩, by decide +kernel, Nat.le_of_ble_eq_true rfl⟩, zq_mem 666 (by decide +kernel) rfl, zq_mem 12 (by decide +kernel) rfl⟩
theorem zd_X4_init : zq_cd YX4_init 1 ∧ Cond.instanceMethod yX4_init ∈ zq_T := ⟨⟨zq_mem 398 (by decide +kernel) rfl, zq_mem 132 (by decide +kernel) rfl, ⟨by decide +kernel, by decide +kernel, by decide +kernel⟩, by decide +kernel, Nat.le_of_ble_eq_true rfl⟩, zq_mem 397 (by decide +kernel) rfl⟩
theorem zd_X4_fitting : zq_cd YX4_fitting 0 ∧ Cond.instanceMethod yX4_fitting ∈ zq_T ∧ Cond.selects yX4_fitting.cls yX4_fitting yX4_fitting ∈ zq_T := ⟨⟨zq_mem 1021 (by decide +kernel) rfl, zq_mem 132 (by decide +kernel) rfl, ⟨by decide +kernel, by decide +kernel, by decide +kernel⟩, by decide +kernel, Nat.le_of_ble_eq_true rfl⟩, zq_mem 1019 (by decide +kernel) rfl, zq_mem 1020 (by decide +kernel) rfl⟩
theorem zd_X4_fittingFrom : zq_cd YX4_fittingFrom 2 ∧ Cond.instanceMethod yX4_fittingFrom ∈ zq_T ∧ Cond.selects yX4_fittingFrom.cls yX4_fittingFrom yX4_fittingFrom ∈ zq_T := ⟨⟨zq_mem 1025 (by decide +kernel) rfl, zq_mem 132 (by decide +kernel) rfl, ⟨by decide +kernel, by decide +kernel, by decide +kernel⟩, by decide +kernel, Nat.le_of_ble_eq_true rfl⟩, zq_mem 1024 (by decide +kernel) rfl, zq_mem 39 (by decide +kernel) rfl⟩
theorem zd_X4_goesWithAll : zq_cd YX4_goesWithAll 0 ∧ Cond.instanceMethod yX4_goesWithAll ∈ zq_T ∧ Cond.selects yX4_goesWithAll.cls yX4_goesWithAll yX4_goesWithAll ∈ zq_T := ⟨⟨zq_mem 1029 (by decide +kernel) rfl, zq_mem 132 (by decide +kernel) rfl, ⟨by decide +kernel, by decide +kernel, by decide +kernel⟩, by decide +kernel, Nat.le_of_ble_eq_true rfl⟩, zq_mem 1028 (by decide +kernel) rfl, zq_mem 40 (by decide +kernel) rfl⟩
theorem zd_X4_isMiddle : zq_cd YX4_isMiddle 2 ∧ Cond.instanceMethod yX4_isMiddle ∈ zq_T ∧ Cond.selects yX4_isMiddle.cls yX4_isMiddle yX4_isMiddle ∈ zq_T := ⟨⟨zq_mem 1033 (by decide +kernel) rfl, zq_mem 132 (by decide +kernel) rfl, ⟨by decide +kernel, by decide +kernel, by decide +kernel⟩, by decide +kernel, Nat.le_of_ble_eq_true rfl⟩, zq_mem 1032 (by decide +kernel) rfl, zq_mem 41 (by decide +kernel) rfl⟩
theorem zd_X5_init : zq_cd YX5_init 0 ∧ Cond.instanceMethod yX5_init ∈ zq_T := ⟨⟨zq_mem 157 (by decide +kernel) rfl, zq_mem 125 (by decide +kernel) rfl, ⟨by decide +kernel, by decide +kernel, by decide +kernel⟩, by decide +kernel, Nat.le_of_ble_eq_true rfl⟩, zq_mem 156 (by decide +kernel) rfl⟩
theorem zd_X5_addPerson : zq_cd YX5_addPerson 3 ∧ Cond.instanceMethod yX5_addPerson ∈ zq_T ∧ Cond.selects yX5_addPerson.cls yX5_addPerson yX5_addPerson ∈ zq_T := ⟨⟨zq_mem 512 (by decide +kernel) rfl, zq_mem 125 (by decide +kernel) rfl, ⟨by decide +kernel, by decide +kernel, by decide +kernel⟩, by decide +kernel, Nat.le_of_ble_eq_true rfl⟩, zq_mem 510 (by decide +kernel) rfl, zq_mem 511 (by decide +kernel) rfl⟩
theorem zd_X5_everybody : zq_cd YX5_everybody 0 ∧ Cond.instanceMethod yX5_everybody ∈ zq_T ∧ Cond.selects yX5_everybody.cls yX5_everybody yX5_everybody ∈ zq_T := ⟨⟨zq_mem 876 (by decide +kernel) rfl, zq_mem 125 (by decide +kernel) rfl, ⟨by decide +kernel, by decide +kernel, by decide +kernel⟩, by decide +kernel, Nat.le_of_ble_eq_true rfl⟩, zq_mem 874 (by decide +kernel) rfl, zq_mem 875 (by decide +kernel) rfl⟩
theorem zd_X5_whoIsAt : zq_cd YX5_whoIsAt 1 ∧ Cond.instanceMethod yX5_whoIsAt ∈ zq_T ∧ Cond.selects yX5_whoIsAt.cls yX5_whoIsAt yX5_whoIsAt ∈ zq_T := ⟨⟨zq_mem 540 (by decide +kernel) rfl, zq_mem 125 (by decide +kernel) rfl, ⟨by decide +kernel, by decide +kernel, by decide +kernel⟩, by decide +kernel, Nat.le_of_ble_eq_true rfl⟩, zq_mem 538 (by decide +kernel) rfl, zq_mem 539 (by decide +kernel) rfl⟩
theorem zd_X5_isKnown : zq_cd YX5_isKnown 2 ∧ Cond.instanceMethod yX5_isKnown ∈ zq_T ∧ Cond.selects yX5_isKnown.cls yX5_isKnown yX5_isKnown ∈ zq_T := ⟨⟨zq_mem 825 (by decide +kernel) rfl, zq_mem 125 (by decide +kernel) rfl, ⟨by decide +kernel, by decide +kernel, by decide +kernel⟩, by decide +kernel, Nat.le_of_ble_eq_true rfl⟩, zq_mem 823 (by decide +kernel) rfl, zq_mem 824 (by decide +kernel) rfl⟩
theorem zd_X5_whoKnows : zq_cd YX5_whoKnows 1 ∧ Cond.instanceMethod yX5_whoKnows ∈ zq_T ∧ Cond.selects yX5_whoKnows.cls yX5_whoKnows yX5_whoKnows ∈ zq_T := ⟨⟨zq_mem 941 (by decide +kernel) rfl, zq_mem 125 (by decide +kernel) rfl, ⟨by decide +kernel, by decide +kernel, by decide +kernel⟩, by decide +kernel, Nat.le_of_ble_eq_true rfl⟩, zq_mem 939 (by decide +kernel) rfl, zq_mem 940 (by decide +kernel) rfl⟩
theorem zd_X5_copyFrom : zq_cd YX5_copyFrom 1 ∧ Cond.instanceMethod yX5_copyFrom ∈ zq_T ∧ Cond.selects yX5_copyFrom.cls yX5_copyFrom yX5_copyFrom ∈ zq_T := ⟨⟨zq_mem 1101 (by decide +kernel) rfl, zq_mem 125 (by decide +kernel) rfl, ⟨by decide +kernel, by decide +kernel, by decide +kernel⟩, by decide +kernel, Nat.le_of_ble_eq_true rfl⟩, zq_mem 1099 (by decide +kernel) rfl, zq_mem 1100 (by decide +kernel) rfl⟩
theorem zd_X6_init : zq_cd YX6_init 2 ∧ Cond.instanceMethod yX6_init ∈ zq_T := ⟨⟨zq_mem 297 (by decide +kernel) rfl, zq_mem 128 (by decide +kernel) rfl, ⟨by decide +kernel, by decide +kernel, by decide +kernel⟩, by decide +kernel, Nat.le_of_ble_eq_true rfl⟩, zq_mem 296 (by decide +kernel) rfl⟩
theorem zd_X6_look : zq_cd YX6_look 1 ∧ Cond.instanceMethod yX6_look ∈ zq_T ∧ Cond.selects yX6_look.cls yX6_look yX6_look ∈ zq_T := ⟨⟨zq_mem 536 (by decide +kernel) rfl, zq_mem 128 (by decide +kernel) rfl, ⟨by decide +kernel, by decide +kernel, by decide +kernel⟩, by decide +kernel, Nat.le_of_ble_eq_true rfl⟩, zq_mem 534 (by decide +kernel) rfl, zq_mem 535 (by decide +kernel) rfl⟩
theorem zd_X6_priceOf : zq_cd YX6_priceOf 3 ∧ Cond.instanceMethod yX6_priceOf ∈ zq_T ∧ Cond.selects yX6_priceOf.cls yX6_priceOf yX6_priceOf ∈ zq_T := ⟨⟨zq_mem 782 (by decide +kernel) rfl, zq_mem 128 (by decide +kernel) rfl, ⟨by decide +kernel, by decide +kernel, by decide +kernel⟩, by decide +kernel, Nat.le_of_ble_eq_true rfl⟩, zq_mem 780 (by decide +kernel) rfl, zq_mem 781 (by decide +kernel) rfl⟩
theorem zd_X6_isBarred : zq_cd YX6_isBarred 3 ∧ Cond.instanceMethod yX6_isBarred ∈ zq_T ∧ Cond.selects yX6_isBarred.cls yX6_isBarred yX6_isBarred ∈ zq_T := ⟨⟨zq_mem 805 (by decide +kernel) rfl, zq_mem 128 (by decide +kernel) rfl, ⟨by decide +kernel, by decide +kernel, by decide +kernel⟩, by decide +kernel, Nat.le_of_ble_eq_true rfl⟩, zq_mem 803 (by decide +kernel) rfl, zq_mem 804 (by decide +kernel) rfl⟩
theorem zd_X6_worthTo : zq_cd YX6_worthTo 3 ∧ Cond.instanceMethod yX6_worthTo ∈ zq_T ∧ Cond.selects yX6_worthTo.cls yX6_worthTo yX6_worthTo ∈ zq_T := ⟨⟨zq_mem 829 (by decide +kernel) rfl, zq_mem 128 (by decide +kernel) rfl, ⟨by decide +kernel, by decide +kernel, by decide +kernel⟩, by decide +kernel, Nat.le_of_ble_eq_true rfl⟩, zq_mem 827 (by decide +kernel) rfl, zq_mem 828 (by decide +kernel) rfl⟩
theorem zd_X6_setFacts : zq_cd YX6_setFacts 4 ∧ Cond.instanceMethod yX6_setFacts ∈ zq_T ∧ Cond.selects yX6_setFacts.cls yX6_setFacts yX6_setFacts ∈ zq_T := ⟨⟨zq_mem 786 (by decide +kernel) rfl, zq_mem 128 (by decide +kernel) rfl, ⟨by decide +kernel, by decide +kernel, by decide +kernel⟩, by decide +kernel, Nat.le_of_ble_eq_true rfl⟩, zq_mem 785 (by decide +kernel) rfl, zq_mem 19 (by decide +kernel) rfl⟩
theorem zd_X6_tellComings : zq_cd YX6_tellComings 0 ∧ Cond.instanceMethod yX6_tellComings ∈ zq_T ∧ Cond.selects yX6_tellComings.cls yX6_tellComings yX6_tellComings ∈ zq_T := ⟨⟨zq_mem 843 (by decide +kernel) rfl, zq_mem 128 (by decide +kernel) rfl, ⟨by decide +kernel, by decide +kernel, by decide +kernel⟩, by decide +kernel, Nat.le_of_ble_eq_true rfl⟩, zq_mem 841 (by decide +kernel) rfl, zq_mem 842 (by decide +kernel) rfl⟩
theorem zd_X6_slotOf : zq_cd YX6_slotOf 3 ∧ Cond.static yX6_slotOf ∈ zq_T := ⟨⟨zq_mem 846 (by decide +kernel) rfl, zq_mem 128 (by decide +kernel) rfl, ⟨by decide +kernel, by decide +kernel, by decide +kernel⟩, by decide +kernel, Nat.le_of_ble_eq_true rfl⟩, zq_mem 845 (by decide +kernel) rfl⟩
theorem zd_X6_packedNow : zq_cd YX6_packedNow 0 ∧ Cond.instanceMethod yX6_packedNow ∈ zq_T ∧ Cond.selects yX6_packedNow.cls yX6_packedNow yX6_packedNow ∈ zq_T := ⟨⟨zq_mem 864 (by decide +kernel) rfl, zq_mem 128 (by decide +kernel) rfl, ⟨by decide +kernel, by decide +kernel, by decide +kernel⟩, by decide +kernel, Nat.le_of_ble_eq_true rfl⟩, zq_mem 862 (by decide +kernel) rfl, zq_mem 863 (by decide +kernel) rfl⟩
theorem zd_X6_moved : zq_cd YX6_moved 3 ∧ Cond.static yX6_moved ∈ zq_T := ⟨⟨zq_mem 900 (by decide +kernel) rfl, zq_mem 128 (by decide +kernel) rfl, ⟨by decide +kernel, by decide +kernel, by decide +kernel⟩, by decide +kernel, Nat.le_of_ble_eq_true rfl⟩, zq_mem 899 (by decide +kernel) rfl⟩
theorem zd_X6_whoIsAt : zq_cd YX6_whoIsAt 2 ∧ Cond.instanceMethod yX6_whoIsAt ∈ zq_T ∧ Cond.selects yX6_whoIsAt.cls yX6_whoIsAt yX6_whoIsAt ∈ zq_T := ⟨⟨zq_mem 881 (by decide +kernel) rfl, zq_mem 128 (by decide +kernel) rfl, ⟨by decide +kernel, by decide +kernel, by decide +kernel⟩, by decide +kernel, Nat.le_of_ble_eq_true rfl⟩, zq_mem 879 (by decide +kernel) rfl, zq_mem 880 (by decide +kernel) rfl⟩
theorem zd_X6_numberAt : zq_cd YX6_numberAt 2 ∧ Cond.instanceMethod yX6_numberAt ∈ zq_T ∧ Cond.selects yX6_numberAt.cls yX6_numberAt yX6_numberAt ∈ zq_T := ⟨⟨zq_mem 897 (by decide +kernel) rfl, zq_mem 128 (by decide +kernel) rfl, ⟨by decide +kernel, by decide +kernel, by decide +kernel⟩, by decide +kernel, Nat.le_of_ble_eq_true rfl⟩, zq_mem 896 (by decide +kernel) rfl, zq_mem 28 (by decide +kernel) rfl⟩
theorem zd_X6_mayCome : zq_cd YX6_mayCome 3 ∧ Cond.instanceMethod yX6_mayCome ∈ zq_T ∧ Cond.selects yX6_mayCome.cls yX6_mayCome yX6_mayCome ∈ zq_T := ⟨⟨zq_mem 893 (by decide +kernel) rfl, zq_mem 128 (by decide +kernel) rfl, ⟨by decide +kernel, by decide +kernel, by decide +kernel⟩, by decide +kernel, Nat.le_of_ble_eq_true rfl⟩, zq_mem 891 (by decide +kernel) rfl, zq_mem 892 (by decide +kernel) rfl⟩
theorem zd_X6_priceFrom : zq_cd YX6_priceFrom 3 ∧ Cond.instanceMethod yX6_priceFrom ∈ zq_T ∧ Cond.selects yX6_priceFrom.cls yX6_priceFrom yX6_priceFrom ∈ zq_T := ⟨⟨zq_mem 908 (by decide +kernel) rfl, zq_mem 128 (by decide +kernel) rfl, ⟨by decide +kernel, by decide +kernel, by decide +kernel⟩, by decide +kernel, Nat.le_of_ble_eq_true rfl⟩, zq_mem 906 (by decide +kernel) rfl, zq_mem 907 (by decide +kernel) rfl⟩
theorem zd_X6_speakers : zq_cd YX6_speakers 3 ∧ Cond.instanceMethod yX6_speakers ∈ zq_T ∧ Cond.selects yX6_speakers.cls yX6_speakers yX6_speakers ∈ zq_T := ⟨⟨zq_mem 544 (by decide +kernel) rfl, zq_mem 128 (by decide +kernel) rfl, ⟨by decide +kernel, by decide +kernel, by decide +kernel⟩, by decide +kernel, Nat.le_of_ble_eq_true rfl⟩, zq_mem 542 (by decide +kernel) rfl, zq_mem 543 (by decide +kernel) rfl⟩
theorem zd_X6_lineUp : zq_cd YX6_lineUp 2 ∧ Cond.instanceMethod yX6_lineUp ∈ zq_T ∧ Cond.selects yX6_lineUp.cls yX6_lineUp yX6_lineUp ∈ zq_T := ⟨⟨zq_mem 551 (by decide +kernel) rfl, zq_mem 128 (by decide +kernel) rfl, ⟨by decide +kernel, by decide +kernel, by decide +kernel⟩, by decide +kernel, Nat.le_of_ble_eq_true rfl⟩, zq_mem 550 (by decide +kernel) rfl, zq_mem 4 (by decide +kernel) rfl⟩
theorem zd_X6_placeInLine : zq_cd YX6_placeInLine 4 ∧ Cond.static yX6_placeInLine ∈ zq_T := ⟨⟨zq_mem 554 (by decide +kernel) rfl, zq_mem 128 (by decide +kernel) rfl, ⟨by decide +kernel, by decide +kernel, by decide +kernel⟩, by decide +kernel, Nat.le_of_ble_eq_true rfl⟩, zq_mem 553 (by decide +kernel) rfl⟩
theorem zd_X6_withoutNear : zq_cd YX6_withoutNear 3 ∧ Cond.instanceMethod yX6_withoutNear ∈ zq_T ∧ Cond.selects yX6_withoutNear.cls yX6_withoutNear yX6_withoutNear ∈ zq_T := ⟨⟨zq_mem 558 (by decide +kernel) rfl, zq_mem 128 (by decide +kernel) rfl, ⟨by decide +kernel, by decide +kernel, by decide +kernel⟩, by decide +kernel, Nat.le_of_ble_eq_true rfl⟩, zq_mem 557 (by decide +kernel) rfl, zq_mem 5 (by decide +kernel) rfl⟩
theorem zd_X6_isNearAnother : zq_cd YX6_isNearAnother 3 ∧ Cond.instanceMethod yX6_isNearAnother ∈ zq_T ∧ Cond.selects yX6_isNearAnother.cls yX6_isNearAnother yX6_isNearAnother ∈ zq_T := ⟨⟨zq_mem 562 (by decide +kernel) rfl, zq_mem 128 (by decide +kernel) rfl, ⟨by decide +kernel, by decide +kernel, by decide +kernel⟩, by decide +kernel, Nat.le_of_ble_eq_true rfl⟩, zq_mem 561 (by decide +kernel) rfl, zq_mem 6 (by decide +kernel) rfl⟩
theorem zd_X6_sayable : zq_cd YX6_sayable 0 ∧ Cond.instanceMethod yX6_sayable ∈ zq_T ∧ Cond.selects yX6_sayable.cls yX6_sayable yX6_sayable ∈ zq_T := ⟨⟨zq_mem 1067 (by decide +kernel) rfl, zq_mem 128 (by decide +kernel) rfl, ⟨by decide +kernel, by decide +kernel, by decide +kernel⟩, by decide +kernel, Nat.le_of_ble_eq_true rfl⟩, zq_mem 1065 (by decide +kernel) rfl, zq_mem 1066 (by decide +kernel) rfl⟩
theorem zd_X6_isSaid : zq_cd YX6_isSaid 2 ∧ Cond.instanceMethod yX6_isSaid ∈ zq_T ∧ Cond.selects yX6_isSaid.cls yX6_isSaid yX6_isSaid ∈ zq_T := ⟨⟨zq_mem 1072 (by decide +kernel) rfl, zq_mem 128 (by decide +kernel) rfl, ⟨by decide +kernel, by decide +kernel, by decide +kernel⟩, by decide +kernel, Nat.le_of_ble_eq_true rfl⟩, zq_mem 1071 (by decide +kernel) rfl, zq_mem 44 (by decide +kernel) rfl⟩
theorem zd_X7_init : zq_cd YX7_init 0 ∧ Cond.instanceMethod yX7_init ∈ zq_T := ⟨⟨zq_mem 435 (by decide +kernel) rfl, zq_mem 134 (by decide +kernel) rfl, ⟨by decide +kernel, by decide +kernel, by decide +kernel⟩, by decide +kernel, Nat.le_of_ble_eq_true rfl⟩, zq_mem 434 (by decide +kernel) rfl⟩
theorem zd_X7_holdsRow : zq_cd YX7_holdsRow 0 ∧ Cond.instanceMethod yX7_holdsRow ∈ zq_T ∧ Cond.selects yX7_holdsRow.cls yX7_holdsRow yX7_holdsRow ∈ zq_T := ⟨⟨zq_mem 1085 (by decide +kernel) rfl, zq_mem 134 (by decide +kernel) rfl, ⟨by decide +kernel, by decide +kernel, by decide +kernel⟩, by decide +kernel, Nat.le_of_ble_eq_true rfl⟩, zq_mem 1083 (by decide +kernel) rfl, zq_mem 1084 (by decide +kernel) rfl⟩
theorem zd_X7_holdNothing : zq_cd YX7_holdNothing 0 ∧ Cond.instanceMethod yX7_holdNothing ∈ zq_T ∧ Cond.selects yX7_holdNothing.cls yX7_holdNothing yX7_holdNothing ∈ zq_T := ⟨⟨zq_mem 1163 (by decide +kernel) rfl, zq_mem 134 (by decide +kernel) rfl, ⟨by decide +kernel, by decide +kernel, by decide +kernel⟩, by decide +kernel, Nat.le_of_ble_eq_true rfl⟩, zq_mem 1161 (by decide +kernel) rfl, zq_mem 1162 (by decide +kernel) rfl⟩
theorem zd_X7_holdZeros : zq_cd YX7_holdZeros 2 ∧ Cond.instanceMethod yX7_holdZeros ∈ zq_T ∧ Cond.selects yX7_holdZeros.cls yX7_holdZeros yX7_holdZeros ∈ zq_T := ⟨⟨zq_mem 1167 (by decide +kernel) rfl, zq_mem 134 (by decide +kernel) rfl, ⟨by decide +kernel, by decide +kernel, by decide +kernel⟩, by decide +kernel, Nat.le_of_ble_eq_true rfl⟩, zq_mem 1165 (by decide +kernel) rfl, zq_mem 1166 (by decide +kernel) rfl⟩
theorem zd_X7_hasPlace : zq_cd YX7_hasPlace 1 ∧ Cond.instanceMethod yX7_hasPlace ∈ zq_T ∧ Cond.selects yX7_hasPlace.cls yX7_hasPlace yX7_hasPlace ∈ zq_T := ⟨⟨zq_mem 1093 (by decide +kernel) rfl, zq_mem 134 (by decide +kernel) rfl, ⟨by decide +kernel, by decide +kernel, by decide +kernel⟩, by decide +kernel, Nat.le_of_ble_eq_true rfl⟩, zq_mem 1091 (by decide +kernel) rfl, zq_mem 1092 (by decide +kernel) rfl⟩
theorem zd_X7_hasPart : zq_cd YX7_hasPart 2 ∧ Cond.instanceMethod yX7_hasPart ∈ zq_T ∧ Cond.selects yX7_hasPart.cls yX7_hasPart yX7_hasPart ∈ zq_T := ⟨⟨zq_mem 1194 (by decide +kernel) rfl, zq_mem 134 (by decide +kernel) rfl, ⟨by decide +kernel, by decide +kernel, by decide +kernel⟩, by decide +kernel, Nat.le_of_ble_eq_true rfl⟩, zq_mem 1192 (by decide +kernel) rfl, zq_mem 1193 (by decide +kernel) rfl⟩
theorem zd_X7_put : zq_cd YX7_put 2 ∧ Cond.instanceMethod yX7_put ∈ zq_T ∧ Cond.selects yX7_put.cls yX7_put yX7_put ∈ zq_T := ⟨⟨zq_mem 1178 (by decide +kernel) rfl, zq_mem 134 (by decide +kernel) rfl, ⟨by decide +kernel, by decide +kernel, by decide +kernel⟩, by decide +kernel, Nat.le_of_ble_eq_true rfl⟩, zq_mem 1176 (by decide +kernel) rfl, zq_mem 1177 (by decide +kernel) rfl⟩
theorem zd_X7_narrowed : zq_cd YX7_narrowed 1 ∧ Cond.instanceMethod yX7_narrowed ∈ zq_T ∧ Cond.selects yX7_narrowed.cls yX7_narrowed yX7_narrowed ∈ zq_T := ⟨⟨zq_mem 1182 (by decide +kernel) rfl, zq_mem 134 (by decide +kernel) rfl, ⟨by decide +kernel, by decide +kernel, by decide +kernel⟩, by decide +kernel, Nat.le_of_ble_eq_true rfl⟩, zq_mem 1181 (by decide +kernel) rfl, zq_mem 48 (by decide +kernel) rfl⟩
theorem zd_X8_init : zq_cd YX8_init 1 ∧ Cond.instanceMethod yX8_init ∈ zq_T := ⟨⟨zq_mem 388 (by decide +kernel) rfl, zq_mem 131 (by decide +kernel) rfl, ⟨by decide +kernel, by decide +kernel, by decide +kernel⟩, by decide +kernel, Nat.le_of_ble_eq_true rfl⟩, zq_mem 387 (by decide +kernel) rfl⟩
theorem zd_X8_canWin : zq_cd YX8_canWin 3 ∧ Cond.instanceMethod yX8_canWin ∈ zq_T ∧ Cond.selects yX8_canWin.cls yX8_canWin yX8_canWin ∈ zq_T := ⟨⟨zq_mem 996 (by decide +kernel) rfl, zq_mem 131 (by decide +kernel) rfl, ⟨by decide +kernel, by decide +kernel, by decide +kernel⟩, by decide +kernel, Nat.le_of_ble_eq_true rfl⟩, zq_mem 994 (by decide +kernel) rfl, zq_mem 995 (by decide +kernel) rfl⟩
theorem zd_X8_wins : zq_cd YX8_wins 6 ∧ Cond.instanceMethod yX8_wins ∈ zq_T ∧ Cond.selects yX8_wins.cls yX8_wins yX8_wins ∈ zq_T := ⟨⟨zq_mem 1001 (by decide +kernel) rfl, zq_mem 131 (by decide +kernel) rfl, ⟨by decide +kernel, by decide +kernel, by decide +kernel⟩, by decide +kernel, Nat.le_of_ble_eq_true rfl⟩, zq_mem 1000 (by decide +kernel) rfl, zq_mem 38 (by decide +kernel) rfl⟩
theorem zd_X8_oddsOfSpeaking : zq_cd YX8_oddsOfSpeaking 3 ∧ Cond.instanceMethod yX8_oddsOfSpeaking ∈ zq_T ∧ Cond.selects yX8_oddsOfSpeaking.cls yX8_oddsOfSpeaking yX8_oddsOfSpeaking ∈ zq_T := ⟨⟨zq_mem 1043 (by decide +kernel) rfl, zq_mem 131 (by decide +kernel) rfl, ⟨by decide +kernel, by decide +kernel, by decide +kernel⟩, by decide +kernel, Nat.le_of_ble_eq_true rfl⟩, zq_mem 1041 (by decide +kernel) rfl, zq_mem 1042 (by decide +kernel) rfl⟩
theorem zd_X8_sharesSpeaking : zq_cd YX8_sharesSpeaking 5 ∧ Cond.instanceMethod yX8_sharesSpeaking ∈ zq_T ∧ Cond.selects yX8_sharesSpeaking.cls yX8_sharesSpeaking yX8_sharesSpeaking ∈ zq_T := ⟨⟨zq_mem 1048 (by decide +kernel) rfl, zq_mem 131 (by decide +kernel) rfl, ⟨by decide +kernel, by decide +kernel, by decide +kernel⟩, by decide +kernel, Nat.le_of_ble_eq_true rfl⟩, zq_mem 1047 (by decide +kernel) rfl, zq_mem 42 (by decide +kernel) rfl⟩
theorem zd_X8_waysOn : zq_cd YX8_waysOn 1 ∧ Cond.instanceMethod yX8_waysOn ∈ zq_T ∧ Cond.selects yX8_waysOn.cls yX8_waysOn yX8_waysOn ∈ zq_T := ⟨⟨zq_mem 1052 (by decide +kernel) rfl, zq_mem 131 (by decide +kernel) rfl, ⟨by decide +kernel, by decide +kernel, by decide +kernel⟩, by decide +kernel, Nat.le_of_ble_eq_true rfl⟩, zq_mem 1051 (by decide +kernel) rfl, zq_mem 43 (by decide +kernel) rfl⟩
theorem zd_X8_greatestDivisor : zq_cd YX8_greatestDivisor 2 ∧ Cond.static yX8_greatestDivisor ∈ zq_T := ⟨⟨zq_mem 1055 (by decide +kernel) rfl, zq_mem 131 (by decide +kernel) rfl, ⟨by decide +kernel, by decide +kernel, by decide +kernel⟩, by decide +kernel, Nat.le_of_ble_eq_true rfl⟩, zq_mem 1054 (by decide +kernel) rfl⟩
theorem zd_X9_init : zq_cd YX9_init 1 ∧ Cond.instanceMethod yX9_init ∈ zq_T := ⟨⟨zq_mem 329 (by decide +kernel) rfl, zq_mem 129 (by decide +kernel) rfl, ⟨by decide +kernel, by decide +kernel, by decide +kernel⟩, by decide +kernel, Nat.le_of_ble_eq_true rfl⟩, zq_mem 328 (by decide +kernel) rfl⟩
theorem zd_X9_fewestComings : zq_cd YX9_fewestComings 3 ∧ Cond.instanceMethod yX9_fewestComings ∈ zq_T ∧ Cond.selects yX9_fewestComings.cls yX9_fewestComings yX9_fewestComings ∈ zq_T := ⟨⟨zq_mem 852 (by decide +kernel) rfl, zq_mem 129 (by decide +kernel) rfl, ⟨by decide +kernel, by decide +kernel, by decide +kernel⟩, by decide +kernel, Nat.le_of_ble_eq_true rfl⟩, zq_mem 850 (by decide +kernel) rfl, zq_mem 851 (by decide +kernel) rfl⟩
theorem zd_X9_leastCost : zq_cd YX9_leastCost 3 ∧ Cond.instanceMethod yX9_leastCost ∈ zq_T ∧ Cond.selects yX9_leastCost.cls yX9_leastCost yX9_leastCost ∈ zq_T := ⟨⟨zq_mem 921 (by decide +kernel) rfl, zq_mem 129 (by decide +kernel) rfl, ⟨by decide +kernel, by decide +kernel, by decide +kernel⟩, by decide +kernel, Nat.le_of_ble_eq_true rfl⟩, zq_mem 919 (by decide +kernel) rfl, zq_mem 920 (by decide +kernel) rfl⟩
theorem zd_X9_whoNeverCan : zq_cd YX9_whoNeverCan 1 ∧ Cond.instanceMethod yX9_whoNeverCan ∈ zq_T ∧ Cond.selects yX9_whoNeverCan.cls yX9_whoNeverCan yX9_whoNeverCan ∈ zq_T := ⟨⟨zq_mem 929 (by decide +kernel) rfl, zq_mem 129 (by decide +kernel) rfl, ⟨by decide +kernel, by decide +kernel, by decide +kernel⟩, by decide +kernel, Nat.le_of_ble_eq_true rfl⟩, zq_mem 927 (by decide +kernel) rfl, zq_mem 928 (by decide +kernel) rfl⟩
theorem zd_X9_begin : zq_cd YX9_begin 1 ∧ Cond.instanceMethod yX9_begin ∈ zq_T ∧ Cond.selects yX9_begin.cls yX9_begin yX9_begin ∈ zq_T := ⟨⟨zq_mem 856 (by decide +kernel) rfl, zq_mem 129 (by decide +kernel) rfl, ⟨by decide +kernel, by decide +kernel, by decide +kernel⟩, by decide +kernel, Nat.le_of_ble_eq_true rfl⟩, zq_mem 855 (by decide +kernel) rfl, zq_mem 23 (by decide +kernel) rfl⟩
theorem zd_X9_goOn : zq_cd YX9_goOn 0 ∧ Cond.instanceMethod yX9_goOn ∈ zq_T ∧ Cond.selects yX9_goOn.cls yX9_goOn yX9_goOn ∈ zq_T := ⟨⟨zq_mem 885 (by decide +kernel) rfl, zq_mem 129 (by decide +kernel) rfl, ⟨by decide +kernel, by decide +kernel, by decide +kernel⟩, by decide +kernel, Nat.le_of_ble_eq_true rfl⟩, zq_mem 884 (by decide +kernel) rfl, zq_mem 26 (by decide +kernel) rfl⟩
theorem zd_X9_leave : zq_cd YX9_leave 1 ∧ Cond.instanceMethod yX9_leave ∈ zq_T ∧ Cond.selects yX9_leave.cls yX9_leave yX9_leave ∈ zq_T := ⟨⟨zq_mem 889 (by decide +kernel) rfl, zq_mem 129 (by decide +kernel) rfl, ⟨by decide +kernel, by decide +kernel, by decide +kernel⟩, by decide +kernel, Nat.le_of_ble_eq_true rfl⟩, zq_mem 888 (by decide +kernel) rfl, zq_mem 27 (by decide +kernel) rfl⟩
theorem zd_X9_carried : zq_cd YX9_carried 3 ∧ Cond.instanceMethod yX9_carried ∈ zq_T ∧ Cond.selects yX9_carried.cls yX9_carried yX9_carried ∈ zq_T := ⟨⟨zq_mem 904 (by decide +kernel) rfl, zq_mem 129 (by decide +kernel) rfl, ⟨by decide +kernel, by decide +kernel, by decide +kernel⟩, by decide +kernel, Nat.le_of_ble_eq_true rfl⟩, zq_mem 903 (by decide +kernel) rfl, zq_mem 29 (by decide +kernel) rfl⟩
theorem zd_X9_takeNext : zq_cd YX9_takeNext 0 ∧ Cond.instanceMethod yX9_takeNext ∈ zq_T ∧ Cond.selects yX9_takeNext.cls yX9_takeNext yX9_takeNext ∈ zq_T := ⟨⟨zq_mem 913 (by decide +kernel) rfl, zq_mem 129 (by decide +kernel) rfl, ⟨by decide +kernel, by decide +kernel, by decide +kernel⟩, by decide +kernel, Nat.le_of_ble_eq_true rfl⟩, zq_mem 912 (by decide +kernel) rfl, zq_mem 30 (by decide +kernel) rfl⟩
theorem zd_X9_tellSpeakers : zq_cd YX9_tellSpeakers 1 ∧ Cond.instanceMethod yX9_tellSpeakers ∈ zq_T ∧ Cond.selects yX9_tellSpeakers.cls yX9_tellSpeakers yX9_tellSpeakers ∈ zq_T := ⟨⟨zq_mem 872 (by decide +kernel) rfl, zq_mem 129 (by decide +kernel) rfl, ⟨by decide +kernel, by decide +kernel, by decide +kernel⟩, by decide +kernel, Nat.le_of_ble_eq_true rfl⟩, zq_mem 871 (by decide +kernel) rfl, zq_mem 25 (by decide +kernel) rfl⟩
theorem zd_X9_leastWith : zq_cd YX9_leastWith 2 ∧ Cond.instanceMethod yX9_leastWith ∈ zq_T ∧ Cond.selects yX9_leastWith.cls yX9_leastWith yX9_leastWith ∈ zq_T := ⟨⟨zq_mem 868 (by decide +kernel) rfl, zq_mem 129 (by decide +kernel) rfl, ⟨by decide +kernel, by decide +kernel, by decide +kernel⟩, by decide +kernel, Nat.le_of_ble_eq_true rfl⟩, zq_mem 867 (by decide +kernel) rfl, zq_mem 24 (by decide +kernel) rfl⟩
theorem zd_X9_whoCanSpeak : zq_cd YX9_whoCanSpeak 1 ∧ Cond.instanceMethod yX9_whoCanSpeak ∈ zq_T ∧ Cond.selects yX9_whoCanSpeak.cls yX9_whoCanSpeak yX9_whoCanSpeak ∈ zq_T := ⟨⟨zq_mem 933 (by decide +kernel) rfl, zq_mem 129 (by decide +kernel) rfl, ⟨by decide +kernel, by decide +kernel, by decide +kernel⟩, by decide +kernel, Nat.le_of_ble_eq_true rfl⟩, zq_mem 932 (by decide +kernel) rfl, zq_mem 31 (by decide +kernel) rfl⟩
theorem zd_X10_init : zq_cd YX10_init 0 ∧ Cond.instanceMethod yX10_init ∈ zq_T := ⟨⟨zq_mem 149 (by decide +kernel) rfl, zq_mem 124 (by decide +kernel) rfl, ⟨by decide +kernel, by decide +kernel, by decide +kernel⟩, by decide +kernel, Nat.le_of_ble_eq_true rfl⟩, zq_mem 148 (by decide +kernel) rfl⟩
theorem zd_X10_person : zq_cd YX10_person 3 ∧ Cond.instanceMethod yX10_person ∈ zq_T ∧ Cond.selects yX10_person.cls yX10_person yX10_person ∈ zq_T := ⟨⟨zq_mem 502 (by decide +kernel) rfl, zq_mem 124 (by decide +kernel) rfl, ⟨by decide +kernel, by decide +kernel, by decide +kernel⟩, by decide +kernel, Nat.le_of_ble_eq_true rfl⟩, zq_mem 500 (by decide +kernel) rfl, zq_mem 501 (by decide +kernel) rfl⟩
theorem zd_X10_of : zq_cd YX10_of 2 ∧ Cond.instanceMethod yX10_of ∈ zq_T ∧ Cond.selects yX10_of.cls yX10_of yX10_of ∈ zq_T := ⟨⟨zq_mem 516 (by decide +kernel) rfl, zq_mem 124 (by decide +kernel) rfl, ⟨by decide +kernel, by decide +kernel, by decide +kernel⟩, by decide +kernel, Nat.le_of_ble_eq_true rfl⟩, zq_mem 514 (by decide +kernel) rfl, zq_mem 515 (by decide +kernel) rfl⟩
theorem zd_X10_learn : zq_cd YX10_learn 2 ∧ Cond.instanceMethod yX10_learn ∈ zq_T ∧ Cond.selects yX10_learn.cls yX10_learn yX10_learn ∈ zq_T := ⟨⟨zq_mem 566 (by decide +kernel) rfl, zq_mem 124 (by decide +kernel) rfl, ⟨by decide +kernel, by decide +kernel, by decide +kernel⟩, by decide +kernel, Nat.le_of_ble_eq_true rfl⟩, zq_mem 564 (by decide +kernel) rfl, zq_mem 565 (by decide +kernel) rfl⟩
theorem zd_X10_room : zq_cd YX10_room 3 ∧ Cond.instanceMethod yX10_room ∈ zq_T ∧ Cond.selects yX10_room.cls yX10_room yX10_room ∈ zq_T := ⟨⟨zq_mem 570 (by decide +kernel) rfl, zq_mem 124 (by decide +kernel) rfl, ⟨by decide +kernel, by decide +kernel, by decide +kernel⟩, by decide +kernel, Nat.le_of_ble_eq_true rfl⟩, zq_mem 568 (by decide +kernel) rfl, zq_mem 569 (by decide +kernel) rfl⟩
theorem zd_X10_inside : zq_cd YX10_inside 2 ∧ Cond.instanceMethod yX10_inside ∈ zq_T ∧ Cond.selects yX10_inside.cls yX10_inside yX10_inside ∈ zq_T := ⟨⟨zq_mem 575 (by decide +kernel) rfl, zq_mem 124 (by decide +kernel) rfl, ⟨by decide +kernel, by decide +kernel, by decide +kernel⟩, by decide +kernel, Nat.le_of_ble_eq_true rfl⟩, zq_mem 573 (by decide +kernel) rfl, zq_mem 574 (by decide +kernel) rfl⟩
theorem zd_X10_feed : zq_cd YX10_feed 1 ∧ Cond.instanceMethod yX10_feed ∈ zq_T ∧ Cond.selects yX10_feed.cls yX10_feed yX10_feed ∈ zq_T := ⟨⟨zq_mem 579 (by decide +kernel) rfl, zq_mem 124 (by decide +kernel) rfl, ⟨by decide +kernel, by decide +kernel, by decide +kernel⟩, by decide +kernel, Nat.le_of_ble_eq_true rfl⟩, zq_mem 577 (by decide +kernel) rfl, zq_mem 578 (by decide +kernel) rfl⟩
theorem zd_X10_house : zq_cd YX10_house 0 ∧ Cond.instanceMethod yX10_house ∈ zq_T ∧ Cond.selects yX10_house.cls yX10_house yX10_house ∈ zq_T := ⟨⟨zq_mem 583 (by decide +kernel) rfl, zq_mem 124 (by decide +kernel) rfl, ⟨by decide +kernel, by decide +kernel, by decide +kernel⟩, by decide +kernel, Nat.le_of_ble_eq_true rfl⟩, zq_mem 581 (by decide +kernel) rfl, zq_mem 582 (by decide +kernel) rfl⟩
theorem zd_X10_told : zq_cd YX10_told 1 ∧ Cond.instanceMethod yX10_told ∈ zq_T ∧ Cond.selects yX10_told.cls yX10_told yX10_told ∈ zq_T := ⟨⟨zq_mem 760 (by decide +kernel) rfl, zq_mem 124 (by decide +kernel) rfl, ⟨by decide +kernel, by decide +kernel, by decide +kernel⟩, by decide +kernel, Nat.le_of_ble_eq_true rfl⟩, zq_mem 758 (by decide +kernel) rfl, zq_mem 759 (by decide +kernel) rfl⟩
theorem zd_X10_coming : zq_cd YX10_coming 3 ∧ Cond.instanceMethod yX10_coming ∈ zq_T ∧ Cond.selects yX10_coming.cls yX10_coming yX10_coming ∈ zq_T := ⟨⟨zq_mem 764 (by decide +kernel) rfl, zq_mem 124 (by decide +kernel) rfl, ⟨by decide +kernel, by decide +kernel, by decide +kernel⟩, by decide +kernel, Nat.le_of_ble_eq_true rfl⟩, zq_mem 762 (by decide +kernel) rfl, zq_mem 763 (by decide +kernel) rfl⟩
theorem zd_X10_come : zq_cd YX10_come 2 ∧ Cond.instanceMethod yX10_come ∈ zq_T ∧ Cond.selects yX10_come.cls yX10_come yX10_come ∈ zq_T := ⟨⟨zq_mem 813 (by decide +kernel) rfl, zq_mem 124 (by decide +kernel) rfl, ⟨by decide +kernel, by decide +kernel, by decide +kernel⟩, by decide +kernel, Nat.le_of_ble_eq_true rfl⟩, zq_mem 811 (by decide +kernel) rfl, zq_mem 812 (by decide +kernel) rfl⟩
theorem zd_X10_say : zq_cd YX10_say 2 ∧ Cond.instanceMethod yX10_say ∈ zq_T ∧ Cond.selects yX10_say.cls yX10_say yX10_say ∈ zq_T := ⟨⟨zq_mem 818 (by decide +kernel) rfl, zq_mem 124 (by decide +kernel) rfl, ⟨by decide +kernel, by decide +kernel, by decide +kernel⟩, by decide +kernel, Nat.le_of_ble_eq_true rfl⟩, zq_mem 816 (by decide +kernel) rfl, zq_mem 817 (by decide +kernel) rfl⟩
theorem zd_X10_soonest : zq_cd YX10_soonest 3 ∧ Cond.instanceMethod yX10_soonest ∈ zq_T ∧ Cond.selects yX10_soonest.cls yX10_soonest yX10_soonest ∈ zq_T := ⟨⟨zq_mem 835 (by decide +kernel) rfl, zq_mem 124 (by decide +kernel) rfl, ⟨by decide +kernel, by decide +kernel, by decide +kernel⟩, by decide +kernel, Nat.le_of_ble_eq_true rfl⟩, zq_mem 833 (by decide +kernel) rfl, zq_mem 834 (by decide +kernel) rfl⟩
theorem zd_X10_cheapest : zq_cd YX10_cheapest 3 ∧ Cond.instanceMethod yX10_cheapest ∈ zq_T ∧ Cond.selects yX10_cheapest.cls yX10_cheapest yX10_cheapest ∈ zq_T := ⟨⟨zq_mem 917 (by decide +kernel) rfl, zq_mem 124 (by decide +kernel) rfl, ⟨by decide +kernel, by decide +kernel, by decide +kernel⟩, by decide +kernel, Nat.le_of_ble_eq_true rfl⟩, zq_mem 915 (by decide +kernel) rfl, zq_mem 916 (by decide +kernel) rfl⟩
theorem zd_X10_never : zq_cd YX10_never 1 ∧ Cond.instanceMethod yX10_never ∈ zq_T ∧ Cond.selects yX10_never.cls yX10_never yX10_never ∈ zq_T := ⟨⟨zq_mem 925 (by decide +kernel) rfl, zq_mem 124 (by decide +kernel) rfl, ⟨by decide +kernel, by decide +kernel, by decide +kernel⟩, by decide +kernel, Nat.le_of_ble_eq_true rfl⟩, zq_mem 923 (by decide +kernel) rfl, zq_mem 924 (by decide +kernel) rfl⟩
theorem zd_X10_heard : zq_cd YX10_heard 1 ∧ Cond.instanceMethod yX10_heard ∈ zq_T ∧ Cond.selects yX10_heard.cls yX10_heard yX10_heard ∈ zq_T := ⟨⟨zq_mem 937 (by decide +kernel) rfl, zq_mem 124 (by decide +kernel) rfl, ⟨by decide +kernel, by decide +kernel, by decide +kernel⟩, by decide +kernel, Nat.le_of_ble_eq_true rfl⟩, zq_mem 935 (by decide +kernel) rfl, zq_mem 936 (by decide +kernel) rfl⟩
theorem zd_X10_secret : zq_cd YX10_secret 3 ∧ Cond.instanceMethod yX10_secret ∈ zq_T ∧ Cond.selects yX10_secret.cls yX10_secret yX10_secret ∈ zq_T := ⟨⟨zq_mem 985 (by decide +kernel) rfl, zq_mem 124 (by decide +kernel) rfl, ⟨by decide +kernel, by decide +kernel, by decide +kernel⟩, by decide +kernel, Nat.le_of_ble_eq_true rfl⟩, zq_mem 983 (by decide +kernel) rfl, zq_mem 984 (by decide +kernel) rfl⟩
theorem zd_X10_game : zq_cd YX10_game 3 ∧ Cond.instanceMethod yX10_game ∈ zq_T ∧ Cond.selects yX10_game.cls yX10_game yX10_game ∈ zq_T := ⟨⟨zq_mem 992 (by decide +kernel) rfl, zq_mem 124 (by decide +kernel) rfl, ⟨by decide +kernel, by decide +kernel, by decide +kernel⟩, by decide +kernel, Nat.le_of_ble_eq_true rfl⟩, zq_mem 990 (by decide +kernel) rfl, zq_mem 991 (by decide +kernel) rfl⟩
theorem zd_X10_votes : zq_cd YX10_votes 2 ∧ Cond.instanceMethod yX10_votes ∈ zq_T ∧ Cond.selects yX10_votes.cls yX10_votes yX10_votes ∈ zq_T := ⟨⟨zq_mem 1009 (by decide +kernel) rfl, zq_mem 124 (by decide +kernel) rfl, ⟨by decide +kernel, by decide +kernel, by decide +kernel⟩, by decide +kernel, Nat.le_of_ble_eq_true rfl⟩, zq_mem 1007 (by decide +kernel) rfl, zq_mem 1008 (by decide +kernel) rfl⟩
theorem zd_X10_spoken : zq_cd YX10_spoken 2 ∧ Cond.instanceMethod yX10_spoken ∈ zq_T ∧ Cond.selects yX10_spoken.cls yX10_spoken yX10_spoken ∈ zq_T := ⟨⟨zq_mem 1013 (by decide +kernel) rfl, zq_mem 124 (by decide +kernel) rfl, ⟨by decide +kernel, by decide +kernel, by decide +kernel⟩, by decide +kernel, Nat.le_of_ble_eq_true rfl⟩, zq_mem 1011 (by decide +kernel) rfl, zq_mem 1012 (by decide +kernel) rfl⟩
theorem zd_X10_fits : zq_cd YX10_fits 0 ∧ Cond.instanceMethod yX10_fits ∈ zq_T ∧ Cond.selects yX10_fits.cls yX10_fits yX10_fits ∈ zq_T := ⟨⟨zq_mem 1017 (by decide +kernel) rfl, zq_mem 124 (by decide +kernel) rfl, ⟨by decide +kernel, by decide +kernel, by decide +kernel⟩, by decide +kernel, Nat.le_of_ble_eq_true rfl⟩, zq_mem 1015 (by decide +kernel) rfl, zq_mem 1016 (by decide +kernel) rfl⟩
theorem zd_X10_lot : zq_cd YX10_lot 3 ∧ Cond.instanceMethod yX10_lot ∈ zq_T ∧ Cond.selects yX10_lot.cls yX10_lot yX10_lot ∈ zq_T := ⟨⟨zq_mem 1038 (by decide +kernel) rfl, zq_mem 124 (by decide +kernel) rfl, ⟨by decide +kernel, by decide +kernel, by decide +kernel⟩, by decide +kernel, Nat.le_of_ble_eq_true rfl⟩, zq_mem 1036 (by decide +kernel) rfl, zq_mem 1037 (by decide +kernel) rfl⟩
theorem zd_X10_book : zq_cd YX10_book 1 ∧ Cond.instanceMethod yX10_book ∈ zq_T ∧ Cond.selects yX10_book.cls yX10_book yX10_book ∈ zq_T := ⟨⟨zq_mem 1059 (by decide +kernel) rfl, zq_mem 124 (by decide +kernel) rfl, ⟨by decide +kernel, by decide +kernel, by decide +kernel⟩, by decide +kernel, Nat.le_of_ble_eq_true rfl⟩, zq_mem 1057 (by decide +kernel) rfl, zq_mem 1058 (by decide +kernel) rfl⟩
theorem zd_X10_readBook : zq_cd YX10_readBook 0 ∧ Cond.instanceMethod yX10_readBook ∈ zq_T ∧ Cond.selects yX10_readBook.cls yX10_readBook yX10_readBook ∈ zq_T := ⟨⟨zq_mem 1063 (by decide +kernel) rfl, zq_mem 124 (by decide +kernel) rfl, ⟨by decide +kernel, by decide +kernel, by decide +kernel⟩, by decide +kernel, Nat.le_of_ble_eq_true rfl⟩, zq_mem 1061 (by decide +kernel) rfl, zq_mem 1062 (by decide +kernel) rfl⟩
theorem zd_X10_judge : zq_cd YX10_judge 2 ∧ Cond.instanceMethod yX10_judge ∈ zq_T ∧ Cond.selects yX10_judge.cls yX10_judge yX10_judge ∈ zq_T := ⟨⟨zq_mem 1078 (by decide +kernel) rfl, zq_mem 124 (by decide +kernel) rfl, ⟨by decide +kernel, by decide +kernel, by decide +kernel⟩, by decide +kernel, Nat.le_of_ble_eq_true rfl⟩, zq_mem 1076 (by decide +kernel) rfl, zq_mem 1077 (by decide +kernel) rfl⟩
theorem zd_X10_image : zq_cd YX10_image 0 ∧ Cond.instanceMethod yX10_image ∈ zq_T ∧ Cond.selects yX10_image.cls yX10_image yX10_image ∈ zq_T := ⟨⟨zq_mem 1097 (by decide +kernel) rfl, zq_mem 124 (by decide +kernel) rfl, ⟨by decide +kernel, by decide +kernel, by decide +kernel⟩, by decide +kernel, Nat.le_of_ble_eq_true rfl⟩, zq_mem 1095 (by decide +kernel) rfl, zq_mem 1096 (by decide +kernel) rfl⟩
theorem zd_X10_undo : zq_cd YX10_undo 0 ∧ Cond.instanceMethod yX10_undo ∈ zq_T ∧ Cond.selects yX10_undo.cls yX10_undo yX10_undo ∈ zq_T := ⟨⟨zq_mem 1106 (by decide +kernel) rfl, zq_mem 124 (by decide +kernel) rfl, ⟨by decide +kernel, by decide +kernel, by decide +kernel⟩, by decide +kernel, Nat.le_of_ble_eq_true rfl⟩, zq_mem 1104 (by decide +kernel) rfl, zq_mem 1105 (by decide +kernel) rfl⟩
theorem zd_X10_act : zq_cd YX10_act 3 ∧ Cond.instanceMethod yX10_act ∈ zq_T ∧ Cond.selects yX10_act.cls yX10_act yX10_act ∈ zq_T := ⟨⟨zq_mem 1110 (by decide +kernel) rfl, zq_mem 124 (by decide +kernel) rfl, ⟨by decide +kernel, by decide +kernel, by decide +kernel⟩, by decide +kernel, Nat.le_of_ble_eq_true rfl⟩, zq_mem 1108 (by decide +kernel) rfl, zq_mem 1109 (by decide +kernel) rfl⟩
theorem zd_X10_trace : zq_cd YX10_trace 1 ∧ Cond.instanceMethod yX10_trace ∈ zq_T ∧ Cond.selects yX10_trace.cls yX10_trace yX10_trace ∈ zq_T := ⟨⟨zq_mem 1137 (by decide +kernel) rfl, zq_mem 124 (by decide +kernel) rfl, ⟨by decide +kernel, by decide +kernel, by decide +kernel⟩, by decide +kernel, Nat.le_of_ble_eq_true rfl⟩, zq_mem 1135 (by decide +kernel) rfl, zq_mem 1136 (by decide +kernel) rfl⟩
theorem zd_X10_taken : zq_cd YX10_taken 2 ∧ Cond.instanceMethod yX10_taken ∈ zq_T ∧ Cond.selects yX10_taken.cls yX10_taken yX10_taken ∈ zq_T := ⟨⟨zq_mem 1147 (by decide +kernel) rfl, zq_mem 124 (by decide +kernel) rfl, ⟨by decide +kernel, by decide +kernel, by decide +kernel⟩, by decide +kernel, Nat.le_of_ble_eq_true rfl⟩, zq_mem 1145 (by decide +kernel) rfl, zq_mem 1146 (by decide +kernel) rfl⟩
theorem zd_X10_count : zq_cd YX10_count 1 ∧ Cond.instanceMethod yX10_count ∈ zq_T ∧ Cond.selects yX10_count.cls yX10_count yX10_count ∈ zq_T := ⟨⟨zq_mem 1155 (by decide +kernel) rfl, zq_mem 124 (by decide +kernel) rfl, ⟨by decide +kernel, by decide +kernel, by decide +kernel⟩, by decide +kernel, Nat.le_of_ble_eq_true rfl⟩, zq_mem 1153 (by decide +kernel) rfl, zq_mem 1154 (by decide +kernel) rfl⟩
theorem zd_X10_tape : zq_cd YX10_tape 3 ∧ Cond.instanceMethod yX10_tape ∈ zq_T ∧ Cond.selects yX10_tape.cls yX10_tape yX10_tape ∈ zq_T := ⟨⟨zq_mem 1159 (by decide +kernel) rfl, zq_mem 124 (by decide +kernel) rfl, ⟨by decide +kernel, by decide +kernel, by decide +kernel⟩, by decide +kernel, Nat.le_of_ble_eq_true rfl⟩, zq_mem 1157 (by decide +kernel) rfl, zq_mem 1158 (by decide +kernel) rfl⟩
theorem zd_X10_item : zq_cd YX10_item 3 ∧ Cond.instanceMethod yX10_item ∈ zq_T ∧ Cond.selects yX10_item.cls yX10_item yX10_item ∈ zq_T := ⟨⟨zq_mem 1174 (by decide +kernel) rfl, zq_mem 124 (by decide +kernel) rfl, ⟨by decide +kernel, by decide +kernel, by decide +kernel⟩, by decide +kernel, Nat.le_of_ble_eq_true rfl⟩, zq_mem 1172 (by decide +kernel) rfl, zq_mem 1173 (by decide +kernel) rfl⟩
theorem zd_X10_read : zq_cd YX10_read 2 ∧ Cond.instanceMethod yX10_read ∈ zq_T ∧ Cond.selects yX10_read.cls yX10_read yX10_read ∈ zq_T := ⟨⟨zq_mem 1186 (by decide +kernel) rfl, zq_mem 124 (by decide +kernel) rfl, ⟨by decide +kernel, by decide +kernel, by decide +kernel⟩, by decide +kernel, Nat.le_of_ble_eq_true rfl⟩, zq_mem 1184 (by decide +kernel) rfl, zq_mem 1185 (by decide +kernel) rfl⟩
theorem zd_X10_shift : zq_cd YX10_shift 5 ∧ Cond.instanceMethod yX10_shift ∈ zq_T ∧ Cond.selects yX10_shift.cls yX10_shift yX10_shift ∈ zq_T := ⟨⟨zq_mem 1190 (by decide +kernel) rfl, zq_mem 124 (by decide +kernel) rfl, ⟨by decide +kernel, by decide +kernel, by decide +kernel⟩, by decide +kernel, Nat.le_of_ble_eq_true rfl⟩, zq_mem 1188 (by decide +kernel) rfl, zq_mem 1189 (by decide +kernel) rfl⟩
theorem zd_X10_isFromTo : zq_cd YX10_isFromTo 3 ∧ Cond.static yX10_isFromTo ∈ zq_T := ⟨⟨zq_mem 505 (by decide +kernel) rfl, zq_mem 124 (by decide +kernel) rfl, ⟨by decide +kernel, by decide +kernel, by decide +kernel⟩, by decide +kernel, Nat.le_of_ble_eq_true rfl⟩, zq_mem 504 (by decide +kernel) rfl⟩
theorem zd_X10_isRoom : zq_cd YX10_isRoom 1 ∧ Cond.static yX10_isRoom ∈ zq_T := ⟨⟨zq_mem 547 (by decide +kernel) rfl, zq_mem 124 (by decide +kernel) rfl, ⟨by decide +kernel, by decide +kernel, by decide +kernel⟩, by decide +kernel, Nat.le_of_ble_eq_true rfl⟩, zq_mem 546 (by decide +kernel) rfl⟩
theorem zd_X10_isPlace : zq_cd YX10_isPlace 1 ∧ Cond.static yX10_isPlace ∈ zq_T := ⟨⟨zq_mem 508 (by decide +kernel) rfl, zq_mem 124 (by decide +kernel) rfl, ⟨by decide +kernel, by decide +kernel, by decide +kernel⟩, by decide +kernel, Nat.le_of_ble_eq_true rfl⟩, zq_mem 507 (by decide +kernel) rfl⟩
theorem zd_X10_isThing : zq_cd YX10_isThing 1 ∧ Cond.static yX10_isThing ∈ zq_T := ⟨⟨zq_mem 821 (by decide +kernel) rfl, zq_mem 124 (by decide +kernel) rfl, ⟨by decide +kernel, by decide +kernel, by decide +kernel⟩, by decide +kernel, Nat.le_of_ble_eq_true rfl⟩, zq_mem 820 (by decide +kernel) rfl⟩
theorem zd_X10_isTape : zq_cd YX10_isTape 1 ∧ Cond.static yX10_isTape ∈ zq_T := ⟨⟨zq_mem 1081 (by decide +kernel) rfl, zq_mem 124 (by decide +kernel) rfl, ⟨by decide +kernel, by decide +kernel, by decide +kernel⟩, by decide +kernel, Nat.le_of_ble_eq_true rfl⟩, zq_mem 1080 (by decide +kernel) rfl⟩
theorem zd_X10_isPerson : zq_cd YX10_isPerson 1 ∧ Cond.instanceMethod yX10_isPerson ∈ zq_T ∧ Cond.selects yX10_isPerson.cls yX10_isPerson yX10_isPerson ∈ zq_T := ⟨⟨zq_mem 520 (by decide +kernel) rfl, zq_mem 124 (by decide +kernel) rfl, ⟨by decide +kernel, by decide +kernel, by decide +kernel⟩, by decide +kernel, Nat.le_of_ble_eq_true rfl⟩, zq_mem 519 (by decide +kernel) rfl, zq_mem 0 (by decide +kernel) rfl⟩
theorem zd_X10_isKindOrUnder : zq_cd YX10_isKindOrUnder 2 ∧ Cond.static yX10_isKindOrUnder ∈ zq_T := ⟨⟨zq_mem 1150 (by decide +kernel) rfl, zq_mem 124 (by decide +kernel) rfl, ⟨by decide +kernel, by decide +kernel, by decide +kernel⟩, by decide +kernel, Nat.le_of_ble_eq_true rfl⟩, zq_mem 1149 (by decide +kernel) rfl⟩
theorem zd_X10_holding : zq_cd YX10_holding 0 ∧ Cond.instanceMethod yX10_holding ∈ zq_T ∧ Cond.selects yX10_holding.cls yX10_holding yX10_holding ∈ zq_T := ⟨⟨zq_mem 532 (by decide +kernel) rfl, zq_mem 124 (by decide +kernel) rfl, ⟨by decide +kernel, by decide +kernel, by decide +kernel⟩, by decide +kernel, Nat.le_of_ble_eq_true rfl⟩, zq_mem 531 (by decide +kernel) rfl, zq_mem 3 (by decide +kernel) rfl⟩
theorem zd_X10_lookAhead : zq_cd YX10_lookAhead 0 ∧ Cond.instanceMethod yX10_lookAhead ∈ zq_T ∧ Cond.selects yX10_lookAhead.cls yX10_lookAhead yX10_lookAhead ∈ zq_T := ⟨⟨zq_mem 839 (by decide +kernel) rfl, zq_mem 124 (by decide +kernel) rfl, ⟨by decide +kernel, by decide +kernel, by decide +kernel⟩, by decide +kernel, Nat.le_of_ble_eq_true rfl⟩, zq_mem 838 (by decide +kernel) rfl, zq_mem 22 (by decide +kernel) rfl⟩
theorem zd_X10_speakersNow : zq_cd YX10_speakersNow 1 ∧ Cond.instanceMethod yX10_speakersNow ∈ zq_T ∧ Cond.selects yX10_speakersNow.cls yX10_speakersNow yX10_speakersNow ∈ zq_T := ⟨⟨zq_mem 528 (by decide +kernel) rfl, zq_mem 124 (by decide +kernel) rfl, ⟨by decide +kernel, by decide +kernel, by decide +kernel⟩, by decide +kernel, Nat.le_of_ble_eq_true rfl⟩, zq_mem 527 (by decide +kernel) rfl, zq_mem 2 (by decide +kernel) rfl⟩
theorem zd_X10_maySpeakNow : zq_cd YX10_maySpeakNow 1 ∧ Cond.instanceMethod yX10_maySpeakNow ∈ zq_T ∧ Cond.selects yX10_maySpeakNow.cls yX10_maySpeakNow yX10_maySpeakNow ∈ zq_T := ⟨⟨zq_mem 524 (by decide +kernel) rfl, zq_mem 124 (by decide +kernel) rfl, ⟨by decide +kernel, by decide +kernel, by decide +kernel⟩, by decide +kernel, Nat.le_of_ble_eq_true rfl⟩, zq_mem 523 (by decide +kernel) rfl, zq_mem 1 (by decide +kernel) rfl⟩
theorem zd_X10_priceNow : zq_cd YX10_priceNow 2 ∧ Cond.instanceMethod yX10_priceNow ∈ zq_T ∧ Cond.selects yX10_priceNow.cls yX10_priceNow yX10_priceNow ∈ zq_T := ⟨⟨zq_mem 768 (by decide +kernel) rfl, zq_mem 124 (by decide +kernel) rfl, ⟨by decide +kernel, by decide +kernel, by decide +kernel⟩, by decide +kernel, Nat.le_of_ble_eq_true rfl⟩, zq_mem 767 (by decide +kernel) rfl, zq_mem 17 (by decide +kernel) rfl⟩
theorem zd_X10_isBarredNow : zq_cd YX10_isBarredNow 2 ∧ Cond.instanceMethod yX10_isBarredNow ∈ zq_T ∧ Cond.selects yX10_isBarredNow.cls yX10_isBarredNow yX10_isBarredNow ∈ zq_T := ⟨⟨zq_mem 801 (by decide +kernel) rfl, zq_mem 124 (by decide +kernel) rfl, ⟨by decide +kernel, by decide +kernel, by decide +kernel⟩, by decide +kernel, Nat.le_of_ble_eq_true rfl⟩, zq_mem 800 (by decide +kernel) rfl, zq_mem 21 (by decide +kernel) rfl⟩
theorem zd_X10_numberWith : zq_cd YX10_numberWith 1 ∧ Cond.instanceMethod yX10_numberWith ∈ zq_T ∧ Cond.selects yX10_numberWith.cls yX10_numberWith yX10_numberWith ∈ zq_T := ⟨⟨zq_mem 772 (by decide +kernel) rfl, zq_mem 124 (by decide +kernel) rfl, ⟨by decide +kernel, by decide +kernel, by decide +kernel⟩, by decide +kernel, Nat.le_of_ble_eq_true rfl⟩, zq_mem 771 (by decide +kernel) rfl, zq_mem 18 (by decide +kernel) rfl⟩
theorem zd_X10_firstOtherwise : zq_cd YX10_firstOtherwise 2 ∧ Cond.instanceMethod yX10_firstOtherwise ∈ zq_T ∧ Cond.selects yX10_firstOtherwise.cls yX10_firstOtherwise yX10_firstOtherwise ∈ zq_T := ⟨⟨zq_mem 1089 (by decide +kernel) rfl, zq_mem 124 (by decide +kernel) rfl, ⟨by decide +kernel, by decide +kernel, by decide +kernel⟩, by decide +kernel, Nat.le_of_ble_eq_true rfl⟩, zq_mem 1088 (by decide +kernel) rfl, zq_mem 45 (by decide +kernel) rfl⟩
theorem zd_X11_init : zq_cd YX11_init 0 ∧ Cond.instanceMethod yX11_init ∈ zq_T := ⟨⟨zq_mem 1200 (by decide +kernel) rfl, zq_mem 135 (by decide +kernel) rfl, ⟨by decide +kernel, by decide +kernel, by decide +kernel⟩, by decide +kernel, Nat.le_of_ble_eq_true rfl⟩, zq_mem 1199 (by decide +kernel) rfl⟩
theorem zd_X11_within : zq_cd YX11_within 3 ∧ Cond.instanceMethod yX11_within ∈ zq_T ∧ Cond.selects yX11_within.cls yX11_within yX11_within ∈ zq_T := ⟨⟨zq_mem 1412 (by decide +kernel) rfl, zq_mem 135 (by decide +kernel) rfl, ⟨by decide +kernel, by decide +kernel, by decide +kernel⟩, by decide +kernel, Nat.le_of_ble_eq_true rfl⟩, zq_mem 1411 (by decide +kernel) rfl, zq_mem 49 (by decide +kernel) rfl⟩
theorem zd_X11_has : zq_cd YX11_has 2 ∧ Cond.instanceMethod yX11_has ∈ zq_T ∧ Cond.selects yX11_has.cls yX11_has yX11_has ∈ zq_T := ⟨⟨zq_mem 1588 (by decide +kernel) rfl, zq_mem 135 (by decide +kernel) rfl, ⟨by decide +kernel, by decide +kernel, by decide +kernel⟩, by decide +kernel, Nat.le_of_ble_eq_true rfl⟩, zq_mem 1587 (by decide +kernel) rfl, zq_mem 83 (by decide +kernel) rfl⟩
theorem zd_X11_ones : zq_cd YX11_ones 1 ∧ Cond.instanceMethod yX11_ones ∈ zq_T ∧ Cond.selects yX11_ones.cls yX11_ones yX11_ones ∈ zq_T := ⟨⟨zq_mem 1704 (by decide +kernel) rfl, zq_mem 135 (by decide +kernel) rfl, ⟨by decide +kernel, by decide +kernel, by decide +kernel⟩, by decide +kernel, Nat.le_of_ble_eq_true rfl⟩, zq_mem 1703 (by decide +kernel) rfl, zq_mem 104 (by decide +kernel) rfl⟩
theorem zd_X11_isPerson : zq_cd YX11_isPerson 1 ∧ Cond.instanceMethod yX11_isPerson ∈ zq_T ∧ Cond.selects yX11_isPerson.cls yX11_isPerson yX11_isPerson ∈ zq_T := ⟨⟨zq_mem 1428 (by decide +kernel) rfl, zq_mem 135 (by decide +kernel) rfl, ⟨by decide +kernel, by decide +kernel, by decide +kernel⟩, by decide +kernel, Nat.le_of_ble_eq_true rfl⟩, zq_mem 1427 (by decide +kernel) rfl, zq_mem 52 (by decide +kernel) rfl⟩
theorem zd_X11_isRoom : zq_cd YX11_isRoom 1 ∧ Cond.instanceMethod yX11_isRoom ∈ zq_T ∧ Cond.selects yX11_isRoom.cls yX11_isRoom yX11_isRoom ∈ zq_T := ⟨⟨zq_mem 1480 (by decide +kernel) rfl, zq_mem 135 (by decide +kernel) rfl, ⟨by decide +kernel, by decide +kernel, by decide +kernel⟩, by decide +kernel, Nat.le_of_ble_eq_true rfl⟩, zq_mem 1479 (by decide +kernel) rfl, zq_mem 63 (by decide +kernel) rfl⟩
theorem zd_X11_isPlace : zq_cd YX11_isPlace 1 ∧ Cond.instanceMethod yX11_isPlace ∈ zq_T ∧ Cond.selects yX11_isPlace.cls yX11_isPlace yX11_isPlace ∈ zq_T := ⟨⟨zq_mem 1416 (by decide +kernel) rfl, zq_mem 135 (by decide +kernel) rfl, ⟨by decide +kernel, by decide +kernel, by decide +kernel⟩, by decide +kernel, Nat.le_of_ble_eq_true rfl⟩, zq_mem 1415 (by decide +kernel) rfl, zq_mem 50 (by decide +kernel) rfl⟩
theorem zd_X11_isThing : zq_cd YX11_isThing 1 ∧ Cond.instanceMethod yX11_isThing ∈ zq_T ∧ Cond.selects yX11_isThing.cls yX11_isThing yX11_isThing ∈ zq_T := ⟨⟨zq_mem 1584 (by decide +kernel) rfl, zq_mem 135 (by decide +kernel) rfl, ⟨by decide +kernel, by decide +kernel, by decide +kernel⟩, by decide +kernel, Nat.le_of_ble_eq_true rfl⟩, zq_mem 1583 (by decide +kernel) rfl, zq_mem 82 (by decide +kernel) rfl⟩
theorem zd_X11_placeOf : zq_cd YX11_placeOf 2 ∧ Cond.instanceMethod yX11_placeOf ∈ zq_T ∧ Cond.selects yX11_placeOf.cls yX11_placeOf yX11_placeOf ∈ zq_T := ⟨⟨zq_mem 1444 (by decide +kernel) rfl, zq_mem 135 (by decide +kernel) rfl, ⟨by decide +kernel, by decide +kernel, by decide +kernel⟩, by decide +kernel, Nat.le_of_ble_eq_true rfl⟩, zq_mem 1443 (by decide +kernel) rfl, zq_mem 56 (by decide +kernel) rfl⟩
theorem zd_X11_moved : zq_cd YX11_moved 3 ∧ Cond.instanceMethod yX11_moved ∈ zq_T ∧ Cond.selects yX11_moved.cls yX11_moved yX11_moved ∈ zq_T := ⟨⟨zq_mem 1420 (by decide +kernel) rfl, zq_mem 135 (by decide +kernel) rfl, ⟨by decide +kernel, by decide +kernel, by decide +kernel⟩, by decide +kernel, Nat.le_of_ble_eq_true rfl⟩, zq_mem 1419 (by decide +kernel) rfl, zq_mem 51 (by decide +kernel) rfl⟩
theorem zd_X11_manyIn : zq_cd YX11_manyIn 2 ∧ Cond.instanceMethod yX11_manyIn ∈ zq_T ∧ Cond.selects yX11_manyIn.cls yX11_manyIn yX11_manyIn ∈ zq_T := ⟨⟨zq_mem 1464 (by decide +kernel) rfl, zq_mem 135 (by decide +kernel) rfl, ⟨by decide +kernel, by decide +kernel, by decide +kernel⟩, by decide +kernel, Nat.le_of_ble_eq_true rfl⟩, zq_mem 1463 (by decide +kernel) rfl, zq_mem 61 (by decide +kernel) rfl⟩
theorem zd_X11_person : zq_cd YX11_person 3 ∧ Cond.instanceMethod yX11_person ∈ zq_T ∧ Cond.selects yX11_person.cls yX11_person yX11_person ∈ zq_T := ⟨⟨zq_mem 1408 (by decide +kernel) rfl, zq_mem 135 (by decide +kernel) rfl, ⟨by decide +kernel, by decide +kernel, by decide +kernel⟩, by decide +kernel, Nat.le_of_ble_eq_true rfl⟩, zq_mem 1406 (by decide +kernel) rfl, zq_mem 1407 (by decide +kernel) rfl⟩
theorem zd_X11_measure : zq_cd YX11_measure 2 ∧ Cond.instanceMethod yX11_measure ∈ zq_T ∧ Cond.selects yX11_measure.cls yX11_measure yX11_measure ∈ zq_T := ⟨⟨zq_mem 1456 (by decide +kernel) rfl, zq_mem 135 (by decide +kernel) rfl, ⟨by decide +kernel, by decide +kernel, by decide +kernel⟩, by decide +kernel, Nat.le_of_ble_eq_true rfl⟩, zq_mem 1455 (by decide +kernel) rfl, zq_mem 59 (by decide +kernel) rfl⟩
theorem zd_X11_placeInLine : zq_cd YX11_placeInLine 3 ∧ Cond.instanceMethod yX11_placeInLine ∈ zq_T ∧ Cond.selects yX11_placeInLine.cls yX11_placeInLine yX11_placeInLine ∈ zq_T := ⟨⟨zq_mem 1460 (by decide +kernel) rfl, zq_mem 135 (by decide +kernel) rfl, ⟨by decide +kernel, by decide +kernel, by decide +kernel⟩, by decide +kernel, Nat.le_of_ble_eq_true rfl⟩, zq_mem 1459 (by decide +kernel) rfl, zq_mem 60 (by decide +kernel) rfl⟩
theorem zd_X11_hasLike : zq_cd YX11_hasLike 4 ∧ Cond.instanceMethod yX11_hasLike ∈ zq_T ∧ Cond.selects yX11_hasLike.cls yX11_hasLike yX11_hasLike ∈ zq_T := ⟨⟨zq_mem 1452 (by decide +kernel) rfl, zq_mem 135 (by decide +kernel) rfl, ⟨by decide +kernel, by decide +kernel, by decide +kernel⟩, by decide +kernel, Nat.le_of_ble_eq_true rfl⟩, zq_mem 1451 (by decide +kernel) rfl, zq_mem 58 (by decide +kernel) rfl⟩
theorem zd_X11_isMiddle : zq_cd YX11_isMiddle 4 ∧ Cond.instanceMethod yX11_isMiddle ∈ zq_T ∧ Cond.selects yX11_isMiddle.cls yX11_isMiddle yX11_isMiddle ∈ zq_T := ⟨⟨zq_mem 1468 (by decide +kernel) rfl, zq_mem 135 (by decide +kernel) rfl, ⟨by decide +kernel, by decide +kernel, by decide +kernel⟩, by decide +kernel, Nat.le_of_ble_eq_true rfl⟩, zq_mem 1467 (by decide +kernel) rfl, zq_mem 62 (by decide +kernel) rfl⟩
theorem zd_X11_maySpeak : zq_cd YX11_maySpeak 3 ∧ Cond.instanceMethod yX11_maySpeak ∈ zq_T ∧ Cond.selects yX11_maySpeak.cls yX11_maySpeak yX11_maySpeak ∈ zq_T := ⟨⟨zq_mem 1448 (by decide +kernel) rfl, zq_mem 135 (by decide +kernel) rfl, ⟨by decide +kernel, by decide +kernel, by decide +kernel⟩, by decide +kernel, Nat.le_of_ble_eq_true rfl⟩, zq_mem 1447 (by decide +kernel) rfl, zq_mem 57 (by decide +kernel) rfl⟩
theorem zd_X11_of : zq_cd YX11_of 2 ∧ Cond.instanceMethod yX11_of ∈ zq_T ∧ Cond.selects yX11_of.cls yX11_of yX11_of ∈ zq_T := ⟨⟨zq_mem 1424 (by decide +kernel) rfl, zq_mem 135 (by decide +kernel) rfl, ⟨by decide +kernel, by decide +kernel, by decide +kernel⟩, by decide +kernel, Nat.le_of_ble_eq_true rfl⟩, zq_mem 1422 (by decide +kernel) rfl, zq_mem 1423 (by decide +kernel) rfl⟩
theorem zd_X11_learn : zq_cd YX11_learn 2 ∧ Cond.instanceMethod yX11_learn ∈ zq_T ∧ Cond.selects yX11_learn.cls yX11_learn yX11_learn ∈ zq_T := ⟨⟨zq_mem 1472 (by decide +kernel) rfl, zq_mem 135 (by decide +kernel) rfl, ⟨by decide +kernel, by decide +kernel, by decide +kernel⟩, by decide +kernel, Nat.le_of_ble_eq_true rfl⟩, zq_mem 1470 (by decide +kernel) rfl, zq_mem 1471 (by decide +kernel) rfl⟩
theorem zd_X11_room : zq_cd YX11_room 3 ∧ Cond.instanceMethod yX11_room ∈ zq_T ∧ Cond.selects yX11_room.cls yX11_room yX11_room ∈ zq_T := ⟨⟨zq_mem 1476 (by decide +kernel) rfl, zq_mem 135 (by decide +kernel) rfl, ⟨by decide +kernel, by decide +kernel, by decide +kernel⟩, by decide +kernel, Nat.le_of_ble_eq_true rfl⟩, zq_mem 1474 (by decide +kernel) rfl, zq_mem 1475 (by decide +kernel) rfl⟩
theorem zd_X11_inside : zq_cd YX11_inside 2 ∧ Cond.instanceMethod yX11_inside ∈ zq_T ∧ Cond.selects yX11_inside.cls yX11_inside yX11_inside ∈ zq_T := ⟨⟨zq_mem 1484 (by decide +kernel) rfl, zq_mem 135 (by decide +kernel) rfl, ⟨by decide +kernel, by decide +kernel, by decide +kernel⟩, by decide +kernel, Nat.le_of_ble_eq_true rfl⟩, zq_mem 1482 (by decide +kernel) rfl, zq_mem 1483 (by decide +kernel) rfl⟩
theorem zd_X11_feed : zq_cd YX11_feed 1 ∧ Cond.instanceMethod yX11_feed ∈ zq_T ∧ Cond.selects yX11_feed.cls yX11_feed yX11_feed ∈ zq_T := ⟨⟨zq_mem 1488 (by decide +kernel) rfl, zq_mem 135 (by decide +kernel) rfl, ⟨by decide +kernel, by decide +kernel, by decide +kernel⟩, by decide +kernel, Nat.le_of_ble_eq_true rfl⟩, zq_mem 1486 (by decide +kernel) rfl, zq_mem 1487 (by decide +kernel) rfl⟩
theorem zd_X11_next : zq_cd YX11_next 0 ∧ Cond.instanceMethod yX11_next ∈ zq_T ∧ Cond.selects yX11_next.cls yX11_next yX11_next ∈ zq_T := ⟨⟨zq_mem 1508 (by decide +kernel) rfl, zq_mem 135 (by decide +kernel) rfl, ⟨by decide +kernel, by decide +kernel, by decide +kernel⟩, by decide +kernel, Nat.le_of_ble_eq_true rfl⟩, zq_mem 1507 (by decide +kernel) rfl, zq_mem 67 (by decide +kernel) rfl⟩
theorem zd_X11_takes : zq_cd YX11_takes 1 ∧ Cond.instanceMethod yX11_takes ∈ zq_T ∧ Cond.selects yX11_takes.cls yX11_takes yX11_takes ∈ zq_T := ⟨⟨zq_mem 1516 (by decide +kernel) rfl, zq_mem 135 (by decide +kernel) rfl, ⟨by decide +kernel, by decide +kernel, by decide +kernel⟩, by decide +kernel, Nat.le_of_ble_eq_true rfl⟩, zq_mem 1515 (by decide +kernel) rfl, zq_mem 69 (by decide +kernel) rfl⟩
theorem zd_X11_takesWord : zq_cd YX11_takesWord 2 ∧ Cond.instanceMethod yX11_takesWord ∈ zq_T ∧ Cond.selects yX11_takesWord.cls yX11_takesWord yX11_takesWord ∈ zq_T := ⟨⟨zq_mem 1512 (by decide +kernel) rfl, zq_mem 135 (by decide +kernel) rfl, ⟨by decide +kernel, by decide +kernel, by decide +kernel⟩, by decide +kernel, Nat.le_of_ble_eq_true rfl⟩, zq_mem 1511 (by decide +kernel) rfl, zq_mem 68 (by decide +kernel) rfl⟩
theorem zd_X11_isDigit : zq_cd YX11_isDigit 0 ∧ Cond.instanceMethod yX11_isDigit ∈ zq_T ∧ Cond.selects yX11_isDigit.cls yX11_isDigit yX11_isDigit ∈ zq_T := ⟨⟨zq_mem 1536 (by decide +kernel) rfl, zq_mem 135 (by decide +kernel) rfl, ⟨by decide +kernel, by decide +kernel, by decide +kernel⟩, by decide +kernel, Nat.le_of_ble_eq_true rfl⟩, zq_mem 1535 (by decide +kernel) rfl, zq_mem 74 (by decide +kernel) rfl⟩
theorem zd_X11_takesNumber : zq_cd YX11_takesNumber 0 ∧ Cond.instanceMethod yX11_takesNumber ∈ zq_T ∧ Cond.selects yX11_takesNumber.cls yX11_takesNumber yX11_takesNumber ∈ zq_T := ⟨⟨zq_mem 1532 (by decide +kernel) rfl, zq_mem 135 (by decide +kernel) rfl, ⟨by decide +kernel, by decide +kernel, by decide +kernel⟩, by decide +kernel, Nat.le_of_ble_eq_true rfl⟩, zq_mem 1531 (by decide +kernel) rfl, zq_mem 73 (by decide +kernel) rfl⟩
theorem zd_X11_put : zq_cd YX11_put 1 ∧ Cond.instanceMethod yX11_put ∈ zq_T ∧ Cond.selects yX11_put.cls yX11_put yX11_put ∈ zq_T := ⟨⟨zq_mem 1540 (by decide +kernel) rfl, zq_mem 135 (by decide +kernel) rfl, ⟨by decide +kernel, by decide +kernel, by decide +kernel⟩, by decide +kernel, Nat.le_of_ble_eq_true rfl⟩, zq_mem 1539 (by decide +kernel) rfl, zq_mem 75 (by decide +kernel) rfl⟩
theorem zd_X11_whole : zq_cd YX11_whole 0 ∧ Cond.instanceMethod yX11_whole ∈ zq_T ∧ Cond.selects yX11_whole.cls yX11_whole yX11_whole ∈ zq_T := ⟨⟨zq_mem 1544 (by decide +kernel) rfl, zq_mem 135 (by decide +kernel) rfl, ⟨by decide +kernel, by decide +kernel, by decide +kernel⟩, by decide +kernel, Nat.le_of_ble_eq_true rfl⟩, zq_mem 1543 (by decide +kernel) rfl, zq_mem 76 (by decide +kernel) rfl⟩
theorem zd_X11_settle : zq_cd YX11_settle 1 ∧ Cond.instanceMethod yX11_settle ∈ zq_T ∧ Cond.selects yX11_settle.cls yX11_settle yX11_settle ∈ zq_T := ⟨⟨zq_mem 1548 (by decide +kernel) rfl, zq_mem 135 (by decide +kernel) rfl, ⟨by decide +kernel, by decide +kernel, by decide +kernel⟩, by decide +kernel, Nat.le_of_ble_eq_true rfl⟩, zq_mem 1547 (by decide +kernel) rfl, zq_mem 77 (by decide +kernel) rfl⟩
theorem zd_X11_place : zq_cd YX11_place 1 ∧ Cond.instanceMethod yX11_place ∈ zq_T ∧ Cond.selects yX11_place.cls yX11_place yX11_place ∈ zq_T := ⟨⟨zq_mem 1528 (by decide +kernel) rfl, zq_mem 135 (by decide +kernel) rfl, ⟨by decide +kernel, by decide +kernel, by decide +kernel⟩, by decide +kernel, Nat.le_of_ble_eq_true rfl⟩, zq_mem 1527 (by decide +kernel) rfl, zq_mem 72 (by decide +kernel) rfl⟩
theorem zd_X11_takesTest : zq_cd YX11_takesTest 0 ∧ Cond.instanceMethod yX11_takesTest ∈ zq_T ∧ Cond.selects yX11_takesTest.cls yX11_takesTest yX11_takesTest ∈ zq_T := ⟨⟨zq_mem 1524 (by decide +kernel) rfl, zq_mem 135 (by decide +kernel) rfl, ⟨by decide +kernel, by decide +kernel, by decide +kernel⟩, by decide +kernel, Nat.le_of_ble_eq_true rfl⟩, zq_mem 1523 (by decide +kernel) rfl, zq_mem 71 (by decide +kernel) rfl⟩
theorem zd_X11_takesE : zq_cd YX11_takesE 1 ∧ Cond.instanceMethod yX11_takesE ∈ zq_T ∧ Cond.selects yX11_takesE.cls yX11_takesE yX11_takesE ∈ zq_T := ⟨⟨zq_mem 1520 (by decide +kernel) rfl, zq_mem 135 (by decide +kernel) rfl, ⟨by decide +kernel, by decide +kernel, by decide +kernel⟩, by decide +kernel, Nat.le_of_ble_eq_true rfl⟩, zq_mem 1519 (by decide +kernel) rfl, zq_mem 70 (by decide +kernel) rfl⟩
theorem zd_X11_takesHead : zq_cd YX11_takesHead 1 ∧ Cond.instanceMethod yX11_takesHead ∈ zq_T ∧ Cond.selects yX11_takesHead.cls yX11_takesHead yX11_takesHead ∈ zq_T := ⟨⟨zq_mem 1504 (by decide +kernel) rfl, zq_mem 135 (by decide +kernel) rfl, ⟨by decide +kernel, by decide +kernel, by decide +kernel⟩, by decide +kernel, Nat.le_of_ble_eq_true rfl⟩, zq_mem 1503 (by decide +kernel) rfl, zq_mem 66 (by decide +kernel) rfl⟩
theorem zd_X11_takesClause : zq_cd YX11_takesClause 1 ∧ Cond.instanceMethod yX11_takesClause ∈ zq_T ∧ Cond.selects yX11_takesClause.cls yX11_takesClause yX11_takesClause ∈ zq_T := ⟨⟨zq_mem 1500 (by decide +kernel) rfl, zq_mem 135 (by decide +kernel) rfl, ⟨by decide +kernel, by decide +kernel, by decide +kernel⟩, by decide +kernel, Nat.le_of_ble_eq_true rfl⟩, zq_mem 1499 (by decide +kernel) rfl, zq_mem 65 (by decide +kernel) rfl⟩
theorem zd_X11_goesText : zq_cd YX11_goesText 1 ∧ Cond.instanceMethod yX11_goesText ∈ zq_T ∧ Cond.selects yX11_goesText.cls yX11_goesText yX11_goesText ∈ zq_T := ⟨⟨zq_mem 1496 (by decide +kernel) rfl, zq_mem 135 (by decide +kernel) rfl, ⟨by decide +kernel, by decide +kernel, by decide +kernel⟩, by decide +kernel, Nat.le_of_ble_eq_true rfl⟩, zq_mem 1495 (by decide +kernel) rfl, zq_mem 64 (by decide +kernel) rfl⟩
theorem zd_X11_house : zq_cd YX11_house 0 ∧ Cond.instanceMethod yX11_house ∈ zq_T ∧ Cond.selects yX11_house.cls yX11_house yX11_house ∈ zq_T := ⟨⟨zq_mem 1492 (by decide +kernel) rfl, zq_mem 135 (by decide +kernel) rfl, ⟨by decide +kernel, by decide +kernel, by decide +kernel⟩, by decide +kernel, Nat.le_of_ble_eq_true rfl⟩, zq_mem 1490 (by decide +kernel) rfl, zq_mem 1491 (by decide +kernel) rfl⟩
theorem zd_X11_first : zq_cd YX11_first 0 ∧ Cond.instanceMethod yX11_first ∈ zq_T ∧ Cond.selects yX11_first.cls yX11_first yX11_first ∈ zq_T := ⟨⟨zq_mem 1436 (by decide +kernel) rfl, zq_mem 135 (by decide +kernel) rfl, ⟨by decide +kernel, by decide +kernel, by decide +kernel⟩, by decide +kernel, Nat.le_of_ble_eq_true rfl⟩, zq_mem 1435 (by decide +kernel) rfl, zq_mem 54 (by decide +kernel) rfl⟩
theorem zd_X11_behind : zq_cd YX11_behind 0 ∧ Cond.instanceMethod yX11_behind ∈ zq_T ∧ Cond.selects yX11_behind.cls yX11_behind yX11_behind ∈ zq_T := ⟨⟨zq_mem 1440 (by decide +kernel) rfl, zq_mem 135 (by decide +kernel) rfl, ⟨by decide +kernel, by decide +kernel, by decide +kernel⟩, by decide +kernel, Nat.le_of_ble_eq_true rfl⟩, zq_mem 1439 (by decide +kernel) rfl, zq_mem 55 (by decide +kernel) rfl⟩
theorem zd_X11_sameNow : zq_cd YX11_sameNow 0 ∧ Cond.instanceMethod yX11_sameNow ∈ zq_T ∧ Cond.selects yX11_sameNow.cls yX11_sameNow yX11_sameNow ∈ zq_T := ⟨⟨zq_mem 1432 (by decide +kernel) rfl, zq_mem 135 (by decide +kernel) rfl, ⟨by decide +kernel, by decide +kernel, by decide +kernel⟩, by decide +kernel, Nat.le_of_ble_eq_true rfl⟩, zq_mem 1431 (by decide +kernel) rfl, zq_mem 53 (by decide +kernel) rfl⟩
theorem zd_X11_told : zq_cd YX11_told 1 ∧ Cond.instanceMethod yX11_told ∈ zq_T ∧ Cond.selects yX11_told.cls yX11_told yX11_told ∈ zq_T := ⟨⟨zq_mem 1552 (by decide +kernel) rfl, zq_mem 135 (by decide +kernel) rfl, ⟨by decide +kernel, by decide +kernel, by decide +kernel⟩, by decide +kernel, Nat.le_of_ble_eq_true rfl⟩, zq_mem 1550 (by decide +kernel) rfl, zq_mem 1551 (by decide +kernel) rfl⟩
theorem zd_X11_factOf : zq_cd YX11_factOf 5 ∧ Cond.instanceMethod yX11_factOf ∈ zq_T ∧ Cond.selects yX11_factOf.cls yX11_factOf yX11_factOf ∈ zq_T := ⟨⟨zq_mem 1568 (by decide +kernel) rfl, zq_mem 135 (by decide +kernel) rfl, ⟨by decide +kernel, by decide +kernel, by decide +kernel⟩, by decide +kernel, Nat.le_of_ble_eq_true rfl⟩, zq_mem 1567 (by decide +kernel) rfl, zq_mem 80 (by decide +kernel) rfl⟩
theorem zd_X11_holds : zq_cd YX11_holds 5 ∧ Cond.instanceMethod yX11_holds ∈ zq_T ∧ Cond.selects yX11_holds.cls yX11_holds yX11_holds ∈ zq_T := ⟨⟨zq_mem 1564 (by decide +kernel) rfl, zq_mem 135 (by decide +kernel) rfl, ⟨by decide +kernel, by decide +kernel, by decide +kernel⟩, by decide +kernel, Nat.le_of_ble_eq_true rfl⟩, zq_mem 1563 (by decide +kernel) rfl, zq_mem 79 (by decide +kernel) rfl⟩
theorem zd_X11_sumOf : zq_cd YX11_sumOf 5 ∧ Cond.instanceMethod yX11_sumOf ∈ zq_T ∧ Cond.selects yX11_sumOf.cls yX11_sumOf yX11_sumOf ∈ zq_T := ⟨⟨zq_mem 1560 (by decide +kernel) rfl, zq_mem 135 (by decide +kernel) rfl, ⟨by decide +kernel, by decide +kernel, by decide +kernel⟩, by decide +kernel, Nat.le_of_ble_eq_true rfl⟩, zq_mem 1559 (by decide +kernel) rfl, zq_mem 78 (by decide +kernel) rfl⟩
theorem zd_X11_isBarred : zq_cd YX11_isBarred 3 ∧ Cond.instanceMethod yX11_isBarred ∈ zq_T ∧ Cond.selects yX11_isBarred.cls yX11_isBarred yX11_isBarred ∈ zq_T := ⟨⟨zq_mem 1572 (by decide +kernel) rfl, zq_mem 135 (by decide +kernel) rfl, ⟨by decide +kernel, by decide +kernel, by decide +kernel⟩, by decide +kernel, Nat.le_of_ble_eq_true rfl⟩, zq_mem 1571 (by decide +kernel) rfl, zq_mem 81 (by decide +kernel) rfl⟩
theorem zd_X11_layComings : zq_cd YX11_layComings 0 ∧ Cond.instanceMethod yX11_layComings ∈ zq_T ∧ Cond.selects yX11_layComings.cls yX11_layComings yX11_layComings ∈ zq_T := ⟨⟨zq_mem 1600 (by decide +kernel) rfl, zq_mem 135 (by decide +kernel) rfl, ⟨by decide +kernel, by decide +kernel, by decide +kernel⟩, by decide +kernel, Nat.le_of_ble_eq_true rfl⟩, zq_mem 1599 (by decide +kernel) rfl, zq_mem 85 (by decide +kernel) rfl⟩
theorem zd_X11_comingOf : zq_cd YX11_comingOf 3 ∧ Cond.instanceMethod yX11_comingOf ∈ zq_T ∧ Cond.selects yX11_comingOf.cls yX11_comingOf yX11_comingOf ∈ zq_T := ⟨⟨zq_mem 1628 (by decide +kernel) rfl, zq_mem 135 (by decide +kernel) rfl, ⟨by decide +kernel, by decide +kernel, by decide +kernel⟩, by decide +kernel, Nat.le_of_ble_eq_true rfl⟩, zq_mem 1627 (by decide +kernel) rfl, zq_mem 92 (by decide +kernel) rfl⟩
theorem zd_X11_mayCome : zq_cd YX11_mayCome 3 ∧ Cond.instanceMethod yX11_mayCome ∈ zq_T ∧ Cond.selects yX11_mayCome.cls yX11_mayCome yX11_mayCome ∈ zq_T := ⟨⟨zq_mem 1624 (by decide +kernel) rfl, zq_mem 135 (by decide +kernel) rfl, ⟨by decide +kernel, by decide +kernel, by decide +kernel⟩, by decide +kernel, Nat.le_of_ble_eq_true rfl⟩, zq_mem 1623 (by decide +kernel) rfl, zq_mem 91 (by decide +kernel) rfl⟩
theorem zd_X11_coming : zq_cd YX11_coming 3 ∧ Cond.instanceMethod yX11_coming ∈ zq_T ∧ Cond.selects yX11_coming.cls yX11_coming yX11_coming ∈ zq_T := ⟨⟨zq_mem 1556 (by decide +kernel) rfl, zq_mem 135 (by decide +kernel) rfl, ⟨by decide +kernel, by decide +kernel, by decide +kernel⟩, by decide +kernel, Nat.le_of_ble_eq_true rfl⟩, zq_mem 1554 (by decide +kernel) rfl, zq_mem 1555 (by decide +kernel) rfl⟩
theorem zd_X11_come : zq_cd YX11_come 2 ∧ Cond.instanceMethod yX11_come ∈ zq_T ∧ Cond.selects yX11_come.cls yX11_come yX11_come ∈ zq_T := ⟨⟨zq_mem 1576 (by decide +kernel) rfl, zq_mem 135 (by decide +kernel) rfl, ⟨by decide +kernel, by decide +kernel, by decide +kernel⟩, by decide +kernel, Nat.le_of_ble_eq_true rfl⟩, zq_mem 1574 (by decide +kernel) rfl, zq_mem 1575 (by decide +kernel) rfl⟩
theorem zd_X11_said : zq_cd YX11_said 2 ∧ Cond.instanceMethod yX11_said ∈ zq_T ∧ Cond.selects yX11_said.cls yX11_said yX11_said ∈ zq_T := ⟨⟨zq_mem 1592 (by decide +kernel) rfl, zq_mem 135 (by decide +kernel) rfl, ⟨by decide +kernel, by decide +kernel, by decide +kernel⟩, by decide +kernel, Nat.le_of_ble_eq_true rfl⟩, zq_mem 1591 (by decide +kernel) rfl, zq_mem 84 (by decide +kernel) rfl⟩
theorem zd_X11_say : zq_cd YX11_say 2 ∧ Cond.instanceMethod yX11_say ∈ zq_T ∧ Cond.selects yX11_say.cls yX11_say yX11_say ∈ zq_T := ⟨⟨zq_mem 1580 (by decide +kernel) rfl, zq_mem 135 (by decide +kernel) rfl, ⟨by decide +kernel, by decide +kernel, by decide +kernel⟩, by decide +kernel, Nat.le_of_ble_eq_true rfl⟩, zq_mem 1578 (by decide +kernel) rfl, zq_mem 1579 (by decide +kernel) rfl⟩
theorem zd_X11_places : zq_cd YX11_places 0 ∧ Cond.instanceMethod yX11_places ∈ zq_T ∧ Cond.selects yX11_places.cls yX11_places yX11_places ∈ zq_T := ⟨⟨zq_mem 1612 (by decide +kernel) rfl, zq_mem 135 (by decide +kernel) rfl, ⟨by decide +kernel, by decide +kernel, by decide +kernel⟩, by decide +kernel, Nat.le_of_ble_eq_true rfl⟩, zq_mem 1611 (by decide +kernel) rfl, zq_mem 88 (by decide +kernel) rfl⟩
theorem zd_X11_beginAt : zq_cd YX11_beginAt 1 ∧ Cond.instanceMethod yX11_beginAt ∈ zq_T ∧ Cond.selects yX11_beginAt.cls yX11_beginAt yX11_beginAt ∈ zq_T := ⟨⟨zq_mem 1608 (by decide +kernel) rfl, zq_mem 135 (by decide +kernel) rfl, ⟨by decide +kernel, by decide +kernel, by decide +kernel⟩, by decide +kernel, Nat.le_of_ble_eq_true rfl⟩, zq_mem 1607 (by decide +kernel) rfl, zq_mem 87 (by decide +kernel) rfl⟩
theorem zd_X11_goOn : zq_cd YX11_goOn 0 ∧ Cond.instanceMethod yX11_goOn ∈ zq_T ∧ Cond.selects yX11_goOn.cls yX11_goOn yX11_goOn ∈ zq_T := ⟨⟨zq_mem 1620 (by decide +kernel) rfl, zq_mem 135 (by decide +kernel) rfl, ⟨by decide +kernel, by decide +kernel, by decide +kernel⟩, by decide +kernel, Nat.le_of_ble_eq_true rfl⟩, zq_mem 1619 (by decide +kernel) rfl, zq_mem 90 (by decide +kernel) rfl⟩
theorem zd_X11_canSpeak : zq_cd YX11_canSpeak 3 ∧ Cond.instanceMethod yX11_canSpeak ∈ zq_T ∧ Cond.selects yX11_canSpeak.cls yX11_canSpeak yX11_canSpeak ∈ zq_T := ⟨⟨zq_mem 1616 (by decide +kernel) rfl, zq_mem 135 (by decide +kernel) rfl, ⟨by decide +kernel, by decide +kernel, by decide +kernel⟩, by decide +kernel, Nat.le_of_ble_eq_true rfl⟩, zq_mem 1615 (by decide +kernel) rfl, zq_mem 89 (by decide +kernel) rfl⟩
theorem zd_X11_soonestOf : zq_cd YX11_soonestOf 2 ∧ Cond.instanceMethod yX11_soonestOf ∈ zq_T ∧ Cond.selects yX11_soonestOf.cls yX11_soonestOf yX11_soonestOf ∈ zq_T := ⟨⟨zq_mem 1604 (by decide +kernel) rfl, zq_mem 135 (by decide +kernel) rfl, ⟨by decide +kernel, by decide +kernel, by decide +kernel⟩, by decide +kernel, Nat.le_of_ble_eq_true rfl⟩, zq_mem 1603 (by decide +kernel) rfl, zq_mem 86 (by decide +kernel) rfl⟩
theorem zd_X11_leadsBy : zq_cd YX11_leadsBy 4 ∧ Cond.instanceMethod yX11_leadsBy ∈ zq_T ∧ Cond.selects yX11_leadsBy.cls yX11_leadsBy yX11_leadsBy ∈ zq_T := ⟨⟨zq_mem 1632 (by decide +kernel) rfl, zq_mem 135 (by decide +kernel) rfl, ⟨by decide +kernel, by decide +kernel, by decide +kernel⟩, by decide +kernel, Nat.le_of_ble_eq_true rfl⟩, zq_mem 1631 (by decide +kernel) rfl, zq_mem 93 (by decide +kernel) rfl⟩
theorem zd_X11_soonest : zq_cd YX11_soonest 3 ∧ Cond.instanceMethod yX11_soonest ∈ zq_T ∧ Cond.selects yX11_soonest.cls yX11_soonest yX11_soonest ∈ zq_T := ⟨⟨zq_mem 1596 (by decide +kernel) rfl, zq_mem 135 (by decide +kernel) rfl, ⟨by decide +kernel, by decide +kernel, by decide +kernel⟩, by decide +kernel, Nat.le_of_ble_eq_true rfl⟩, zq_mem 1594 (by decide +kernel) rfl, zq_mem 1595 (by decide +kernel) rfl⟩
theorem zd_X11_goOnCheap : zq_cd YX11_goOnCheap 0 ∧ Cond.instanceMethod yX11_goOnCheap ∈ zq_T ∧ Cond.selects yX11_goOnCheap.cls yX11_goOnCheap yX11_goOnCheap ∈ zq_T := ⟨⟨zq_mem 1640 (by decide +kernel) rfl, zq_mem 135 (by decide +kernel) rfl, ⟨by decide +kernel, by decide +kernel, by decide +kernel⟩, by decide +kernel, Nat.le_of_ble_eq_true rfl⟩, zq_mem 1639 (by decide +kernel) rfl, zq_mem 94 (by decide +kernel) rfl⟩
theorem zd_X11_cheapest : zq_cd YX11_cheapest 3 ∧ Cond.instanceMethod yX11_cheapest ∈ zq_T ∧ Cond.selects yX11_cheapest.cls yX11_cheapest yX11_cheapest ∈ zq_T := ⟨⟨zq_mem 1636 (by decide +kernel) rfl, zq_mem 135 (by decide +kernel) rfl, ⟨by decide +kernel, by decide +kernel, by decide +kernel⟩, by decide +kernel, Nat.le_of_ble_eq_true rfl⟩, zq_mem 1634 (by decide +kernel) rfl, zq_mem 1635 (by decide +kernel) rfl⟩
theorem zd_X11_never : zq_cd YX11_never 1 ∧ Cond.instanceMethod yX11_never ∈ zq_T ∧ Cond.selects yX11_never.cls yX11_never yX11_never ∈ zq_T := ⟨⟨zq_mem 1644 (by decide +kernel) rfl, zq_mem 135 (by decide +kernel) rfl, ⟨by decide +kernel, by decide +kernel, by decide +kernel⟩, by decide +kernel, Nat.le_of_ble_eq_true rfl⟩, zq_mem 1642 (by decide +kernel) rfl, zq_mem 1643 (by decide +kernel) rfl⟩
theorem zd_X11_spread : zq_cd YX11_spread 3 ∧ Cond.instanceMethod yX11_spread ∈ zq_T ∧ Cond.selects yX11_spread.cls yX11_spread yX11_spread ∈ zq_T := ⟨⟨zq_mem 1656 (by decide +kernel) rfl, zq_mem 135 (by decide +kernel) rfl, ⟨by decide +kernel, by decide +kernel, by decide +kernel⟩, by decide +kernel, Nat.le_of_ble_eq_true rfl⟩, zq_mem 1655 (by decide +kernel) rfl, zq_mem 96 (by decide +kernel) rfl⟩
theorem zd_X11_goOnKnown : zq_cd YX11_goOnKnown 1 ∧ Cond.instanceMethod yX11_goOnKnown ∈ zq_T ∧ Cond.selects yX11_goOnKnown.cls yX11_goOnKnown yX11_goOnKnown ∈ zq_T := ⟨⟨zq_mem 1660 (by decide +kernel) rfl, zq_mem 135 (by decide +kernel) rfl, ⟨by decide +kernel, by decide +kernel, by decide +kernel⟩, by decide +kernel, Nat.le_of_ble_eq_true rfl⟩, zq_mem 1659 (by decide +kernel) rfl, zq_mem 97 (by decide +kernel) rfl⟩
theorem zd_X11_fewestBy : zq_cd YX11_fewestBy 3 ∧ Cond.instanceMethod yX11_fewestBy ∈ zq_T ∧ Cond.selects yX11_fewestBy.cls yX11_fewestBy yX11_fewestBy ∈ zq_T := ⟨⟨zq_mem 1652 (by decide +kernel) rfl, zq_mem 135 (by decide +kernel) rfl, ⟨by decide +kernel, by decide +kernel, by decide +kernel⟩, by decide +kernel, Nat.le_of_ble_eq_true rfl⟩, zq_mem 1651 (by decide +kernel) rfl, zq_mem 95 (by decide +kernel) rfl⟩
theorem zd_X11_heard : zq_cd YX11_heard 1 ∧ Cond.instanceMethod yX11_heard ∈ zq_T ∧ Cond.selects yX11_heard.cls yX11_heard yX11_heard ∈ zq_T := ⟨⟨zq_mem 1648 (by decide +kernel) rfl, zq_mem 135 (by decide +kernel) rfl, ⟨by decide +kernel, by decide +kernel, by decide +kernel⟩, by decide +kernel, Nat.le_of_ble_eq_true rfl⟩, zq_mem 1646 (by decide +kernel) rfl, zq_mem 1647 (by decide +kernel) rfl⟩
theorem zd_X11_secret : zq_cd YX11_secret 3 ∧ Cond.instanceMethod yX11_secret ∈ zq_T ∧ Cond.selects yX11_secret.cls yX11_secret yX11_secret ∈ zq_T := ⟨⟨zq_mem 1664 (by decide +kernel) rfl, zq_mem 135 (by decide +kernel) rfl, ⟨by decide +kernel, by decide +kernel, by decide +kernel⟩, by decide +kernel, Nat.le_of_ble_eq_true rfl⟩, zq_mem 1662 (by decide +kernel) rfl, zq_mem 1663 (by decide +kernel) rfl⟩
theorem zd_X11_isWon : zq_cd YX11_isWon 4 ∧ Cond.instanceMethod yX11_isWon ∈ zq_T ∧ Cond.selects yX11_isWon.cls yX11_isWon yX11_isWon ∈ zq_T := ⟨⟨zq_mem 1688 (by decide +kernel) rfl, zq_mem 135 (by decide +kernel) rfl, ⟨by decide +kernel, by decide +kernel, by decide +kernel⟩, by decide +kernel, Nat.le_of_ble_eq_true rfl⟩, zq_mem 1687 (by decide +kernel) rfl, zq_mem 102 (by decide +kernel) rfl⟩
theorem zd_X11_mayTurn : zq_cd YX11_mayTurn 2 ∧ Cond.instanceMethod yX11_mayTurn ∈ zq_T ∧ Cond.selects yX11_mayTurn.cls yX11_mayTurn yX11_mayTurn ∈ zq_T := ⟨⟨zq_mem 1676 (by decide +kernel) rfl, zq_mem 135 (by decide +kernel) rfl, ⟨by decide +kernel, by decide +kernel, by decide +kernel⟩, by decide +kernel, Nat.le_of_ble_eq_true rfl⟩, zq_mem 1675 (by decide +kernel) rfl, zq_mem 99 (by decide +kernel) rfl⟩
theorem zd_X11_behindTurn : zq_cd YX11_behindTurn 2 ∧ Cond.instanceMethod yX11_behindTurn ∈ zq_T ∧ Cond.selects yX11_behindTurn.cls yX11_behindTurn yX11_behindTurn ∈ zq_T := ⟨⟨zq_mem 1680 (by decide +kernel) rfl, zq_mem 135 (by decide +kernel) rfl, ⟨by decide +kernel, by decide +kernel, by decide +kernel⟩, by decide +kernel, Nat.le_of_ble_eq_true rfl⟩, zq_mem 1679 (by decide +kernel) rfl, zq_mem 100 (by decide +kernel) rfl⟩
theorem zd_X11_turns : zq_cd YX11_turns 0 ∧ Cond.instanceMethod yX11_turns ∈ zq_T ∧ Cond.selects yX11_turns.cls yX11_turns yX11_turns ∈ zq_T := ⟨⟨zq_mem 1672 (by decide +kernel) rfl, zq_mem 135 (by decide +kernel) rfl, ⟨by decide +kernel, by decide +kernel, by decide +kernel⟩, by decide +kernel, Nat.le_of_ble_eq_true rfl⟩, zq_mem 1671 (by decide +kernel) rfl, zq_mem 98 (by decide +kernel) rfl⟩
theorem zd_X11_winsThird : zq_cd YX11_winsThird 5 ∧ Cond.instanceMethod yX11_winsThird ∈ zq_T ∧ Cond.selects yX11_winsThird.cls yX11_winsThird yX11_winsThird ∈ zq_T := ⟨⟨zq_mem 1692 (by decide +kernel) rfl, zq_mem 135 (by decide +kernel) rfl, ⟨by decide +kernel, by decide +kernel, by decide +kernel⟩, by decide +kernel, Nat.le_of_ble_eq_true rfl⟩, zq_mem 1691 (by decide +kernel) rfl, zq_mem 103 (by decide +kernel) rfl⟩
theorem zd_X11_winsSecond : zq_cd YX11_winsSecond 5 ∧ Cond.instanceMethod yX11_winsSecond ∈ zq_T ∧ Cond.selects yX11_winsSecond.cls yX11_winsSecond yX11_winsSecond ∈ zq_T := ⟨⟨zq_mem 1684 (by decide +kernel) rfl, zq_mem 135 (by decide +kernel) rfl, ⟨by decide +kernel, by decide +kernel, by decide +kernel⟩, by decide +kernel, Nat.le_of_ble_eq_true rfl⟩, zq_mem 1683 (by decide +kernel) rfl, zq_mem 101 (by decide +kernel) rfl⟩
theorem zd_X11_game : zq_cd YX11_game 3 ∧ Cond.instanceMethod yX11_game ∈ zq_T ∧ Cond.selects yX11_game.cls yX11_game yX11_game ∈ zq_T := ⟨⟨zq_mem 1668 (by decide +kernel) rfl, zq_mem 135 (by decide +kernel) rfl, ⟨by decide +kernel, by decide +kernel, by decide +kernel⟩, by decide +kernel, Nat.le_of_ble_eq_true rfl⟩, zq_mem 1666 (by decide +kernel) rfl, zq_mem 1667 (by decide +kernel) rfl⟩
theorem zd_X11_votes : zq_cd YX11_votes 2 ∧ Cond.instanceMethod yX11_votes ∈ zq_T ∧ Cond.selects yX11_votes.cls yX11_votes yX11_votes ∈ zq_T := ⟨⟨zq_mem 1696 (by decide +kernel) rfl, zq_mem 135 (by decide +kernel) rfl, ⟨by decide +kernel, by decide +kernel, by decide +kernel⟩, by decide +kernel, Nat.le_of_ble_eq_true rfl⟩, zq_mem 1694 (by decide +kernel) rfl, zq_mem 1695 (by decide +kernel) rfl⟩
theorem zd_X11_spoken : zq_cd YX11_spoken 2 ∧ Cond.instanceMethod yX11_spoken ∈ zq_T ∧ Cond.selects yX11_spoken.cls yX11_spoken yX11_spoken ∈ zq_T := ⟨⟨zq_mem 1700 (by decide +kernel) rfl, zq_mem 135 (by decide +kernel) rfl, ⟨by decide +kernel, by decide +kernel, by decide +kernel⟩, by decide +kernel, Nat.le_of_ble_eq_true rfl⟩, zq_mem 1698 (by decide +kernel) rfl, zq_mem 1699 (by decide +kernel) rfl⟩
theorem zd_X11_layOrder : zq_cd YX11_layOrder 1 ∧ Cond.instanceMethod yX11_layOrder ∈ zq_T ∧ Cond.selects yX11_layOrder.cls yX11_layOrder yX11_layOrder ∈ zq_T := ⟨⟨zq_mem 1712 (by decide +kernel) rfl, zq_mem 135 (by decide +kernel) rfl, ⟨by decide +kernel, by decide +kernel, by decide +kernel⟩, by decide +kernel, Nat.le_of_ble_eq_true rfl⟩, zq_mem 1711 (by decide +kernel) rfl, zq_mem 105 (by decide +kernel) rfl⟩
theorem zd_X11_goesWithRows : zq_cd YX11_goesWithRows 0 ∧ Cond.instanceMethod yX11_goesWithRows ∈ zq_T ∧ Cond.selects yX11_goesWithRows.cls yX11_goesWithRows yX11_goesWithRows ∈ zq_T := ⟨⟨zq_mem 1716 (by decide +kernel) rfl, zq_mem 135 (by decide +kernel) rfl, ⟨by decide +kernel, by decide +kernel, by decide +kernel⟩, by decide +kernel, Nat.le_of_ble_eq_true rfl⟩, zq_mem 1715 (by decide +kernel) rfl, zq_mem 106 (by decide +kernel) rfl⟩
theorem zd_X11_fits : zq_cd YX11_fits 0 ∧ Cond.instanceMethod yX11_fits ∈ zq_T ∧ Cond.selects yX11_fits.cls yX11_fits yX11_fits ∈ zq_T := ⟨⟨zq_mem 1708 (by decide +kernel) rfl, zq_mem 135 (by decide +kernel) rfl, ⟨by decide +kernel, by decide +kernel, by decide +kernel⟩, by decide +kernel, Nat.le_of_ble_eq_true rfl⟩, zq_mem 1706 (by decide +kernel) rfl, zq_mem 1707 (by decide +kernel) rfl⟩
theorem zd_X11_divisor : zq_cd YX11_divisor 2 ∧ Cond.instanceMethod yX11_divisor ∈ zq_T ∧ Cond.selects yX11_divisor.cls yX11_divisor yX11_divisor ∈ zq_T := ⟨⟨zq_mem 1737 (by decide +kernel) rfl, zq_mem 135 (by decide +kernel) rfl, ⟨by decide +kernel, by decide +kernel, by decide +kernel⟩, by decide +kernel, Nat.le_of_ble_eq_true rfl⟩, zq_mem 1736 (by decide +kernel) rfl, zq_mem 110 (by decide +kernel) rfl⟩
theorem zd_X11_waysFrom : zq_cd YX11_waysFrom 1 ∧ Cond.instanceMethod yX11_waysFrom ∈ zq_T ∧ Cond.selects yX11_waysFrom.cls yX11_waysFrom yX11_waysFrom ∈ zq_T := ⟨⟨zq_mem 1729 (by decide +kernel) rfl, zq_mem 135 (by decide +kernel) rfl, ⟨by decide +kernel, by decide +kernel, by decide +kernel⟩, by decide +kernel, Nat.le_of_ble_eq_true rfl⟩, zq_mem 1728 (by decide +kernel) rfl, zq_mem 108 (by decide +kernel) rfl⟩
theorem zd_X11_speaksBehind : zq_cd YX11_speaksBehind 3 ∧ Cond.instanceMethod yX11_speaksBehind ∈ zq_T ∧ Cond.selects yX11_speaksBehind.cls yX11_speaksBehind yX11_speaksBehind ∈ zq_T := ⟨⟨zq_mem 1745 (by decide +kernel) rfl, zq_mem 135 (by decide +kernel) rfl, ⟨by decide +kernel, by decide +kernel, by decide +kernel⟩, by decide +kernel, Nat.le_of_ble_eq_true rfl⟩, zq_mem 1744 (by decide +kernel) rfl, zq_mem 112 (by decide +kernel) rfl⟩
theorem zd_X11_addLot : zq_cd YX11_addLot 2 ∧ Cond.instanceMethod yX11_addLot ∈ zq_T ∧ Cond.selects yX11_addLot.cls yX11_addLot yX11_addLot ∈ zq_T := ⟨⟨zq_mem 1733 (by decide +kernel) rfl, zq_mem 135 (by decide +kernel) rfl, ⟨by decide +kernel, by decide +kernel, by decide +kernel⟩, by decide +kernel, Nat.le_of_ble_eq_true rfl⟩, zq_mem 1732 (by decide +kernel) rfl, zq_mem 109 (by decide +kernel) rfl⟩
theorem zd_X11_addFrom : zq_cd YX11_addFrom 4 ∧ Cond.instanceMethod yX11_addFrom ∈ zq_T ∧ Cond.selects yX11_addFrom.cls yX11_addFrom yX11_addFrom ∈ zq_T := ⟨⟨zq_mem 1741 (by decide +kernel) rfl, zq_mem 135 (by decide +kernel) rfl, ⟨by decide +kernel, by decide +kernel, by decide +kernel⟩, by decide +kernel, Nat.le_of_ble_eq_true rfl⟩, zq_mem 1740 (by decide +kernel) rfl, zq_mem 111 (by decide +kernel) rfl⟩
theorem zd_X11_layLot : zq_cd YX11_layLot 2 ∧ Cond.instanceMethod yX11_layLot ∈ zq_T ∧ Cond.selects yX11_layLot.cls yX11_layLot yX11_layLot ∈ zq_T := ⟨⟨zq_mem 1725 (by decide +kernel) rfl, zq_mem 135 (by decide +kernel) rfl, ⟨by decide +kernel, by decide +kernel, by decide +kernel⟩, by decide +kernel, Nat.le_of_ble_eq_true rfl⟩, zq_mem 1724 (by decide +kernel) rfl, zq_mem 107 (by decide +kernel) rfl⟩
theorem zd_X11_lot : zq_cd YX11_lot 3 ∧ Cond.instanceMethod yX11_lot ∈ zq_T ∧ Cond.selects yX11_lot.cls yX11_lot yX11_lot ∈ zq_T := ⟨⟨zq_mem 1720 (by decide +kernel) rfl, zq_mem 135 (by decide +kernel) rfl, ⟨by decide +kernel, by decide +kernel, by decide +kernel⟩, by decide +kernel, Nat.le_of_ble_eq_true rfl⟩, zq_mem 1718 (by decide +kernel) rfl, zq_mem 1719 (by decide +kernel) rfl⟩
theorem zd_X11_book : zq_cd YX11_book 1 ∧ Cond.instanceMethod yX11_book ∈ zq_T ∧ Cond.selects yX11_book.cls yX11_book yX11_book ∈ zq_T := ⟨⟨zq_mem 1749 (by decide +kernel) rfl, zq_mem 135 (by decide +kernel) rfl, ⟨by decide +kernel, by decide +kernel, by decide +kernel⟩, by decide +kernel, Nat.le_of_ble_eq_true rfl⟩, zq_mem 1747 (by decide +kernel) rfl, zq_mem 1748 (by decide +kernel) rfl⟩
theorem zd_X11_readBook : zq_cd YX11_readBook 0 ∧ Cond.instanceMethod yX11_readBook ∈ zq_T ∧ Cond.selects yX11_readBook.cls yX11_readBook yX11_readBook ∈ zq_T := ⟨⟨zq_mem 1753 (by decide +kernel) rfl, zq_mem 135 (by decide +kernel) rfl, ⟨by decide +kernel, by decide +kernel, by decide +kernel⟩, by decide +kernel, Nat.le_of_ble_eq_true rfl⟩, zq_mem 1751 (by decide +kernel) rfl, zq_mem 1752 (by decide +kernel) rfl⟩
theorem zd_X11_judge : zq_cd YX11_judge 2 ∧ Cond.instanceMethod yX11_judge ∈ zq_T ∧ Cond.selects yX11_judge.cls yX11_judge yX11_judge ∈ zq_T := ⟨⟨zq_mem 1757 (by decide +kernel) rfl, zq_mem 135 (by decide +kernel) rfl, ⟨by decide +kernel, by decide +kernel, by decide +kernel⟩, by decide +kernel, Nat.le_of_ble_eq_true rfl⟩, zq_mem 1755 (by decide +kernel) rfl, zq_mem 1756 (by decide +kernel) rfl⟩
theorem zd_X11_image : zq_cd YX11_image 0 ∧ Cond.instanceMethod yX11_image ∈ zq_T ∧ Cond.selects yX11_image.cls yX11_image yX11_image ∈ zq_T := ⟨⟨zq_mem 1765 (by decide +kernel) rfl, zq_mem 135 (by decide +kernel) rfl, ⟨by decide +kernel, by decide +kernel, by decide +kernel⟩, by decide +kernel, Nat.le_of_ble_eq_true rfl⟩, zq_mem 1763 (by decide +kernel) rfl, zq_mem 1764 (by decide +kernel) rfl⟩
theorem zd_X11_undo : zq_cd YX11_undo 0 ∧ Cond.instanceMethod yX11_undo ∈ zq_T ∧ Cond.selects yX11_undo.cls yX11_undo yX11_undo ∈ zq_T := ⟨⟨zq_mem 1769 (by decide +kernel) rfl, zq_mem 135 (by decide +kernel) rfl, ⟨by decide +kernel, by decide +kernel, by decide +kernel⟩, by decide +kernel, Nat.le_of_ble_eq_true rfl⟩, zq_mem 1767 (by decide +kernel) rfl, zq_mem 1768 (by decide +kernel) rfl⟩
theorem zd_X11_body : zq_cd YX11_body 1 ∧ Cond.instanceMethod yX11_body ∈ zq_T ∧ Cond.selects yX11_body.cls yX11_body yX11_body ∈ zq_T := ⟨⟨zq_mem 1781 (by decide +kernel) rfl, zq_mem 135 (by decide +kernel) rfl, ⟨by decide +kernel, by decide +kernel, by decide +kernel⟩, by decide +kernel, Nat.le_of_ble_eq_true rfl⟩, zq_mem 1780 (by decide +kernel) rfl, zq_mem 115 (by decide +kernel) rfl⟩
theorem zd_X11_roomHears : zq_cd YX11_roomHears 2 ∧ Cond.instanceMethod yX11_roomHears ∈ zq_T ∧ Cond.selects yX11_roomHears.cls yX11_roomHears yX11_roomHears ∈ zq_T := ⟨⟨zq_mem 1785 (by decide +kernel) rfl, zq_mem 135 (by decide +kernel) rfl, ⟨by decide +kernel, by decide +kernel, by decide +kernel⟩, by decide +kernel, Nat.le_of_ble_eq_true rfl⟩, zq_mem 1784 (by decide +kernel) rfl, zq_mem 116 (by decide +kernel) rfl⟩
theorem zd_X11_hearsAct : zq_cd YX11_hearsAct 2 ∧ Cond.instanceMethod yX11_hearsAct ∈ zq_T ∧ Cond.selects yX11_hearsAct.cls yX11_hearsAct yX11_hearsAct ∈ zq_T := ⟨⟨zq_mem 1777 (by decide +kernel) rfl, zq_mem 135 (by decide +kernel) rfl, ⟨by decide +kernel, by decide +kernel, by decide +kernel⟩, by decide +kernel, Nat.le_of_ble_eq_true rfl⟩, zq_mem 1776 (by decide +kernel) rfl, zq_mem 114 (by decide +kernel) rfl⟩
theorem zd_X11_roomSpeaks : zq_cd YX11_roomSpeaks 2 ∧ Cond.instanceMethod yX11_roomSpeaks ∈ zq_T ∧ Cond.selects yX11_roomSpeaks.cls yX11_roomSpeaks yX11_roomSpeaks ∈ zq_T := ⟨⟨zq_mem 1797 (by decide +kernel) rfl, zq_mem 135 (by decide +kernel) rfl, ⟨by decide +kernel, by decide +kernel, by decide +kernel⟩, by decide +kernel, Nat.le_of_ble_eq_true rfl⟩, zq_mem 1796 (by decide +kernel) rfl, zq_mem 119 (by decide +kernel) rfl⟩
theorem zd_X11_lowerSpeaks : zq_cd YX11_lowerSpeaks 2 ∧ Cond.instanceMethod yX11_lowerSpeaks ∈ zq_T ∧ Cond.selects yX11_lowerSpeaks.cls yX11_lowerSpeaks yX11_lowerSpeaks ∈ zq_T := ⟨⟨zq_mem 1793 (by decide +kernel) rfl, zq_mem 135 (by decide +kernel) rfl, ⟨by decide +kernel, by decide +kernel, by decide +kernel⟩, by decide +kernel, Nat.le_of_ble_eq_true rfl⟩, zq_mem 1792 (by decide +kernel) rfl, zq_mem 118 (by decide +kernel) rfl⟩
theorem zd_X11_speaksAct : zq_cd YX11_speaksAct 2 ∧ Cond.instanceMethod yX11_speaksAct ∈ zq_T ∧ Cond.selects yX11_speaksAct.cls yX11_speaksAct yX11_speaksAct ∈ zq_T := ⟨⟨zq_mem 1789 (by decide +kernel) rfl, zq_mem 135 (by decide +kernel) rfl, ⟨by decide +kernel, by decide +kernel, by decide +kernel⟩, by decide +kernel, Nat.le_of_ble_eq_true rfl⟩, zq_mem 1788 (by decide +kernel) rfl, zq_mem 117 (by decide +kernel) rfl⟩
theorem zd_X11_roomTells : zq_cd YX11_roomTells 2 ∧ Cond.instanceMethod yX11_roomTells ∈ zq_T ∧ Cond.selects yX11_roomTells.cls yX11_roomTells yX11_roomTells ∈ zq_T := ⟨⟨zq_mem 1805 (by decide +kernel) rfl, zq_mem 135 (by decide +kernel) rfl, ⟨by decide +kernel, by decide +kernel, by decide +kernel⟩, by decide +kernel, Nat.le_of_ble_eq_true rfl⟩, zq_mem 1804 (by decide +kernel) rfl, zq_mem 121 (by decide +kernel) rfl⟩
theorem zd_X11_tellsAct : zq_cd YX11_tellsAct 2 ∧ Cond.instanceMethod yX11_tellsAct ∈ zq_T ∧ Cond.selects yX11_tellsAct.cls yX11_tellsAct yX11_tellsAct ∈ zq_T := ⟨⟨zq_mem 1801 (by decide +kernel) rfl, zq_mem 135 (by decide +kernel) rfl, ⟨by decide +kernel, by decide +kernel, by decide +kernel⟩, by decide +kernel, Nat.le_of_ble_eq_true rfl⟩, zq_mem 1800 (by decide +kernel) rfl, zq_mem 120 (by decide +kernel) rfl⟩
theorem zd_X11_act : zq_cd YX11_act 3 ∧ Cond.instanceMethod yX11_act ∈ zq_T ∧ Cond.selects yX11_act.cls yX11_act yX11_act ∈ zq_T := ⟨⟨zq_mem 1773 (by decide +kernel) rfl, zq_mem 135 (by decide +kernel) rfl, ⟨by decide +kernel, by decide +kernel, by decide +kernel⟩, by decide +kernel, Nat.le_of_ble_eq_true rfl⟩, zq_mem 1771 (by decide +kernel) rfl, zq_mem 1772 (by decide +kernel) rfl⟩
theorem zd_X11_trace : zq_cd YX11_trace 1 ∧ Cond.instanceMethod yX11_trace ∈ zq_T ∧ Cond.selects yX11_trace.cls yX11_trace yX11_trace ∈ zq_T := ⟨⟨zq_mem 1809 (by decide +kernel) rfl, zq_mem 135 (by decide +kernel) rfl, ⟨by decide +kernel, by decide +kernel, by decide +kernel⟩, by decide +kernel, Nat.le_of_ble_eq_true rfl⟩, zq_mem 1807 (by decide +kernel) rfl, zq_mem 1808 (by decide +kernel) rfl⟩
theorem zd_X11_taken : zq_cd YX11_taken 2 ∧ Cond.instanceMethod yX11_taken ∈ zq_T ∧ Cond.selects yX11_taken.cls yX11_taken yX11_taken ∈ zq_T := ⟨⟨zq_mem 1813 (by decide +kernel) rfl, zq_mem 135 (by decide +kernel) rfl, ⟨by decide +kernel, by decide +kernel, by decide +kernel⟩, by decide +kernel, Nat.le_of_ble_eq_true rfl⟩, zq_mem 1811 (by decide +kernel) rfl, zq_mem 1812 (by decide +kernel) rfl⟩
theorem zd_X11_count : zq_cd YX11_count 1 ∧ Cond.instanceMethod yX11_count ∈ zq_T ∧ Cond.selects yX11_count.cls yX11_count yX11_count ∈ zq_T := ⟨⟨zq_mem 1817 (by decide +kernel) rfl, zq_mem 135 (by decide +kernel) rfl, ⟨by decide +kernel, by decide +kernel, by decide +kernel⟩, by decide +kernel, Nat.le_of_ble_eq_true rfl⟩, zq_mem 1815 (by decide +kernel) rfl, zq_mem 1816 (by decide +kernel) rfl⟩
theorem zd_X11_isTape : zq_cd YX11_isTape 1 ∧ Cond.instanceMethod yX11_isTape ∈ zq_T ∧ Cond.selects yX11_isTape.cls yX11_isTape yX11_isTape ∈ zq_T := ⟨⟨zq_mem 1761 (by decide +kernel) rfl, zq_mem 135 (by decide +kernel) rfl, ⟨by decide +kernel, by decide +kernel, by decide +kernel⟩, by decide +kernel, Nat.le_of_ble_eq_true rfl⟩, zq_mem 1760 (by decide +kernel) rfl, zq_mem 113 (by decide +kernel) rfl⟩
theorem zd_X11_tape : zq_cd YX11_tape 3 ∧ Cond.instanceMethod yX11_tape ∈ zq_T ∧ Cond.selects yX11_tape.cls yX11_tape yX11_tape ∈ zq_T := ⟨⟨zq_mem 1821 (by decide +kernel) rfl, zq_mem 135 (by decide +kernel) rfl, ⟨by decide +kernel, by decide +kernel, by decide +kernel⟩, by decide +kernel, Nat.le_of_ble_eq_true rfl⟩, zq_mem 1819 (by decide +kernel) rfl, zq_mem 1820 (by decide +kernel) rfl⟩
theorem zd_X11_narrow : zq_cd YX11_narrow 2 ∧ Cond.instanceMethod yX11_narrow ∈ zq_T ∧ Cond.selects yX11_narrow.cls yX11_narrow yX11_narrow ∈ zq_T := ⟨⟨zq_mem 1829 (by decide +kernel) rfl, zq_mem 135 (by decide +kernel) rfl, ⟨by decide +kernel, by decide +kernel, by decide +kernel⟩, by decide +kernel, Nat.le_of_ble_eq_true rfl⟩, zq_mem 1828 (by decide +kernel) rfl, zq_mem 122 (by decide +kernel) rfl⟩
theorem zd_X11_item : zq_cd YX11_item 3 ∧ Cond.instanceMethod yX11_item ∈ zq_T ∧ Cond.selects yX11_item.cls yX11_item yX11_item ∈ zq_T := ⟨⟨zq_mem 1825 (by decide +kernel) rfl, zq_mem 135 (by decide +kernel) rfl, ⟨by decide +kernel, by decide +kernel, by decide +kernel⟩, by decide +kernel, Nat.le_of_ble_eq_true rfl⟩, zq_mem 1823 (by decide +kernel) rfl, zq_mem 1824 (by decide +kernel) rfl⟩
theorem zd_X11_read : zq_cd YX11_read 2 ∧ Cond.instanceMethod yX11_read ∈ zq_T ∧ Cond.selects yX11_read.cls yX11_read yX11_read ∈ zq_T := ⟨⟨zq_mem 1833 (by decide +kernel) rfl, zq_mem 135 (by decide +kernel) rfl, ⟨by decide +kernel, by decide +kernel, by decide +kernel⟩, by decide +kernel, Nat.le_of_ble_eq_true rfl⟩, zq_mem 1831 (by decide +kernel) rfl, zq_mem 1832 (by decide +kernel) rfl⟩
theorem zd_X11_shift : zq_cd YX11_shift 5 ∧ Cond.instanceMethod yX11_shift ∈ zq_T ∧ Cond.selects yX11_shift.cls yX11_shift yX11_shift ∈ zq_T := ⟨⟨zq_mem 1837 (by decide +kernel) rfl, zq_mem 135 (by decide +kernel) rfl, ⟨by decide +kernel, by decide +kernel, by decide +kernel⟩, by decide +kernel, Nat.le_of_ble_eq_true rfl⟩, zq_mem 1835 (by decide +kernel) rfl, zq_mem 1836 (by decide +kernel) rfl⟩
theorem zd_J6_bitCount_0f7a4 : zq_cd YJ6_bitCount_0f7a4 1 ∧ Cond.static yJ6_bitCount_0f7a4 ∈ zq_T := ⟨⟨zq_mem 775 (by decide +kernel) rfl, zq_mem 142 (by decide +kernel) rfl, ⟨by decide +kernel, by decide +kernel, by decide +kernel⟩, by decide +kernel, Nat.le_of_ble_eq_true rfl⟩, zq_mem 774 (by decide +kernel) rfl⟩
theorem zd_J0_length_8abf5 : zq_cd YJ0_length_8abf5 0 ∧ Cond.instanceMethod yJ0_length_8abf5 ∈ zq_T ∧ Cond.selects yJ0_length_8abf5.cls yJ0_length_8abf5 yJ0_length_8abf5 ∈ zq_T := ⟨⟨zq_mem 607 (by decide +kernel) rfl, zq_mem 137 (by decide +kernel) rfl, ⟨by decide +kernel, by decide +kernel, by decide +kernel⟩, by decide +kernel, Nat.le_of_ble_eq_true rfl⟩, zq_mem 605 (by decide +kernel) rfl, zq_mem 606 (by decide +kernel) rfl⟩
theorem zd_J0_charAt_5068e : zq_cd YJ0_charAt_5068e 1 ∧ Cond.instanceMethod yJ0_charAt_5068e ∈ zq_T ∧ Cond.selects yJ0_charAt_5068e.cls yJ0_charAt_5068e yJ0_charAt_5068e ∈ zq_T := ⟨⟨zq_mem 617 (by decide +kernel) rfl, zq_mem 137 (by decide +kernel) rfl, ⟨by decide +kernel, by decide +kernel, by decide +kernel⟩, by decide +kernel, Nat.le_of_ble_eq_true rfl⟩, zq_mem 615 (by decide +kernel) rfl, zq_mem 616 (by decide +kernel) rfl⟩
theorem zd_J0_indexOf_0f7a4 : zq_cd YJ0_indexOf_0f7a4 1 ∧ Cond.instanceMethod yJ0_indexOf_0f7a4 ∈ zq_T ∧ Cond.selects yJ0_indexOf_0f7a4.cls yJ0_indexOf_0f7a4 yJ0_indexOf_0f7a4 ∈ zq_T := ⟨⟨zq_mem 671 (by decide +kernel) rfl, zq_mem 137 (by decide +kernel) rfl, ⟨by decide +kernel, by decide +kernel, by decide +kernel⟩, by decide +kernel, Nat.le_of_ble_eq_true rfl⟩, zq_mem 669 (by decide +kernel) rfl, zq_mem 670 (by decide +kernel) rfl⟩
theorem zd_J0_indexOf_7cf53 : zq_cd YJ0_indexOf_7cf53 2 ∧ Cond.instanceMethod yJ0_indexOf_7cf53 ∈ zq_T ∧ Cond.selects yJ0_indexOf_7cf53.cls yJ0_indexOf_7cf53 yJ0_indexOf_7cf53 ∈ zq_T := ⟨⟨zq_mem 675 (by decide +kernel) rfl, zq_mem 137 (by decide +kernel) rfl, ⟨by decide +kernel, by decide +kernel, by decide +kernel⟩, by decide +kernel, Nat.le_of_ble_eq_true rfl⟩, zq_mem 673 (by decide +kernel) rfl, zq_mem 674 (by decide +kernel) rfl⟩
theorem zd_J0_coder_7d493 : zq_cd YJ0_coder_7d493 0 ∧ Cond.instanceMethod yJ0_coder_7d493 ∈ zq_T ∧ Cond.selects yJ0_coder_7d493.cls yJ0_coder_7d493 yJ0_coder_7d493 ∈ zq_T := ⟨⟨zq_mem 611 (by decide +kernel) rfl, zq_mem 137 (by decide +kernel) rfl, ⟨by decide +kernel, by decide +kernel, by decide +kernel⟩, by decide +kernel, Nat.le_of_ble_eq_true rfl⟩, zq_mem 609 (by decide +kernel) rfl, zq_mem 610 (by decide +kernel) rfl⟩
theorem zd_J0_isLatin1_aae02 : zq_cd YJ0_isLatin1_aae02 0 ∧ Cond.instanceMethod yJ0_isLatin1_aae02 ∈ zq_T ∧ Cond.selects yJ0_isLatin1_aae02.cls yJ0_isLatin1_aae02 yJ0_isLatin1_aae02 ∈ zq_T := ⟨⟨zq_mem 621 (by decide +kernel) rfl, zq_mem 137 (by decide +kernel) rfl, ⟨by decide +kernel, by decide +kernel, by decide +kernel⟩, by decide +kernel, Nat.le_of_ble_eq_true rfl⟩, zq_mem 619 (by decide +kernel) rfl, zq_mem 620 (by decide +kernel) rfl⟩
theorem zd_J0_checkIndex_df160 : zq_cd YJ0_checkIndex_df160 2 ∧ Cond.static yJ0_checkIndex_df160 ∈ zq_T := ⟨⟨zq_mem 627 (by decide +kernel) rfl, zq_mem 137 (by decide +kernel) rfl, ⟨by decide +kernel, by decide +kernel, by decide +kernel⟩, by decide +kernel, Nat.le_of_ble_eq_true rfl⟩, zq_mem 626 (by decide +kernel) rfl⟩
theorem zd_J1_charAt_3b067 : zq_cd YJ1_charAt_3b067 2 ∧ Cond.static yJ1_charAt_3b067 ∈ zq_T := ⟨⟨zq_mem 624 (by decide +kernel) rfl, zq_mem 138 (by decide +kernel) rfl, ⟨by decide +kernel, by decide +kernel, by decide +kernel⟩, by decide +kernel, Nat.le_of_ble_eq_true rfl⟩, zq_mem 623 (by decide +kernel) rfl⟩
theorem zd_J1_canEncode_9a6ad : zq_cd YJ1_canEncode_9a6ad 1 ∧ Cond.static yJ1_canEncode_9a6ad ∈ zq_T := ⟨⟨zq_mem 682 (by decide +kernel) rfl, zq_mem 138 (by decide +kernel) rfl, ⟨by decide +kernel, by decide +kernel, by decide +kernel⟩, by decide +kernel, Nat.le_of_ble_eq_true rfl⟩, zq_mem 681 (by decide +kernel) rfl⟩
theorem zd_J1_indexOf_4cfef : zq_cd YJ1_indexOf_4cfef 4 ∧ Cond.static yJ1_indexOf_4cfef ∈ zq_T := ⟨⟨zq_mem 679 (by decide +kernel) rfl, zq_mem 138 (by decide +kernel) rfl, ⟨by decide +kernel, by decide +kernel, by decide +kernel⟩, by decide +kernel, Nat.le_of_ble_eq_true rfl⟩, zq_mem 678 (by decide +kernel) rfl⟩
theorem zd_J1_indexOfChar_4cfef : zq_cd YJ1_indexOfChar_4cfef 4 ∧ Cond.static yJ1_indexOfChar_4cfef ∈ zq_T := ⟨⟨zq_mem 689 (by decide +kernel) rfl, zq_mem 138 (by decide +kernel) rfl, ⟨by decide +kernel, by decide +kernel, by decide +kernel⟩, by decide +kernel, Nat.le_of_ble_eq_true rfl⟩, zq_mem 688 (by decide +kernel) rfl⟩
theorem zd_J7_fill_d0a16 : zq_cd YJ7_fill_d0a16 2 ∧ Cond.static yJ7_fill_d0a16 ∈ zq_T := ⟨⟨zq_mem 1170 (by decide +kernel) rfl, zq_mem 143 (by decide +kernel) rfl, ⟨by decide +kernel, by decide +kernel, by decide +kernel⟩, by decide +kernel, Nat.le_of_ble_eq_true rfl⟩, zq_mem 1169 (by decide +kernel) rfl⟩
theorem zd_J7_fill_53178 : zq_cd YJ7_fill_53178 2 ∧ Cond.static yJ7_fill_53178 ∈ zq_T := ⟨⟨zq_mem 860 (by decide +kernel) rfl, zq_mem 143 (by decide +kernel) rfl, ⟨by decide +kernel, by decide +kernel, by decide +kernel⟩, by decide +kernel, Nat.le_of_ble_eq_true rfl⟩, zq_mem 859 (by decide +kernel) rfl⟩
theorem zd_J3_checkIndex_8e157 : zq_cd YJ3_checkIndex_8e157 3 ∧ Cond.static yJ3_checkIndex_8e157 ∈ zq_T := ⟨⟨zq_mem 632 (by decide +kernel) rfl, zq_mem 139 (by decide +kernel) rfl, ⟨by decide +kernel, by decide +kernel, by decide +kernel⟩, by decide +kernel, Nat.le_of_ble_eq_true rfl⟩, zq_mem 631 (by decide +kernel) rfl⟩
theorem zf_RX5_43 : zq_FL RX5 43 5 0 := ⟨_, rfl, by decide, zq_mem 159 (by decide +kernel) rfl⟩
theorem zf_RX10_106 : zq_FL RX10 106 5 0 := ⟨_, rfl, by decide, zq_mem 160 (by decide +kernel) rfl⟩
theorem zf_RX4_23 : zq_FL RX4 23 5 0 := ⟨_, rfl, by decide, zq_mem 161 (by decide +kernel) rfl⟩
theorem zf_RX1_37 : zq_FL RX1 37 5 0 := ⟨_, rfl, by decide, zq_mem 162 (by decide +kernel) rfl⟩
theorem zf_RX8_43 : zq_FL RX8 43 5 0 := ⟨_, rfl, by decide, zq_mem 163 (by decide +kernel) rfl⟩
theorem zf_RX9_62 : zq_FL RX9 62 5 0 := ⟨_, rfl, by decide, zq_mem 164 (by decide +kernel) rfl⟩
theorem zf_RX6_67 : zq_FL RX6 67 5 0 := ⟨_, rfl, by decide, zq_mem 165 (by decide +kernel) rfl⟩
theorem zf_RX5_9 : zq_FL RX5 9 5 1 := ⟨_, rfl, by decide, zq_mem 166 (by decide +kernel) rfl⟩
theorem zf_RX10_117 : zq_FL RX10 117 5 1 := ⟨_, rfl, by decide, zq_mem 167 (by decide +kernel) rfl⟩
theorem zf_RX6_61 : zq_FL RX6 61 5 1 := ⟨_, rfl, by decide, zq_mem 168 (by decide +kernel) rfl⟩
theorem zf_RX5_15 : zq_FL RX5 15 5 2 := ⟨_, rfl, by decide, zq_mem 169 (by decide +kernel) rfl⟩
theorem zf_RX10_120 : zq_FL RX10 120 5 2 := ⟨_, rfl, by decide, zq_mem 170 (by decide +kernel) rfl⟩
theorem zf_RX6_93 : zq_FL RX6 93 5 2 := ⟨_, rfl, by decide, zq_mem 171 (by decide +kernel) rfl⟩
theorem zf_RX5_18 : zq_FL RX5 18 5 3 := ⟨_, rfl, by decide, zq_mem 172 (by decide +kernel) rfl⟩
theorem zf_RX10_123 : zq_FL RX10 123 5 3 := ⟨_, rfl, by decide, zq_mem 173 (by decide +kernel) rfl⟩
theorem zf_RX6_82 : zq_FL RX6 82 5 3 := ⟨_, rfl, by decide, zq_mem 174 (by decide +kernel) rfl⟩
theorem zf_RX5_21 : zq_FL RX5 21 5 4 := ⟨_, rfl, by decide, zq_mem 175 (by decide +kernel) rfl⟩
theorem zf_RX10_126 : zq_FL RX10 126 5 4 := ⟨_, rfl, by decide, zq_mem 176 (by decide +kernel) rfl⟩
theorem zf_RX6_117 : zq_FL RX6 117 5 4 := ⟨_, rfl, by decide, zq_mem 177 (by decide +kernel) rfl⟩
theorem zf_RX5_24 : zq_FL RX5 24 5 5 := ⟨_, rfl, by decide, zq_mem 178 (by decide +kernel) rfl⟩
theorem zf_RX10_135 : zq_FL RX10 135 5 5 := ⟨_, rfl, by decide, zq_mem 179 (by decide +kernel) rfl⟩
theorem zf_RX6_64 : zq_FL RX6 64 5 5 := ⟨_, rfl, by decide, zq_mem 180 (by decide +kernel) rfl⟩
theorem zf_RX5_27 : zq_FL RX5 27 5 6 := ⟨_, rfl, by decide, zq_mem 181 (by decide +kernel) rfl⟩
theorem zf_RX10_138 : zq_FL RX10 138 5 6 := ⟨_, rfl, by decide, zq_mem 182 (by decide +kernel) rfl⟩
theorem zf_RX6_99 : zq_FL RX6 99 5 6 := ⟨_, rfl, by decide, zq_mem 183 (by decide +kernel) rfl⟩
theorem zf_RX8_25 : zq_FL RX8 25 5 7 := ⟨_, rfl, by decide, zq_mem 184 (by decide +kernel) rfl⟩
theorem zf_RX1_91 : zq_FL RX1 91 5 7 := ⟨_, rfl, by decide, zq_mem 185 (by decide +kernel) rfl⟩
theorem zf_RX5_56 : zq_FL RX5 56 5 7 := ⟨_, rfl, by decide, zq_mem 186 (by decide +kernel) rfl⟩
theorem zf_RX10_168 : zq_FL RX10 168 5 7 := ⟨_, rfl, by decide, zq_mem 187 (by decide +kernel) rfl⟩
theorem zf_RX9_106 : zq_FL RX9 106 5 7 := ⟨_, rfl, by decide, zq_mem 188 (by decide +kernel) rfl⟩
theorem zf_RX6_139 : zq_FL RX6 139 5 7 := ⟨_, rfl, by decide, zq_mem 189 (by decide +kernel) rfl⟩
theorem zf_RX5_59 : zq_FL RX5 59 5 8 := ⟨_, rfl, by decide, zq_mem 190 (by decide +kernel) rfl⟩
theorem zf_RX10_171 : zq_FL RX10 171 5 8 := ⟨_, rfl, by decide, zq_mem 191 (by decide +kernel) rfl⟩
theorem zf_RX5_30 : zq_FL RX5 30 5 9 := ⟨_, rfl, by decide, zq_mem 192 (by decide +kernel) rfl⟩
theorem zf_RX4_39 : zq_FL RX4 39 5 9 := ⟨_, rfl, by decide, zq_mem 193 (by decide +kernel) rfl⟩
theorem zf_RX10_233 : zq_FL RX10 233 5 9 := ⟨_, rfl, by decide, zq_mem 194 (by decide +kernel) rfl⟩
theorem zf_RX5_33 : zq_FL RX5 33 5 10 := ⟨_, rfl, by decide, zq_mem 195 (by decide +kernel) rfl⟩
theorem zf_RX4_36 : zq_FL RX4 36 5 10 := ⟨_, rfl, by decide, zq_mem 196 (by decide +kernel) rfl⟩
theorem zf_RX10_236 : zq_FL RX10 236 5 10 := ⟨_, rfl, by decide, zq_mem 197 (by decide +kernel) rfl⟩
theorem zf_RX4_33 : zq_FL RX4 33 5 11 := ⟨_, rfl, by decide, zq_mem 198 (by decide +kernel) rfl⟩
theorem zf_RX5_62 : zq_FL RX5 62 5 11 := ⟨_, rfl, by decide, zq_mem 199 (by decide +kernel) rfl⟩
theorem zf_RX10_230 : zq_FL RX10 230 5 11 := ⟨_, rfl, by decide, zq_mem 200 (by decide +kernel) rfl⟩
theorem zf_RX5_36 : zq_FL RX5 36 5 12 := ⟨_, rfl, by decide, zq_mem 201 (by decide +kernel) rfl⟩
theorem zf_RX6_129 : zq_FL RX6 129 5 12 := ⟨_, rfl, by decide, zq_mem 202 (by decide +kernel) rfl⟩
theorem zf_RX10_251 : zq_FL RX10 251 5 12 := ⟨_, rfl, by decide, zq_mem 203 (by decide +kernel) rfl⟩
theorem zf_RX5_65 : zq_FL RX5 65 5 13 := ⟨_, rfl, by decide, zq_mem 204 (by decide +kernel) rfl⟩
theorem zf_RX6_126 : zq_FL RX6 126 5 13 := ⟨_, rfl, by decide, zq_mem 205 (by decide +kernel) rfl⟩
theorem zf_RX10_248 : zq_FL RX10 248 5 13 := ⟨_, rfl, by decide, zq_mem 206 (by decide +kernel) rfl⟩
theorem zf_RX5_39 : zq_FL RX5 39 5 14 := ⟨_, rfl, by decide, zq_mem 207 (by decide +kernel) rfl⟩
theorem zf_RX10_158 : zq_FL RX10 158 5 14 := ⟨_, rfl, by decide, zq_mem 208 (by decide +kernel) rfl⟩
theorem zf_RX2_32 : zq_FL RX2 32 2 0 := ⟨_, rfl, by decide, zq_mem 248 (by decide +kernel) rfl⟩
theorem zf_RX2_9 : zq_FL RX2 9 2 1 := ⟨_, rfl, by decide, zq_mem 249 (by decide +kernel) rfl⟩
theorem zf_RX2_15 : zq_FL RX2 15 2 2 := ⟨_, rfl, by decide, zq_mem 250 (by decide +kernel) rfl⟩
theorem zf_RX2_18 : zq_FL RX2 18 2 3 := ⟨_, rfl, by decide, zq_mem 251 (by decide +kernel) rfl⟩
theorem zf_RX2_21 : zq_FL RX2 21 2 4 := ⟨_, rfl, by decide, zq_mem 252 (by decide +kernel) rfl⟩
theorem zf_RX2_24 : zq_FL RX2 24 2 5 := ⟨_, rfl, by decide, zq_mem 253 (by decide +kernel) rfl⟩
theorem zf_RX2_35 : zq_FL RX2 35 2 6 := ⟨_, rfl, by decide, zq_mem 254 (by decide +kernel) rfl⟩
theorem zf_RX10_165 : zq_FL RX10 165 2 6 := ⟨_, rfl, by decide, zq_mem 255 (by decide +kernel) rfl⟩
theorem zf_RX6_106 : zq_FL RX6 106 2 6 := ⟨_, rfl, by decide, zq_mem 256 (by decide +kernel) rfl⟩
theorem zf_RX3_9 : zq_FL RX3 9 3 0 := ⟨_, rfl, by decide, zq_mem 280 (by decide +kernel) rfl⟩
theorem zf_RX3_28 : zq_FL RX3 28 3 1 := ⟨_, rfl, by decide, zq_mem 281 (by decide +kernel) rfl⟩
theorem zf_RX3_32 : zq_FL RX3 32 3 2 := ⟨_, rfl, by decide, zq_mem 282 (by decide +kernel) rfl⟩
theorem zf_RX3_18 : zq_FL RX3 18 3 3 := ⟨_, rfl, by decide, zq_mem 283 (by decide +kernel) rfl⟩
theorem zf_RX6_30 : zq_FL RX6 30 6 0 := ⟨_, rfl, by decide, zq_mem 299 (by decide +kernel) rfl⟩
theorem zf_RX8_21 : zq_FL RX8 21 6 0 := ⟨_, rfl, by decide, zq_mem 300 (by decide +kernel) rfl⟩
theorem zf_RX1_33 : zq_FL RX1 33 6 0 := ⟨_, rfl, by decide, zq_mem 301 (by decide +kernel) rfl⟩
theorem zf_RX9_44 : zq_FL RX9 44 6 0 := ⟨_, rfl, by decide, zq_mem 302 (by decide +kernel) rfl⟩
theorem zf_RX6_34 : zq_FL RX6 34 6 1 := ⟨_, rfl, by decide, zq_mem 303 (by decide +kernel) rfl⟩
theorem zf_RX6_11 : zq_FL RX6 11 6 2 := ⟨_, rfl, by decide, zq_mem 304 (by decide +kernel) rfl⟩
theorem zf_RX6_17 : zq_FL RX6 17 6 3 := ⟨_, rfl, by decide, zq_mem 305 (by decide +kernel) rfl⟩
theorem zf_RX6_20 : zq_FL RX6 20 6 4 := ⟨_, rfl, by decide, zq_mem 306 (by decide +kernel) rfl⟩
theorem zf_RX6_23 : zq_FL RX6 23 6 5 := ⟨_, rfl, by decide, zq_mem 307 (by decide +kernel) rfl⟩
theorem zf_RX6_26 : zq_FL RX6 26 6 6 := ⟨_, rfl, by decide, zq_mem 308 (by decide +kernel) rfl⟩
theorem zf_RX9_23 : zq_FL RX9 23 9 0 := ⟨_, rfl, by decide, zq_mem 331 (by decide +kernel) rfl⟩
theorem zf_RX9_11 : zq_FL RX9 11 9 1 := ⟨_, rfl, by decide, zq_mem 332 (by decide +kernel) rfl⟩
theorem zf_RX9_17 : zq_FL RX9 17 9 2 := ⟨_, rfl, by decide, zq_mem 333 (by decide +kernel) rfl⟩
theorem zf_RX9_20 : zq_FL RX9 20 9 3 := ⟨_, rfl, by decide, zq_mem 334 (by decide +kernel) rfl⟩
theorem zf_RX9_66 : zq_FL RX9 66 9 4 := ⟨_, rfl, by decide, zq_mem 335 (by decide +kernel) rfl⟩
theorem zf_RX9_69 : zq_FL RX9 69 9 5 := ⟨_, rfl, by decide, zq_mem 336 (by decide +kernel) rfl⟩
theorem zf_RX9_72 : zq_FL RX9 72 9 6 := ⟨_, rfl, by decide, zq_mem 337 (by decide +kernel) rfl⟩
theorem zf_RX9_58 : zq_FL RX9 58 9 7 := ⟨_, rfl, by decide, zq_mem 338 (by decide +kernel) rfl⟩
theorem zf_RX1_29 : zq_FL RX1 29 1 0 := ⟨_, rfl, by decide, zq_mem 362 (by decide +kernel) rfl⟩
theorem zf_RX1_11 : zq_FL RX1 11 1 1 := ⟨_, rfl, by decide, zq_mem 363 (by decide +kernel) rfl⟩
theorem zf_RX1_17 : zq_FL RX1 17 1 2 := ⟨_, rfl, by decide, zq_mem 364 (by decide +kernel) rfl⟩
theorem zf_RX1_20 : zq_FL RX1 20 1 3 := ⟨_, rfl, by decide, zq_mem 365 (by decide +kernel) rfl⟩
theorem zf_RX1_23 : zq_FL RX1 23 1 4 := ⟨_, rfl, by decide, zq_mem 366 (by decide +kernel) rfl⟩
theorem zf_RX1_26 : zq_FL RX1 26 1 5 := ⟨_, rfl, by decide, zq_mem 367 (by decide +kernel) rfl⟩
theorem zf_RX1_43 : zq_FL RX1 43 1 6 := ⟨_, rfl, by decide, zq_mem 368 (by decide +kernel) rfl⟩
theorem zf_RX8_9 : zq_FL RX8 9 8 0 := ⟨_, rfl, by decide, zq_mem 390 (by decide +kernel) rfl⟩
theorem zf_RX4_15 : zq_FL RX4 15 4 0 := ⟨_, rfl, by decide, zq_mem 400 (by decide +kernel) rfl⟩
theorem zf_RX4_9 : zq_FL RX4 9 4 1 := ⟨_, rfl, by decide, zq_mem 401 (by decide +kernel) rfl⟩
theorem zf_RX0_11 : zq_FL RX0 11 0 0 := ⟨_, rfl, by decide, zq_mem 413 (by decide +kernel) rfl⟩
theorem zf_RX0_15 : zq_FL RX0 15 0 1 := ⟨_, rfl, by decide, zq_mem 414 (by decide +kernel) rfl⟩
theorem zf_RX10_295 : zq_FL RX10 295 0 1 := ⟨_, rfl, by decide, zq_mem 415 (by decide +kernel) rfl⟩
theorem zf_RX0_29 : zq_FL RX0 29 0 2 := ⟨_, rfl, by decide, zq_mem 416 (by decide +kernel) rfl⟩
theorem zf_RX0_32 : zq_FL RX0 32 0 3 := ⟨_, rfl, by decide, zq_mem 417 (by decide +kernel) rfl⟩
theorem zf_RX0_35 : zq_FL RX0 35 0 4 := ⟨_, rfl, by decide, zq_mem 418 (by decide +kernel) rfl⟩
theorem zf_RX7_9 : zq_FL RX7 9 7 0 := ⟨_, rfl, by decide, zq_mem 437 (by decide +kernel) rfl⟩
theorem zf_RX10_268 : zq_FL RX10 268 7 0 := ⟨_, rfl, by decide, zq_mem 438 (by decide +kernel) rfl⟩
theorem zf_RX7_19 : zq_FL RX7 19 7 1 := ⟨_, rfl, by decide, zq_mem 439 (by decide +kernel) rfl⟩
theorem zf_RX7_15 : zq_FL RX7 15 7 2 := ⟨_, rfl, by decide, zq_mem 440 (by decide +kernel) rfl⟩
theorem zf_RX10_312 : zq_FL RX10 312 7 2 := ⟨_, rfl, by decide, zq_mem 441 (by decide +kernel) rfl⟩
theorem zf_RX10_12 : zq_FL RX10 12 10 0 := ⟨_, rfl, by decide, zq_mem 450 (by decide +kernel) rfl⟩
theorem zf_RX10_18 : zq_FL RX10 18 10 1 := ⟨_, rfl, by decide, zq_mem 451 (by decide +kernel) rfl⟩
theorem zf_RX10_278 : zq_FL RX10 278 10 2 := ⟨_, rfl, by decide, zq_mem 452 (by decide +kernel) rfl⟩
theorem zf_RX10_21 : zq_FL RX10 21 10 3 := ⟨_, rfl, by decide, zq_mem 453 (by decide +kernel) rfl⟩
theorem zf_RX10_148 : zq_FL RX10 148 10 4 := ⟨_, rfl, by decide, zq_mem 454 (by decide +kernel) rfl⟩
theorem zf_RX10_27 : zq_FL RX10 27 10 5 := ⟨_, rfl, by decide, zq_mem 455 (by decide +kernel) rfl⟩
theorem zf_RX10_151 : zq_FL RX10 151 10 6 := ⟨_, rfl, by decide, zq_mem 456 (by decide +kernel) rfl⟩
theorem zf_RX10_32 : zq_FL RX10 32 10 7 := ⟨_, rfl, by decide, zq_mem 457 (by decide +kernel) rfl⟩
theorem zf_RX10_39 : zq_FL RX10 39 10 8 := ⟨_, rfl, by decide, zq_mem 458 (by decide +kernel) rfl⟩
theorem zf_RX10_48 : zq_FL RX10 48 10 9 := ⟨_, rfl, by decide, zq_mem 459 (by decide +kernel) rfl⟩
theorem zf_RX10_57 : zq_FL RX10 57 10 10 := ⟨_, rfl, by decide, zq_mem 460 (by decide +kernel) rfl⟩
theorem zf_RX10_64 : zq_FL RX10 64 10 11 := ⟨_, rfl, by decide, zq_mem 461 (by decide +kernel) rfl⟩
theorem zf_RX10_71 : zq_FL RX10 71 10 12 := ⟨_, rfl, by decide, zq_mem 462 (by decide +kernel) rfl⟩
theorem zf_RX10_80 : zq_FL RX10 80 10 13 := ⟨_, rfl, by decide, zq_mem 463 (by decide +kernel) rfl⟩
theorem zf_RX10_87 : zq_FL RX10 87 10 14 := ⟨_, rfl, by decide, zq_mem 464 (by decide +kernel) rfl⟩
theorem zf_RX10_93 : zq_FL RX10 93 10 15 := ⟨_, rfl, by decide, zq_mem 465 (by decide +kernel) rfl⟩
theorem zf_RX11_7 : zq_FL RX11 7 11 0 := ⟨_, rfl, by decide, zq_mem 1203 (by decide +kernel) rfl⟩
theorem zf_RX11_13 : zq_FL RX11 13 11 1 := ⟨_, rfl, by decide, zq_mem 1204 (by decide +kernel) rfl⟩
theorem zf_RX11_16 : zq_FL RX11 16 11 2 := ⟨_, rfl, by decide, zq_mem 1205 (by decide +kernel) rfl⟩
theorem zf_RX11_19 : zq_FL RX11 19 11 3 := ⟨_, rfl, by decide, zq_mem 1206 (by decide +kernel) rfl⟩
theorem zf_RX11_22 : zq_FL RX11 22 11 4 := ⟨_, rfl, by decide, zq_mem 1207 (by decide +kernel) rfl⟩
theorem zf_RX11_26 : zq_FL RX11 26 11 5 := ⟨_, rfl, by decide, zq_mem 1208 (by decide +kernel) rfl⟩
theorem zf_RX11_29 : zq_FL RX11 29 11 6 := ⟨_, rfl, by decide, zq_mem 1209 (by decide +kernel) rfl⟩
theorem zf_RX11_32 : zq_FL RX11 32 11 7 := ⟨_, rfl, by decide, zq_mem 1210 (by decide +kernel) rfl⟩
theorem zf_RX11_35 : zq_FL RX11 35 11 8 := ⟨_, rfl, by decide, zq_mem 1211 (by decide +kernel) rfl⟩
theorem zf_RX11_38 : zq_FL RX11 38 11 9 := ⟨_, rfl, by decide, zq_mem 1212 (by decide +kernel) rfl⟩
theorem zf_RX11_41 : zq_FL RX11 41 11 10 := ⟨_, rfl, by decide, zq_mem 1213 (by decide +kernel) rfl⟩
theorem zf_RX11_44 : zq_FL RX11 44 11 11 := ⟨_, rfl, by decide, zq_mem 1214 (by decide +kernel) rfl⟩
theorem zf_RX11_47 : zq_FL RX11 47 11 12 := ⟨_, rfl, by decide, zq_mem 1215 (by decide +kernel) rfl⟩
theorem zf_RX11_50 : zq_FL RX11 50 11 13 := ⟨_, rfl, by decide, zq_mem 1216 (by decide +kernel) rfl⟩
theorem zf_RX11_53 : zq_FL RX11 53 11 14 := ⟨_, rfl, by decide, zq_mem 1217 (by decide +kernel) rfl⟩
theorem zf_RX11_56 : zq_FL RX11 56 11 15 := ⟨_, rfl, by decide, zq_mem 1218 (by decide +kernel) rfl⟩
theorem zf_RX11_59 : zq_FL RX11 59 11 16 := ⟨_, rfl, by decide, zq_mem 1219 (by decide +kernel) rfl⟩
theorem zf_RX11_62 : zq_FL RX11 62 11 17 := ⟨_, rfl, by decide, zq_mem 1220 (by decide +kernel) rfl⟩
theorem zf_RX11_65 : zq_FL RX11 65 11 18 := ⟨_, rfl, by decide, zq_mem 1221 (by decide +kernel) rfl⟩
theorem zf_RX11_68 : zq_FL RX11 68 11 19 := ⟨_, rfl, by decide, zq_mem 1222 (by decide +kernel) rfl⟩
theorem zf_RX11_71 : zq_FL RX11 71 11 20 := ⟨_, rfl, by decide, zq_mem 1223 (by decide +kernel) rfl⟩
theorem zf_RX11_74 : zq_FL RX11 74 11 21 := ⟨_, rfl, by decide, zq_mem 1224 (by decide +kernel) rfl⟩
theorem zf_RX11_77 : zq_FL RX11 77 11 22 := ⟨_, rfl, by decide, zq_mem 1225 (by decide +kernel) rfl⟩
theorem zf_RX11_80 : zq_FL RX11 80 11 23 := ⟨_, rfl, by decide, zq_mem 1226 (by decide +kernel) rfl⟩
theorem zf_RX11_83 : zq_FL RX11 83 11 24 := ⟨_, rfl, by decide, zq_mem 1227 (by decide +kernel) rfl⟩
theorem zf_RX11_86 : zq_FL RX11 86 11 25 := ⟨_, rfl, by decide, zq_mem 1228 (by decide +kernel) rfl⟩
theorem zf_RX11_89 : zq_FL RX11 89 11 26 := ⟨_, rfl, by decide, zq_mem 1229 (by decide +kernel) rfl⟩
theorem zf_RX11_92 : zq_FL RX11 92 11 27 := ⟨_, rfl, by decide, zq_mem 1230 (by decide +kernel) rfl⟩
theorem zf_RX11_96 : zq_FL RX11 96 11 28 := ⟨_, rfl, by decide, zq_mem 1231 (by decide +kernel) rfl⟩
theorem zf_RX11_99 : zq_FL RX11 99 11 29 := ⟨_, rfl, by decide, zq_mem 1232 (by decide +kernel) rfl⟩
theorem zf_RX11_102 : zq_FL RX11 102 11 30 := ⟨_, rfl, by decide, zq_mem 1233 (by decide +kernel) rfl⟩
theorem zf_RX11_105 : zq_FL RX11 105 11 31 := ⟨_, rfl, by decide, zq_mem 1234 (by decide +kernel) rfl⟩
theorem zf_RX11_108 : zq_FL RX11 108 11 32 := ⟨_, rfl, by decide, zq_mem 1235 (by decide +kernel) rfl⟩
theorem zf_RX11_111 : zq_FL RX11 111 11 33 := ⟨_, rfl, by decide, zq_mem 1236 (by decide +kernel) rfl⟩
theorem zf_RX11_115 : zq_FL RX11 115 11 34 := ⟨_, rfl, by decide, zq_mem 1237 (by decide +kernel) rfl⟩
theorem zf_RX11_118 : zq_FL RX11 118 11 35 := ⟨_, rfl, by decide, zq_mem 1238 (by decide +kernel) rfl⟩
theorem zf_RX11_121 : zq_FL RX11 121 11 36 := ⟨_, rfl, by decide, zq_mem 1239 (by decide +kernel) rfl⟩
theorem zf_RX11_124 : zq_FL RX11 124 11 37 := ⟨_, rfl, by decide, zq_mem 1240 (by decide +kernel) rfl⟩
theorem zf_RX11_127 : zq_FL RX11 127 11 38 := ⟨_, rfl, by decide, zq_mem 1241 (by decide +kernel) rfl⟩
theorem zf_RX11_130 : zq_FL RX11 130 11 39 := ⟨_, rfl, by decide, zq_mem 1242 (by decide +kernel) rfl⟩
theorem zf_RX11_133 : zq_FL RX11 133 11 40 := ⟨_, rfl, by decide, zq_mem 1243 (by decide +kernel) rfl⟩
theorem zf_RX11_137 : zq_FL RX11 137 11 41 := ⟨_, rfl, by decide, zq_mem 1244 (by decide +kernel) rfl⟩
theorem zf_RX11_140 : zq_FL RX11 140 11 42 := ⟨_, rfl, by decide, zq_mem 1245 (by decide +kernel) rfl⟩
theorem zf_RX11_143 : zq_FL RX11 143 11 43 := ⟨_, rfl, by decide, zq_mem 1246 (by decide +kernel) rfl⟩
theorem zf_RX11_146 : zq_FL RX11 146 11 44 := ⟨_, rfl, by decide, zq_mem 1247 (by decide +kernel) rfl⟩
theorem zf_RX11_149 : zq_FL RX11 149 11 45 := ⟨_, rfl, by decide, zq_mem 1248 (by decide +kernel) rfl⟩
theorem zf_RX11_153 : zq_FL RX11 153 11 46 := ⟨_, rfl, by decide, zq_mem 1249 (by decide +kernel) rfl⟩
theorem zf_RX11_156 : zq_FL RX11 156 11 47 := ⟨_, rfl, by decide, zq_mem 1250 (by decide +kernel) rfl⟩
theorem zf_RX11_159 : zq_FL RX11 159 11 48 := ⟨_, rfl, by decide, zq_mem 1251 (by decide +kernel) rfl⟩
theorem zf_RX11_162 : zq_FL RX11 162 11 49 := ⟨_, rfl, by decide, zq_mem 1252 (by decide +kernel) rfl⟩
theorem zf_RX11_165 : zq_FL RX11 165 11 50 := ⟨_, rfl, by decide, zq_mem 1253 (by decide +kernel) rfl⟩
theorem zf_RX11_168 : zq_FL RX11 168 11 51 := ⟨_, rfl, by decide, zq_mem 1254 (by decide +kernel) rfl⟩
theorem zf_RX11_171 : zq_FL RX11 171 11 52 := ⟨_, rfl, by decide, zq_mem 1255 (by decide +kernel) rfl⟩
theorem zf_RX11_174 : zq_FL RX11 174 11 53 := ⟨_, rfl, by decide, zq_mem 1256 (by decide +kernel) rfl⟩
theorem zf_RX11_177 : zq_FL RX11 177 11 54 := ⟨_, rfl, by decide, zq_mem 1257 (by decide +kernel) rfl⟩
theorem zf_RX11_180 : zq_FL RX11 180 11 55 := ⟨_, rfl, by decide, zq_mem 1258 (by decide +kernel) rfl⟩
theorem zf_RX11_183 : zq_FL RX11 183 11 56 := ⟨_, rfl, by decide, zq_mem 1259 (by decide +kernel) rfl⟩
theorem zf_RX11_186 : zq_FL RX11 186 11 57 := ⟨_, rfl, by decide, zq_mem 1260 (by decide +kernel) rfl⟩
theorem zf_RX11_189 : zq_FL RX11 189 11 58 := ⟨_, rfl, by decide, zq_mem 1261 (by decide +kernel) rfl⟩
theorem zf_RX11_192 : zq_FL RX11 192 11 59 := ⟨_, rfl, by decide, zq_mem 1262 (by decide +kernel) rfl⟩
theorem zf_RX11_195 : zq_FL RX11 195 11 60 := ⟨_, rfl, by decide, zq_mem 1263 (by decide +kernel) rfl⟩
theorem zf_RX11_198 : zq_FL RX11 198 11 61 := ⟨_, rfl, by decide, zq_mem 1264 (by decide +kernel) rfl⟩
theorem zf_RX11_201 : zq_FL RX11 201 11 62 := ⟨_, rfl, by decide, zq_mem 1265 (by decide +kernel) rfl⟩
theorem zf_RX11_204 : zq_FL RX11 204 11 63 := ⟨_, rfl, by decide, zq_mem 1266 (by decide +kernel) rfl⟩
theorem zf_RX11_207 : zq_FL RX11 207 11 64 := ⟨_, rfl, by decide, zq_mem 1267 (by decide +kernel) rfl⟩
theorem zf_RX11_210 : zq_FL RX11 210 11 65 := ⟨_, rfl, by decide, zq_mem 1268 (by decide +kernel) rfl⟩
theorem zf_RX11_214 : zq_FL RX11 214 11 66 := ⟨_, rfl, by decide, zq_mem 1269 (by decide +kernel) rfl⟩
theorem zl_RX10_3 : Cond.methodLink RX10 3 Lib.objectInit ∈ zq_T := zq_mem 150 (by decide +kernel) rfl
theorem zl_RX5_3 : Cond.methodLink RX5 3 Lib.objectInit ∈ zq_T := zq_mem 158 (by decide +kernel) rfl
theorem zl_RX2_3 : Cond.methodLink RX2 3 Lib.objectInit ∈ zq_T := zq_mem 247 (by decide +kernel) rfl
theorem zl_RX3_3 : Cond.methodLink RX3 3 Lib.objectInit ∈ zq_T := zq_mem 277 (by decide +kernel) rfl
theorem zl_RX10_45 : Cond.methodLink RX10 45 yX6_init ∈ zq_T := zq_mem 295 (by decide +kernel) rfl
theorem zl_RX6_3 : Cond.methodLink RX6 3 Lib.objectInit ∈ zq_T := zq_mem 298 (by decide +kernel) rfl
theorem zl_RX10_54 : Cond.methodLink RX10 54 yX9_init ∈ zq_T := zq_mem 327 (by decide +kernel) rfl
theorem zl_RX9_3 : Cond.methodLink RX9 3 Lib.objectInit ∈ zq_T := zq_mem 330 (by decide +kernel) rfl
theorem zl_RX10_63 : Cond.methodLink RX10 63 yX1_init ∈ zq_T := zq_mem 358 (by decide +kernel) rfl
theorem zl_RX1_3 : Cond.methodLink RX1 3 Lib.objectInit ∈ zq_T := zq_mem 361 (by decide +kernel) rfl
theorem zl_RX10_70 : Cond.methodLink RX10 70 yX8_init ∈ zq_T := zq_mem 386 (by decide +kernel) rfl
theorem zl_RX8_3 : Cond.methodLink RX8 3 Lib.objectInit ∈ zq_T := zq_mem 389 (by decide +kernel) rfl
theorem zl_RX10_77 : Cond.methodLink RX10 77 yX4_init ∈ zq_T := zq_mem 396 (by decide +kernel) rfl
theorem zl_RX4_3 : Cond.methodLink RX4 3 Lib.objectInit ∈ zq_T := zq_mem 399 (by decide +kernel) rfl
theorem zl_RX0_3 : Cond.methodLink RX0 3 Lib.objectInit ∈ zq_T := zq_mem 412 (by decide +kernel) rfl
theorem zl_RX7_3 : Cond.methodLink RX7 3 Lib.objectInit ∈ zq_T := zq_mem 436 (by decide +kernel) rfl
theorem zl_RX10_98 : Cond.methodLink RX10 98 yX10_isFromTo ∈ zq_T := zq_mem 503 (by decide +kernel) rfl
theorem zl_RX10_102 : Cond.methodLink RX10 102 yX10_isPlace ∈ zq_T := zq_mem 506 (by decide +kernel) rfl
theorem zl_RX10_110 : Cond.methodLink RX10 110 yX5_addPerson ∈ zq_T := zq_mem 509 (by decide +kernel) rfl
theorem zl_RX10_114 : Cond.methodLink RX10 114 yX10_isPerson ∈ zq_T := zq_mem 517 (by decide +kernel) rfl
theorem zl_RX10_129 : Cond.methodLink RX10 129 yX10_maySpeakNow ∈ zq_T := zq_mem 521 (by decide +kernel) rfl
theorem zl_RX10_145 : Cond.methodLink RX10 145 yX10_speakersNow ∈ zq_T := zq_mem 525 (by decide +kernel) rfl
theorem zl_RX10_161 : Cond.methodLink RX10 161 yX10_holding ∈ zq_T := zq_mem 529 (by decide +kernel) rfl
theorem zl_RX10_254 : Cond.methodLink RX10 254 yX6_look ∈ zq_T := zq_mem 533 (by decide +kernel) rfl
theorem zl_RX10_141 : Cond.methodLink RX10 141 yX5_whoIsAt ∈ zq_T := zq_mem 537 (by decide +kernel) rfl
theorem zl_RX10_331 : Cond.methodLink RX10 331 yX6_speakers ∈ zq_T := zq_mem 541 (by decide +kernel) rfl
theorem zl_RX6_96 : Cond.methodLink RX6 96 yX6_lineUp ∈ zq_T := zq_mem 548 (by decide +kernel) rfl
theorem zl_RX6_102 : Cond.methodLink RX6 102 yX6_placeInLine ∈ zq_T := zq_mem 552 (by decide +kernel) rfl
theorem zl_RX6_109 : Cond.methodLink RX6 109 yX6_withoutNear ∈ zq_T := zq_mem 555 (by decide +kernel) rfl
theorem zl_RX6_113 : Cond.methodLink RX6 113 yX6_isNearAnother ∈ zq_T := zq_mem 559 (by decide +kernel) rfl
theorem zl_RX10_132 : Cond.methodLink RX10 132 yX10_isRoom ∈ zq_T := zq_mem 571 (by decide +kernel) rfl
theorem zl_RX10_154 : Cond.methodLink RX10 154 yX3_readInto ∈ zq_T := zq_mem 584 (by decide +kernel) rfl
theorem zl_RX3_22 : Cond.methodLink RX3 22 Lib.Math.min.name ∈ zq_T := zq_mem 588 (by decide +kernel) rfl
theorem zl_RX3_35 : Cond.methodLink RX3 35 yX3_readClause ∈ zq_T := zq_mem 591 (by decide +kernel) rfl
theorem zl_RX3_43 : Cond.methodLink RX3 43 yX3_readWord ∈ zq_T := zq_mem 595 (by decide +kernel) rfl
theorem zl_RX3_59 : Cond.methodLink RX3 59 yX3_eatAll ∈ zq_T := zq_mem 600 (by decide +kernel) rfl
theorem zl_RX3_96 : Cond.methodLink RX3 96 yJ0_length_8abf5 ∈ zq_T := zq_mem 604 (by decide +kernel) rfl
theorem zl_RJ0_335 : Cond.methodLink RJ0 335 yJ0_coder_7d493 ∈ zq_T := zq_mem 608 (by decide +kernel) rfl
theorem zl_RX3_100 : Cond.methodLink RX3 100 yJ0_charAt_5068e ∈ zq_T := zq_mem 614 (by decide +kernel) rfl
theorem zl_RJ0_492 : Cond.methodLink RJ0 492 yJ0_isLatin1_aae02 ∈ zq_T := zq_mem 618 (by decide +kernel) rfl
theorem zl_RJ0_495 : Cond.methodLink RJ0 495 yJ1_charAt_3b067 ∈ zq_T := zq_mem 622 (by decide +kernel) rfl
theorem zl_RJ1_9 : Cond.methodLink RJ1 9 yJ0_checkIndex_df160 ∈ zq_T := zq_mem 625 (by decide +kernel) rfl
theorem zl_RJ0_1059 : Cond.methodLink RJ0 1059 yJ3_checkIndex_8e157 ∈ zq_T := zq_mem 630 (by decide +kernel) rfl
theorem zl_RJ2_414 : Cond.methodLink RJ2 414 yJ0_checkIndex_df160 ∈ zq_T := zq_mem 642 (by decide +kernel) rfl
theorem zl_RX3_39 : Cond.methodLink RX3 39 yX3_eat ∈ zq_T := zq_mem 652 (by decide +kernel) rfl
theorem zl_RX3_47 : Cond.methodLink RX3 47 yX3_readNumber ∈ zq_T := zq_mem 659 (by decide +kernel) rfl
theorem zl_RX3_84 : Cond.methodLink RX3 84 yX3_eatOneOf ∈ zq_T := zq_mem 664 (by decide +kernel) rfl
theorem zl_RX3_104 : Cond.methodLink RX3 104 yJ0_indexOf_0f7a4 ∈ zq_T := zq_mem 668 (by decide +kernel) rfl
theorem zl_RJ0_633 : Cond.methodLink RJ0 633 yJ0_indexOf_7cf53 ∈ zq_T := zq_mem 672 (by decide +kernel) rfl
theorem zl_RJ0_505 : Cond.methodLink RJ0 505 yJ0_length_8abf5 ∈ zq_T := zq_mem 676 (by decide +kernel) rfl
theorem zl_RJ0_637 : Cond.methodLink RJ0 637 yJ1_indexOf_4cfef ∈ zq_T := zq_mem 677 (by decide +kernel) rfl
theorem zl_RJ1_88 : Cond.methodLink RJ1 88 yJ1_canEncode_9a6ad ∈ zq_T := zq_mem 680 (by decide +kernel) rfl
theorem zl_RJ1_38 : Cond.methodLink RJ1 38 Lib.Math.min.name ∈ zq_T := zq_mem 686 (by decide +kernel) rfl
theorem zl_RJ1_95 : Cond.methodLink RJ1 95 yJ1_indexOfChar_4cfef ∈ zq_T := zq_mem 687 (by decide +kernel) rfl
theorem zl_RJ2_183 : Cond.methodLink RJ2 183 Lib.Math.min.name ∈ zq_T := zq_mem 694 (by decide +kernel) rfl
theorem zl_RX3_50 : Cond.methodLink RX3 50 yX3_readAny ∈ zq_T := zq_mem 725 (by decide +kernel) rfl
theorem zl_RX3_69 : Cond.methodLink RX3 69 yX3_readAll ∈ zq_T := zq_mem 729 (by decide +kernel) rfl
theorem zl_RX3_76 : Cond.methodLink RX3 76 yX3_readOne ∈ zq_T := zq_mem 733 (by decide +kernel) rfl
theorem zl_RX3_79 : Cond.methodLink RX3 79 yX3_readTest ∈ zq_T := zq_mem 737 (by decide +kernel) rfl
theorem zl_RX3_90 : Cond.methodLink RX3 90 yX2_addTest ∈ zq_T := zq_mem 743 (by decide +kernel) rfl
theorem zl_RX2_28 : Cond.methodLink RX2 28 yX2_addStep ∈ zq_T := zq_mem 747 (by decide +kernel) rfl
theorem zl_RX3_72 : Cond.methodLink RX3 72 yX2_addStep ∈ zq_T := zq_mem 751 (by decide +kernel) rfl
theorem zl_RX3_53 : Cond.methodLink RX3 53 yX2_addClause ∈ zq_T := zq_mem 752 (by decide +kernel) rfl
theorem zl_RX10_174 : Cond.methodLink RX10 174 yX10_priceNow ∈ zq_T := zq_mem 765 (by decide +kernel) rfl
theorem zl_RX10_334 : Cond.methodLink RX10 334 yX10_numberWith ∈ zq_T := zq_mem 769 (by decide +kernel) rfl
theorem zl_RX10_225 : Cond.methodLink RX10 225 yJ6_bitCount_0f7a4 ∈ zq_T := zq_mem 773 (by decide +kernel) rfl
theorem zl_RX10_337 : Cond.methodLink RX10 337 yX6_priceOf ∈ zq_T := zq_mem 779 (by decide +kernel) rfl
theorem zl_RX6_38 : Cond.methodLink RX6 38 yX6_setFacts ∈ zq_T := zq_mem 783 (by decide +kernel) rfl
theorem zl_RX6_42 : Cond.methodLink RX6 42 yX2_together ∈ zq_T := zq_mem 787 (by decide +kernel) rfl
theorem zl_RX2_38 : Cond.methodLink RX2 38 yX2_holdsIn ∈ zq_T := zq_mem 791 (by decide +kernel) rfl
theorem zl_RX2_42 : Cond.methodLink RX2 42 yX2_testHolds ∈ zq_T := zq_mem 795 (by decide +kernel) rfl
theorem zl_RX10_178 : Cond.methodLink RX10 178 yX10_isBarredNow ∈ zq_T := zq_mem 798 (by decide +kernel) rfl
theorem zl_RX10_340 : Cond.methodLink RX10 340 yX6_isBarred ∈ zq_T := zq_mem 802 (by decide +kernel) rfl
theorem zl_RX6_46 : Cond.methodLink RX6 46 yX2_hasBar ∈ zq_T := zq_mem 806 (by decide +kernel) rfl
theorem zl_RX10_182 : Cond.methodLink RX10 182 Lib.Math.min.name ∈ zq_T := zq_mem 814 (by decide +kernel) rfl
theorem zl_RX10_187 : Cond.methodLink RX10 187 yX10_isThing ∈ zq_T := zq_mem 819 (by decide +kernel) rfl
theorem zl_RX10_190 : Cond.methodLink RX10 190 yX5_isKnown ∈ zq_T := zq_mem 822 (by decide +kernel) rfl
theorem zl_RX10_193 : Cond.methodLink RX10 193 yX6_worthTo ∈ zq_T := zq_mem 826 (by decide +kernel) rfl
theorem zl_RX6_50 : Cond.methodLink RX6 50 yX5_whoIsAt ∈ zq_T := zq_mem 830 (by decide +kernel) rfl
theorem zl_RX6_56 : Cond.methodLink RX6 56 yJ6_bitCount_0f7a4 ∈ zq_T := zq_mem 831 (by decide +kernel) rfl
theorem zl_RX10_196 : Cond.methodLink RX10 196 yX10_lookAhead ∈ zq_T := zq_mem 836 (by decide +kernel) rfl
theorem zl_RX10_328 : Cond.methodLink RX10 328 yX6_tellComings ∈ zq_T := zq_mem 840 (by decide +kernel) rfl
theorem zl_RX6_71 : Cond.methodLink RX6 71 yX6_slotOf ∈ zq_T := zq_mem 844 (by decide +kernel) rfl
theorem zl_RX6_75 : Cond.methodLink RX6 75 yX6_priceOf ∈ zq_T := zq_mem 847 (by decide +kernel) rfl
theorem zl_RX6_78 : Cond.methodLink RX6 78 yX6_isBarred ∈ zq_T := zq_mem 848 (by decide +kernel) rfl
theorem zl_RX10_199 : Cond.methodLink RX10 199 yX9_fewestComings ∈ zq_T := zq_mem 849 (by decide +kernel) rfl
theorem zl_RX9_27 : Cond.methodLink RX9 27 yX9_begin ∈ zq_T := zq_mem 853 (by decide +kernel) rfl
theorem zl_RX9_75 : Cond.methodLink RX9 75 yJ7_fill_53178 ∈ zq_T := zq_mem 858 (by decide +kernel) rfl
theorem zl_RX9_81 : Cond.methodLink RX9 81 yX6_packedNow ∈ zq_T := zq_mem 861 (by decide +kernel) rfl
theorem zl_RX9_31 : Cond.methodLink RX9 31 yX9_leastWith ∈ zq_T := zq_mem 865 (by decide +kernel) rfl
theorem zl_RX9_112 : Cond.methodLink RX9 112 yX9_tellSpeakers ∈ zq_T := zq_mem 869 (by decide +kernel) rfl
theorem zl_RX9_48 : Cond.methodLink RX9 48 yX5_everybody ∈ zq_T := zq_mem 873 (by decide +kernel) rfl
theorem zl_RX9_109 : Cond.methodLink RX9 109 yX6_speakers ∈ zq_T := zq_mem 877 (by decide +kernel) rfl
theorem zl_RX9_115 : Cond.methodLink RX9 115 yX6_whoIsAt ∈ zq_T := zq_mem 878 (by decide +kernel) rfl
theorem zl_RX9_36 : Cond.methodLink RX9 36 yX9_goOn ∈ zq_T := zq_mem 882 (by decide +kernel) rfl
theorem zl_RX9_84 : Cond.methodLink RX9 84 yX9_leave ∈ zq_T := zq_mem 886 (by decide +kernel) rfl
theorem zl_RX9_92 : Cond.methodLink RX9 92 yX6_mayCome ∈ zq_T := zq_mem 890 (by decide +kernel) rfl
theorem zl_RX6_85 : Cond.methodLink RX6 85 yX6_numberAt ∈ zq_T := zq_mem 894 (by decide +kernel) rfl
theorem zl_RX9_96 : Cond.methodLink RX9 96 yX6_moved ∈ zq_T := zq_mem 898 (by decide +kernel) rfl
theorem zl_RX9_100 : Cond.methodLink RX9 100 yX9_carried ∈ zq_T := zq_mem 901 (by decide +kernel) rfl
theorem zl_RX9_103 : Cond.methodLink RX9 103 yX6_priceFrom ∈ zq_T := zq_mem 905 (by decide +kernel) rfl
theorem zl_RX9_39 : Cond.methodLink RX9 39 Lib.Math.min.name ∈ zq_T := zq_mem 909 (by decide +kernel) rfl
theorem zl_RX9_88 : Cond.methodLink RX9 88 yX9_takeNext ∈ zq_T := zq_mem 910 (by decide +kernel) rfl
theorem zl_RX10_203 : Cond.methodLink RX10 203 yX9_leastCost ∈ zq_T := zq_mem 918 (by decide +kernel) rfl
theorem zl_RX10_206 : Cond.methodLink RX10 206 yX9_whoNeverCan ∈ zq_T := zq_mem 926 (by decide +kernel) rfl
theorem zl_RX9_54 : Cond.methodLink RX9 54 yX9_whoCanSpeak ∈ zq_T := zq_mem 930 (by decide +kernel) rfl
theorem zl_RX10_209 : Cond.methodLink RX10 209 yX5_whoKnows ∈ zq_T := zq_mem 938 (by decide +kernel) rfl
theorem zl_RX5_46 : Cond.methodLink RX5 46 yX5_isKnown ∈ zq_T := zq_mem 942 (by decide +kernel) rfl
theorem zl_RX10_212 : Cond.methodLink RX10 212 yX5_everybody ∈ zq_T := zq_mem 943 (by decide +kernel) rfl
theorem zl_RX10_216 : Cond.methodLink RX10 216 yX1_fewestTill ∈ zq_T := zq_mem 944 (by decide +kernel) rfl
theorem zl_RX1_46 : Cond.methodLink RX1 46 yJ7_fill_53178 ∈ zq_T := zq_mem 948 (by decide +kernel) rfl
theorem zl_RX1_52 : Cond.methodLink RX1 52 yX6_packedNow ∈ zq_T := zq_mem 949 (by decide +kernel) rfl
theorem zl_RX1_56 : Cond.methodLink RX1 56 yX1_goOn ∈ zq_T := zq_mem 950 (by decide +kernel) rfl
theorem zl_RX1_67 : Cond.methodLink RX1 67 yX1_leave ∈ zq_T := zq_mem 954 (by decide +kernel) rfl
theorem zl_RX1_76 : Cond.methodLink RX1 76 yX6_mayCome ∈ zq_T := zq_mem 958 (by decide +kernel) rfl
theorem zl_RX1_80 : Cond.methodLink RX1 80 yX6_moved ∈ zq_T := zq_mem 959 (by decide +kernel) rfl
theorem zl_RX1_70 : Cond.methodLink RX1 70 arraycopyName ∈ zq_T := zq_mem 960 (by decide +kernel) rfl
theorem zl_RX1_59 : Cond.methodLink RX1 59 yX1_tellSpeakers ∈ zq_T := zq_mem 963 (by decide +kernel) rfl
theorem zl_RX1_88 : Cond.methodLink RX1 88 yX5_everybody ∈ zq_T := zq_mem 967 (by decide +kernel) rfl
theorem zl_RX1_94 : Cond.methodLink RX1 94 yX6_speakers ∈ zq_T := zq_mem 968 (by decide +kernel) rfl
theorem zl_RX1_63 : Cond.methodLink RX1 63 yX1_sayAll ∈ zq_T := zq_mem 969 (by decide +kernel) rfl
theorem zl_RX1_84 : Cond.methodLink RX1 84 yX1_saidIn ∈ zq_T := zq_mem 973 (by decide +kernel) rfl
theorem zl_RX1_97 : Cond.methodLink RX1 97 yX6_whoIsAt ∈ zq_T := zq_mem 977 (by decide +kernel) rfl
theorem zl_RX1_101 : Cond.methodLink RX1 101 yX1_knowingThen ∈ zq_T := zq_mem 978 (by decide +kernel) rfl
theorem zl_RX10_219 : Cond.methodLink RX10 219 yX1_setsOfOneWithout ∈ zq_T := zq_mem 986 (by decide +kernel) rfl
theorem zl_RX10_222 : Cond.methodLink RX10 222 yX8_canWin ∈ zq_T := zq_mem 993 (by decide +kernel) rfl
theorem zl_RX8_15 : Cond.methodLink RX8 15 yX6_packedNow ∈ zq_T := zq_mem 997 (by decide +kernel) rfl
theorem zl_RX8_31 : Cond.methodLink RX8 31 yX8_wins ∈ zq_T := zq_mem 998 (by decide +kernel) rfl
theorem zl_RX8_35 : Cond.methodLink RX8 35 yX6_whoIsAt ∈ zq_T := zq_mem 1002 (by decide +kernel) rfl
theorem zl_RX8_39 : Cond.methodLink RX8 39 yX6_speakers ∈ zq_T := zq_mem 1003 (by decide +kernel) rfl
theorem zl_RX8_46 : Cond.methodLink RX8 46 yX6_mayCome ∈ zq_T := zq_mem 1004 (by decide +kernel) rfl
theorem zl_RX8_50 : Cond.methodLink RX8 50 yX6_moved ∈ zq_T := zq_mem 1005 (by decide +kernel) rfl
theorem zl_RX10_239 : Cond.methodLink RX10 239 yX4_fitting ∈ zq_T := zq_mem 1018 (by decide +kernel) rfl
theorem zl_RX4_19 : Cond.methodLink RX4 19 yX4_fittingFrom ∈ zq_T := zq_mem 1022 (by decide +kernel) rfl
theorem zl_RX4_29 : Cond.methodLink RX4 29 yX4_goesWithAll ∈ zq_T := zq_mem 1026 (by decide +kernel) rfl
theorem zl_RX4_42 : Cond.methodLink RX4 42 yX4_isMiddle ∈ zq_T := zq_mem 1030 (by decide +kernel) rfl
theorem zl_RX4_46 : Cond.methodLink RX4 46 yJ6_bitCount_0f7a4 ∈ zq_T := zq_mem 1034 (by decide +kernel) rfl
theorem zl_RX10_244 : Cond.methodLink RX10 244 yX8_oddsOfSpeaking ∈ zq_T := zq_mem 1040 (by decide +kernel) rfl
theorem zl_RX8_55 : Cond.methodLink RX8 55 yX8_sharesSpeaking ∈ zq_T := zq_mem 1045 (by decide +kernel) rfl
theorem zl_RX8_63 : Cond.methodLink RX8 63 yX8_waysOn ∈ zq_T := zq_mem 1049 (by decide +kernel) rfl
theorem zl_RX8_59 : Cond.methodLink RX8 59 yX8_greatestDivisor ∈ zq_T := zq_mem 1053 (by decide +kernel) rfl
theorem zl_RX10_258 : Cond.methodLink RX10 258 yX6_sayable ∈ zq_T := zq_mem 1064 (by decide +kernel) rfl
theorem zl_RX6_120 : Cond.methodLink RX6 120 arraycopyName ∈ zq_T := zq_mem 1068 (by decide +kernel) rfl
theorem zl_RX6_132 : Cond.methodLink RX6 132 yX6_isSaid ∈ zq_T := zq_mem 1069 (by decide +kernel) rfl
theorem zl_RX6_142 : Cond.methodLink RX6 142 yX6_speakers ∈ zq_T := zq_mem 1074 (by decide +kernel) rfl
theorem zl_RX10_261 : Cond.methodLink RX10 261 yX10_isTape ∈ zq_T := zq_mem 1079 (by decide +kernel) rfl
theorem zl_RX10_264 : Cond.methodLink RX10 264 yX7_holdsRow ∈ zq_T := zq_mem 1082 (by decide +kernel) rfl
theorem zl_RX10_271 : Cond.methodLink RX10 271 yX10_firstOtherwise ∈ zq_T := zq_mem 1086 (by decide +kernel) rfl
theorem zl_RX10_305 : Cond.methodLink RX10 305 yX7_hasPlace ∈ zq_T := zq_mem 1090 (by decide +kernel) rfl
theorem zl_RX10_275 : Cond.methodLink RX10 275 yX5_copyFrom ∈ zq_T := zq_mem 1098 (by decide +kernel) rfl
theorem zl_RX5_50 : Cond.methodLink RX5 50 arraycopyName ∈ zq_T := zq_mem 1102 (by decide +kernel) rfl
theorem zl_RX10_282 : Cond.methodLink RX10 282 yX0_forget ∈ zq_T := zq_mem 1111 (by decide +kernel) rfl
theorem zl_RX10_285 : Cond.methodLink RX10 285 yX0_start ∈ zq_T := zq_mem 1115 (by decide +kernel) rfl
theorem zl_RX0_38 : Cond.methodLink RX0 38 yX0_doFrom ∈ zq_T := zq_mem 1119 (by decide +kernel) rfl
theorem zl_RX0_48 : Cond.methodLink RX0 48 yX0_bodyFrom ∈ zq_T := zq_mem 1123 (by decide +kernel) rfl
theorem zl_RX0_51 : Cond.methodLink RX0 51 yX0_note ∈ zq_T := zq_mem 1130 (by decide +kernel) rfl
theorem zl_RX10_289 : Cond.methodLink RX10 289 yX0_bodyAt ∈ zq_T := zq_mem 1138 (by decide +kernel) rfl
theorem zl_RX0_19 : Cond.methodLink RX0 19 Lib.Math.min.name ∈ zq_T := zq_mem 1142 (by decide +kernel) rfl
theorem zl_RX10_292 : Cond.methodLink RX10 292 yX10_isKindOrUnder ∈ zq_T := zq_mem 1148 (by decide +kernel) rfl
theorem zl_RX10_298 : Cond.methodLink RX10 298 yX7_holdNothing ∈ zq_T := zq_mem 1160 (by decide +kernel) rfl
theorem zl_RX10_301 : Cond.methodLink RX10 301 yX7_holdZeros ∈ zq_T := zq_mem 1164 (by decide +kernel) rfl
theorem zl_RX7_22 : Cond.methodLink RX7 22 yJ7_fill_d0a16 ∈ zq_T := zq_mem 1168 (by decide +kernel) rfl
theorem zl_RX10_308 : Cond.methodLink RX10 308 yX7_put ∈ zq_T := zq_mem 1175 (by decide +kernel) rfl
theorem zl_RX7_28 : Cond.methodLink RX7 28 yX7_narrowed ∈ zq_T := zq_mem 1179 (by decide +kernel) rfl
theorem zl_RX10_316 : Cond.methodLink RX10 316 yX7_hasPart ∈ zq_T := zq_mem 1191 (by decide +kernel) rfl
theorem zl_RX10_319 : Cond.methodLink RX10 319 arraycopyName ∈ zq_T := zq_mem 1195 (by decide +kernel) rfl
theorem zl_RX11_1 : Cond.methodLink RX11 1 Lib.objectInit ∈ zq_T := zq_mem 1201 (by decide +kernel) rfl
theorem zl_RX11_217 : Cond.methodLink RX11 217 yX11_within ∈ zq_T := zq_mem 1409 (by decide +kernel) rfl
theorem zl_RX11_225 : Cond.methodLink RX11 225 yX11_isPlace ∈ zq_T := zq_mem 1413 (by decide +kernel) rfl
theorem zl_RX11_229 : Cond.methodLink RX11 229 yX11_moved ∈ zq_T := zq_mem 1417 (by decide +kernel) rfl
theorem zl_RX11_249 : Cond.methodLink RX11 249 yX11_isPerson ∈ zq_T := zq_mem 1425 (by decide +kernel) rfl
theorem zl_RX11_252 : Cond.methodLink RX11 252 yX11_sameNow ∈ zq_T := zq_mem 1429 (by decide +kernel) rfl
theorem zl_RX11_308 : Cond.methodLink RX11 308 yX11_first ∈ zq_T := zq_mem 1433 (by decide +kernel) rfl
theorem zl_RX11_311 : Cond.methodLink RX11 311 yX11_behind ∈ zq_T := zq_mem 1437 (by decide +kernel) rfl
theorem zl_RX11_221 : Cond.methodLink RX11 221 yX11_placeOf ∈ zq_T := zq_mem 1441 (by decide +kernel) rfl
theorem zl_RX11_256 : Cond.methodLink RX11 256 yX11_maySpeak ∈ zq_T := zq_mem 1445 (by decide +kernel) rfl
theorem zl_RX11_236 : Cond.methodLink RX11 236 yX11_hasLike ∈ zq_T := zq_mem 1449 (by decide +kernel) rfl
theorem zl_RX11_233 : Cond.methodLink RX11 233 yX11_measure ∈ zq_T := zq_mem 1453 (by decide +kernel) rfl
theorem zl_RX11_240 : Cond.methodLink RX11 240 yX11_placeInLine ∈ zq_T := zq_mem 1457 (by decide +kernel) rfl
theorem zl_RX11_243 : Cond.methodLink RX11 243 yX11_manyIn ∈ zq_T := zq_mem 1461 (by decide +kernel) rfl
theorem zl_RX11_246 : Cond.methodLink RX11 246 yX11_isMiddle ∈ zq_T := zq_mem 1465 (by decide +kernel) rfl
theorem zl_RX11_259 : Cond.methodLink RX11 259 yX11_isRoom ∈ zq_T := zq_mem 1477 (by decide +kernel) rfl
theorem zl_RX11_305 : Cond.methodLink RX11 305 yX11_goesText ∈ zq_T := zq_mem 1493 (by decide +kernel) rfl
theorem zl_RX11_302 : Cond.methodLink RX11 302 yX11_takesClause ∈ zq_T := zq_mem 1497 (by decide +kernel) rfl
theorem zl_RX11_296 : Cond.methodLink RX11 296 yX11_takesHead ∈ zq_T := zq_mem 1501 (by decide +kernel) rfl
theorem zl_RX11_262 : Cond.methodLink RX11 262 yX11_next ∈ zq_T := zq_mem 1505 (by decide +kernel) rfl
theorem zl_RX11_292 : Cond.methodLink RX11 292 yX11_takesWord ∈ zq_T := zq_mem 1509 (by decide +kernel) rfl
theorem zl_RX11_265 : Cond.methodLink RX11 265 yX11_takes ∈ zq_T := zq_mem 1513 (by decide +kernel) rfl
theorem zl_RX11_299 : Cond.methodLink RX11 299 yX11_takesE ∈ zq_T := zq_mem 1517 (by decide +kernel) rfl
theorem zl_RX11_286 : Cond.methodLink RX11 286 yX11_takesTest ∈ zq_T := zq_mem 1521 (by decide +kernel) rfl
theorem zl_RX11_276 : Cond.methodLink RX11 276 yX11_place ∈ zq_T := zq_mem 1525 (by decide +kernel) rfl
theorem zl_RX11_280 : Cond.methodLink RX11 280 yX11_takesNumber ∈ zq_T := zq_mem 1529 (by decide +kernel) rfl
theorem zl_RX11_268 : Cond.methodLink RX11 268 yX11_isDigit ∈ zq_T := zq_mem 1533 (by decide +kernel) rfl
theorem zl_RX11_272 : Cond.methodLink RX11 272 yX11_put ∈ zq_T := zq_mem 1537 (by decide +kernel) rfl
theorem zl_RX11_283 : Cond.methodLink RX11 283 yX11_whole ∈ zq_T := zq_mem 1541 (by decide +kernel) rfl
theorem zl_RX11_289 : Cond.methodLink RX11 289 yX11_settle ∈ zq_T := zq_mem 1545 (by decide +kernel) rfl
theorem zl_RX11_322 : Cond.methodLink RX11 322 yX11_sumOf ∈ zq_T := zq_mem 1557 (by decide +kernel) rfl
theorem zl_RX11_318 : Cond.methodLink RX11 318 yX11_holds ∈ zq_T := zq_mem 1561 (by decide +kernel) rfl
theorem zl_RX11_314 : Cond.methodLink RX11 314 yX11_factOf ∈ zq_T := zq_mem 1565 (by decide +kernel) rfl
theorem zl_RX11_325 : Cond.methodLink RX11 325 yX11_isBarred ∈ zq_T := zq_mem 1569 (by decide +kernel) rfl
theorem zl_RX11_334 : Cond.methodLink RX11 334 yX11_isThing ∈ zq_T := zq_mem 1581 (by decide +kernel) rfl
theorem zl_RX11_331 : Cond.methodLink RX11 331 yX11_has ∈ zq_T := zq_mem 1585 (by decide +kernel) rfl
theorem zl_RX11_337 : Cond.methodLink RX11 337 yX11_said ∈ zq_T := zq_mem 1589 (by decide +kernel) rfl
theorem zl_RX11_355 : Cond.methodLink RX11 355 yX11_layComings ∈ zq_T := zq_mem 1597 (by decide +kernel) rfl
theorem zl_RX11_358 : Cond.methodLink RX11 358 yX11_soonestOf ∈ zq_T := zq_mem 1601 (by decide +kernel) rfl
theorem zl_RX11_346 : Cond.methodLink RX11 346 yX11_beginAt ∈ zq_T := zq_mem 1605 (by decide +kernel) rfl
theorem zl_RX11_340 : Cond.methodLink RX11 340 yX11_places ∈ zq_T := zq_mem 1609 (by decide +kernel) rfl
theorem zl_RX11_349 : Cond.methodLink RX11 349 yX11_canSpeak ∈ zq_T := zq_mem 1613 (by decide +kernel) rfl
theorem zl_RX11_352 : Cond.methodLink RX11 352 yX11_goOn ∈ zq_T := zq_mem 1617 (by decide +kernel) rfl
theorem zl_RX11_343 : Cond.methodLink RX11 343 yX11_mayCome ∈ zq_T := zq_mem 1621 (by decide +kernel) rfl
theorem zl_RX11_328 : Cond.methodLink RX11 328 yX11_comingOf ∈ zq_T := zq_mem 1625 (by decide +kernel) rfl
theorem zl_RX11_361 : Cond.methodLink RX11 361 yX11_leadsBy ∈ zq_T := zq_mem 1629 (by decide +kernel) rfl
theorem zl_RX11_364 : Cond.methodLink RX11 364 yX11_goOnCheap ∈ zq_T := zq_mem 1637 (by decide +kernel) rfl
theorem zl_RX11_373 : Cond.methodLink RX11 373 yX11_fewestBy ∈ zq_T := zq_mem 1649 (by decide +kernel) rfl
theorem zl_RX11_367 : Cond.methodLink RX11 367 yX11_spread ∈ zq_T := zq_mem 1653 (by decide +kernel) rfl
theorem zl_RX11_370 : Cond.methodLink RX11 370 yX11_goOnKnown ∈ zq_T := zq_mem 1657 (by decide +kernel) rfl
theorem zl_RX11_379 : Cond.methodLink RX11 379 yX11_turns ∈ zq_T := zq_mem 1669 (by decide +kernel) rfl
theorem zl_RX11_382 : Cond.methodLink RX11 382 yX11_mayTurn ∈ zq_T := zq_mem 1673 (by decide +kernel) rfl
theorem zl_RX11_385 : Cond.methodLink RX11 385 yX11_behindTurn ∈ zq_T := zq_mem 1677 (by decide +kernel) rfl
theorem zl_RX11_392 : Cond.methodLink RX11 392 yX11_winsSecond ∈ zq_T := zq_mem 1681 (by decide +kernel) rfl
theorem zl_RX11_376 : Cond.methodLink RX11 376 yX11_isWon ∈ zq_T := zq_mem 1685 (by decide +kernel) rfl
theorem zl_RX11_388 : Cond.methodLink RX11 388 yX11_winsThird ∈ zq_T := zq_mem 1689 (by decide +kernel) rfl
theorem zl_RX11_395 : Cond.methodLink RX11 395 yX11_ones ∈ zq_T := zq_mem 1701 (by decide +kernel) rfl
theorem zl_RX11_398 : Cond.methodLink RX11 398 yX11_layOrder ∈ zq_T := zq_mem 1709 (by decide +kernel) rfl
theorem zl_RX11_401 : Cond.methodLink RX11 401 yX11_goesWithRows ∈ zq_T := zq_mem 1713 (by decide +kernel) rfl
theorem zl_RX11_424 : Cond.methodLink RX11 424 yX11_layLot ∈ zq_T := zq_mem 1722 (by decide +kernel) rfl
theorem zl_RX11_408 : Cond.methodLink RX11 408 yX11_waysFrom ∈ zq_T := zq_mem 1726 (by decide +kernel) rfl
theorem zl_RX11_411 : Cond.methodLink RX11 411 yX11_addLot ∈ zq_T := zq_mem 1730 (by decide +kernel) rfl
theorem zl_RX11_404 : Cond.methodLink RX11 404 yX11_divisor ∈ zq_T := zq_mem 1734 (by decide +kernel) rfl
theorem zl_RX11_418 : Cond.methodLink RX11 418 yX11_addFrom ∈ zq_T := zq_mem 1738 (by decide +kernel) rfl
theorem zl_RX11_415 : Cond.methodLink RX11 415 yX11_speaksBehind ∈ zq_T := zq_mem 1742 (by decide +kernel) rfl
theorem zl_RX11_428 : Cond.methodLink RX11 428 yX11_isTape ∈ zq_T := zq_mem 1758 (by decide +kernel) rfl
theorem zl_RX11_437 : Cond.methodLink RX11 437 yX11_hearsAct ∈ zq_T := zq_mem 1774 (by decide +kernel) rfl
theorem zl_RX11_431 : Cond.methodLink RX11 431 yX11_body ∈ zq_T := zq_mem 1778 (by decide +kernel) rfl
theorem zl_RX11_434 : Cond.methodLink RX11 434 yX11_roomHears ∈ zq_T := zq_mem 1782 (by decide +kernel) rfl
theorem zl_RX11_446 : Cond.methodLink RX11 446 yX11_speaksAct ∈ zq_T := zq_mem 1786 (by decide +kernel) rfl
theorem zl_RX11_443 : Cond.methodLink RX11 443 yX11_lowerSpeaks ∈ zq_T := zq_mem 1790 (by decide +kernel) rfl
theorem zl_RX11_440 : Cond.methodLink RX11 440 yX11_roomSpeaks ∈ zq_T := zq_mem 1794 (by decide +kernel) rfl
theorem zl_RX11_452 : Cond.methodLink RX11 452 yX11_tellsAct ∈ zq_T := zq_mem 1798 (by decide +kernel) rfl
theorem zl_RX11_449 : Cond.methodLink RX11 449 yX11_roomTells ∈ zq_T := zq_mem 1802 (by decide +kernel) rfl
theorem zl_RX11_455 : Cond.methodLink RX11 455 yX11_narrow ∈ zq_T := zq_mem 1826 (by decide +kernel) rfl
theorem zx_min1 : Cond.static Lib.Math.min.name ∈ zq_T := zq_mem 589 (by decide +kernel) rfl
theorem zx_min2 : Cond.initialized "java/lang/Math" ∈ zq_T := zq_mem 136 (by decide +kernel) rfl
theorem zx_min3 : Cond.code Lib.Math.min.name Lib.Math.min.code 2 (some .int) ∈ zq_T := zq_mem 590 (by decide +kernel) rfl
theorem zx_oi1 : Cond.instanceMethod Lib.objectInit ∈ zq_T := zq_mem 151 (by decide +kernel) rfl
theorem zx_oi2 : Cond.code Lib.objectInit ⟨#[0xb1]⟩ 1 none ∈ zq_T := zq_mem 152 (by decide +kernel) rfl
theorem zx_ac1 : Cond.native arraycopyName ∈ zq_T := zq_mem 962 (by decide +kernel) rfl
theorem zx_ac2 : Cond.static arraycopyName ∈ zq_T := zq_mem 961 (by decide +kernel) rfl
theorem zx_ac3 : Cond.initialized "java/lang/System" ∈ zq_T := zq_mem 144 (by decide +kernel) rfl
theorem zk_RJ6_265 : Cond.constant RJ6 265 (1431655765) ∈ zq_T := zq_mem 776 (by decide +kernel) rfl
theorem zk_RJ6_266 : Cond.constant RJ6 266 (858993459) ∈ zq_T := zq_mem 777 (by decide +kernel) rfl
theorem zk_RJ6_267 : Cond.constant RJ6 267 (252645135) ∈ zq_T := zq_mem 778 (by decide +kernel) rfl
theorem zk_RX9_35 : Cond.constant RX9 35 (1073741824) ∈ zq_T := zq_mem 857 (by decide +kernel) rfl
theorem zk_RX11_114 : Cond.constant RX11 114 (32768) ∈ zq_T := zq_mem 1202 (by decide +kernel) rfl
theorem zk_RX10_242 : Cond.constantLong RX10 242 (-9223372036854775808) ∈ zq_T := zq_mem 1039 (by decide +kernel) rfl
theorem zk_RX8_53 : Cond.constantLong RX8 53 (129859329600) ∈ zq_T := zq_mem 1044 (by decide +kernel) rfl
theorem zk_RX11_422 : Cond.constantLong RX11 422 (-9223372036854775808) ∈ zq_T := zq_mem 1721 (by decide +kernel) rfl
theorem zc_im1 : Int32.ofInt (-1) = (-1 : Int32) := by decide
theorem zc_i0 : Int32.ofInt (0) = (0 : Int32) := by decide
theorem zc_i1 : Int32.ofInt (1) = (1 : Int32) := by decide
theorem zc_i2 : Int32.ofInt (2) = (2 : Int32) := by decide
theorem zc_i3 : Int32.ofInt (3) = (3 : Int32) := by decide
theorem zc_i4 : Int32.ofInt (4) = (4 : Int32) := by decide
theorem zc_i5 : Int32.ofInt (5) = (5 : Int32) := by decide
theorem zc_bm38 : (Int8.ofInt (-38)).toInt32 = (-38 : Int32) := by decide
theorem zc_bm33 : (Int8.ofInt (-33)).toInt32 = (-33 : Int32) := by decide
theorem zc_bm14 : (Int8.ofInt (-14)).toInt32 = (-14 : Int32) := by decide
theorem zc_bm13 : (Int8.ofInt (-13)).toInt32 = (-13 : Int32) := by decide
theorem zc_bm12 : (Int8.ofInt (-12)).toInt32 = (-12 : Int32) := by decide
theorem zc_bm11 : (Int8.ofInt (-11)).toInt32 = (-11 : Int32) := by decide
theorem zc_bm10 : (Int8.ofInt (-10)).toInt32 = (-10 : Int32) := by decide
theorem zc_bm5 : (Int8.ofInt (-5)).toInt32 = (-5 : Int32) := by decide
theorem zc_bm4 : (Int8.ofInt (-4)).toInt32 = (-4 : Int32) := by decide
theorem zc_bm3 : (Int8.ofInt (-3)).toInt32 = (-3 : Int32) := by decide
theorem zc_bm2 : (Int8.ofInt (-2)).toInt32 = (-2 : Int32) := by decide
theorem zc_b6 : (Int8.ofInt (6)).toInt32 = (6 : Int32) := by decide
theorem zc_b7 : (Int8.ofInt (7)).toInt32 = (7 : Int32) := by decide
theorem zc_b8 : (Int8.ofInt (8)).toInt32 = (8 : Int32) := by decide
theorem zc_b9 : (Int8.ofInt (9)).toInt32 = (9 : Int32) := by decide
theorem zc_b10 : (Int8.ofInt (10)).toInt32 = (10 : Int32) := by decide
theorem zc_b11 : (Int8.ofInt (11)).toInt32 = (11 : Int32) := by decide
theorem zc_b12 : (Int8.ofInt (12)).toInt32 = (12 : Int32) := by decide
theorem zc_b13 : (Int8.ofInt (13)).toInt32 = (13 : Int32) := by decide
theorem zc_b14 : (Int8.ofInt (14)).toInt32 = (14 : Int32) := by decide
theorem zc_b15 : (Int8.ofInt (15)).toInt32 = (15 : Int32) := by decide
theorem zc_b16 : (Int8.ofInt (16)).toInt32 = (16 : Int32) := by decide
theorem zc_b17 : (Int8.ofInt (17)).toInt32 = (17 : Int32) := by decide
theorem zc_b19 : (Int8.ofInt (19)).toInt32 = (19 : Int32) := by decide
theorem zc_b20 : (Int8.ofInt (20)).toInt32 = (20 : Int32) := by decide
theorem zc_b24 : (Int8.ofInt (24)).toInt32 = (24 : Int32) := by decide
theorem zc_b30 : (Int8.ofInt (30)).toInt32 = (30 : Int32) := by decide
theorem zc_b32 : (Int8.ofInt (32)).toInt32 = (32 : Int32) := by decide
theorem zc_b33 : (Int8.ofInt (33)).toInt32 = (33 : Int32) := by decide
theorem zc_b38 : (Int8.ofInt (38)).toInt32 = (38 : Int32) := by decide
theorem zc_b40 : (Int8.ofInt (40)).toInt32 = (40 : Int32) := by decide
theorem zc_b41 : (Int8.ofInt (41)).toInt32 = (41 : Int32) := by decide
theorem zc_b48 : (Int8.ofInt (48)).toInt32 = (48 : Int32) := by decide
theorem zc_b49 : (Int8.ofInt (49)).toInt32 = (49 : Int32) := by decide
theorem zc_b50 : (Int8.ofInt (50)).toInt32 = (50 : Int32) := by decide
theorem zc_b51 : (Int8.ofInt (51)).toInt32 = (51 : Int32) := by decide
theorem zc_b57 : (Int8.ofInt (57)).toInt32 = (57 : Int32) := by decide
theorem zc_b59 : (Int8.ofInt (59)).toInt32 = (59 : Int32) := by decide
theorem zc_b60 : (Int8.ofInt (60)).toInt32 = (60 : Int32) := by decide
theorem zc_b62 : (Int8.ofInt (62)).toInt32 = (62 : Int32) := by decide
theorem zc_b63 : (Int8.ofInt (63)).toInt32 = (63 : Int32) := by decide
theorem zc_b70 : (Int8.ofInt (70)).toInt32 = (70 : Int32) := by decide
theorem zc_b71 : (Int8.ofInt (71)).toInt32 = (71 : Int32) := by decide
theorem zc_b96 : (Int8.ofInt (96)).toInt32 = (96 : Int32) := by decide
theorem zc_b97 : (Int8.ofInt (97)).toInt32 = (97 : Int32) := by decide
theorem zc_b98 : (Int8.ofInt (98)).toInt32 = (98 : Int32) := by decide
theorem zc_b99 : (Int8.ofInt (99)).toInt32 = (99 : Int32) := by decide
theorem zc_b100 : (Int8.ofInt (100)).toInt32 = (100 : Int32) := by decide
theorem zc_b101 : (Int8.ofInt (101)).toInt32 = (101 : Int32) := by decide
theorem zc_b104 : (Int8.ofInt (104)).toInt32 = (104 : Int32) := by decide
theorem zc_b105 : (Int8.ofInt (105)).toInt32 = (105 : Int32) := by decide
theorem zc_b109 : (Int8.ofInt (109)).toInt32 = (109 : Int32) := by decide
theorem zc_b111 : (Int8.ofInt (111)).toInt32 = (111 : Int32) := by decide
theorem zc_b112 : (Int8.ofInt (112)).toInt32 = (112 : Int32) := by decide
theorem zc_b114 : (Int8.ofInt (114)).toInt32 = (114 : Int32) := by decide
theorem zc_b115 : (Int8.ofInt (115)).toInt32 = (115 : Int32) := by decide
theorem zc_b116 : (Int8.ofInt (116)).toInt32 = (116 : Int32) := by decide
theorem zc_b119 : (Int8.ofInt (119)).toInt32 = (119 : Int32) := by decide
theorem zc_b120 : (Int8.ofInt (120)).toInt32 = (120 : Int32) := by decide
theorem zc_b124 : (Int8.ofInt (124)).toInt32 = (124 : Int32) := by decide
theorem zc_b127 : (Int8.ofInt (127)).toInt32 = (127 : Int32) := by decide
theorem zc_sm10003 : (Int16.ofInt (-10003)).toInt32 = (-10003 : Int32) := by decide
theorem zc_sm10001 : (Int16.ofInt (-10001)).toInt32 = (-10001 : Int32) := by decide
theorem zc_s200 : (Int16.ofInt (200)).toInt32 = (200 : Int32) := by decide
theorem zc_s255 : (Int16.ofInt (255)).toInt32 = (255 : Int32) := by decide
theorem zc_s341 : (Int16.ofInt (341)).toInt32 = (341 : Int32) := by decide
theorem zc_s360 : (Int16.ofInt (360)).toInt32 = (360 : Int32) := by decide
theorem zc_s600 : (Int16.ofInt (600)).toInt32 = (600 : Int32) := by decide
theorem zc_s1000 : (Int16.ofInt (1000)).toInt32 = (1000 : Int32) := by decide
theorem zc_s1023 : (Int16.ofInt (1023)).toInt32 = (1023 : Int32) := by decide
theorem zc_s1024 : (Int16.ofInt (1024)).toInt32 = (1024 : Int32) := by decide
theorem zc_s9999 : (Int16.ofInt (9999)).toInt32 = (9999 : Int32) := by decide
end
section

def zq_loop {α : Type} (bot : α) (body : α → α) : Nat → α
  | 0 => bot
  | n + 1 => body (zq_loop bot body n)
theorem zr_loop {α : Type} {P : α → Prop} (bot : α) (body : α → α) (h0 : P bot) (h : ∀ r, P r → P (body r)) : ∀ n, P (zq_loop bot body n)
  | 0 => h0
  | n + 1 => h _ (zr_loop bot body h0 h n)
theorem zr_loopN {α : Type} {P : Nat → α → Prop} (bot : α) (body : α → α) (h0 : P 0 bot) (h : ∀ n r, P n r → P (n + 1) (body r)) : ∀ n, P n (zq_loop bot body n)
  | 0 => h0
  | n + 1 => h n _ (zr_loopN bot body h0 h n)
def zq_p {α β γ : Type} (g : α → β → γ) (q : α × β) : γ := g q.1 q.2
def zq_ac {ρ : Type} (sp dp n : Int32) (n1 n2 : Nat) (o : Option ρ) : Option ρ := if sp < 0 ∨ dp < 0 ∨ n < 0 ∨ n1 < sp.toNatClampNeg + n.toNatClampNeg ∨ n2 < dp.toNatClampNeg + n.toNatClampNeg then none else o
def zq_cp1 (X : zq_M) (a : Nat) (sp : Int32) (b : Nat) (dp n : Int32) : zq_M := (fun c k => if c = b then va_cpy (X.1 a) (X.1 b) sp.toNatClampNeg dp.toNatClampNeg n.toNatClampNeg k else X.1 c k, X.2.1, X.2.2)
def zq_cp2 (X : zq_M) (a : Nat) (sp : Int32) (b : Nat) (dp n : Int32) : zq_M := (X.1, fun c k => if c = b then va_cpy (X.2.1 a) (X.2.1 b) sp.toNatClampNeg dp.toNatClampNeg n.toNatClampNeg k else X.2.1 c k, X.2.2)
theorem zq_nt {x k : Int32} {n : Int} (hk : k.toInt = n) (h : ¬ x = k) : ¬ x.toInt = n := fun e => h (Int32.toInt_inj.mp (e.trans hk.symm))
theorem zq_lkD : ∀ (ps : List (Int × Int)) (d x : Int), (∀ q ∈ ps, ¬ x = q.1) → Op.lookupswitch.offset ps d x = d := by
  intro ps d x h
  induction ps with
  | nil => rfl
  | cons a l ih =>
    have h1 := h a List.mem_cons_self
    have h2 := ih (fun q hq => h q (List.mem_cons_of_mem _ hq))
    first
      | (simp only [Op.lookupswitch.offset] at h2 ⊢; simp [List.find?, Ne.symm h1, Ne.symm (fun e => h1 e)] at h2 ⊢; exact h2)
      | (unfold Op.lookupswitch.offset; rw [if_neg (fun e => h1 e)]; exact h2)
      | (unfold Op.lookupswitch.offset; rw [if_neg (fun e => h1 e.symm)]; exact h2)
section
variable {ρ : Type} {G : zq_G} {Y Y1 : zq_Y} {lv : zq_L} {l1 : Nat} {enc : ρ → Option Value × zq_W} {kc kn pc : Nat} {lo : List (Nat × Value)} {st : List Value} {sh : zq_H} {z : Nat} {X : zq_M} {o : Option ρ}
theorem zr_cs {x c : Int32} {o1 o2 : Option ρ} {D : Decidable (x = c)} (KT : x = c → zq_V G Y lv enc kc kn pc lo st sh z X o1) (KF : ¬ x = c → zq_V G Y lv enc kc kn pc lo st sh z X o2) : zq_V G Y lv enc kc kn pc lo st sh z X (@ite _ (x = c) D o1 o2) := by
  intro r hr
  by_cases h : x = c
  · rw [if_pos h] at hr
    exact KT h r hr
  · rw [if_neg h] at hr
    exact KF h r hr
theorem zr_tab {dflt lo1 hi off n : Int} {offs : Array Int} {len : Nat} {x c : Int32} (tgt : Nat) (hd : decode Y.2.1 pc = .ok (.tableswitch dflt lo1 hi offs, len)) (hx : x = c) (hc : c.toInt = n) (h1 : ¬ n < lo1) (h2 : ¬ hi < n) (ho : offs[(n - lo1).toNat]? = some off) (ht : (pc : Int) + off = (tgt : Int)) (K : zq_V G Y lv enc kc kn tgt lo st sh z X o) : zq_V G Y lv enc kc kn pc lo (.int x :: st) sh z X o := by
  intro r hr p e s m args below meth c' A H locs ls C hz hS hA hP hl
  subst hx
  subst hc
  exact lv_tableIn C.1 C.2.1 hd h1 h2 ho ht (K r hr p e s m args below meth c' A H locs ls C hz hS hA hP hl)
theorem zr_tabD {dflt lo1 hi : Int} {offs : Array Int} {len : Nat} {x : Int32} (tgt : Nat) (hd : decode Y.2.1 pc = .ok (.tableswitch dflt lo1 hi offs, len)) (hx : x.toInt < lo1 ∨ hi < x.toInt) (ht : (pc : Int) + dflt = (tgt : Int)) (K : zq_V G Y lv enc kc kn tgt lo st sh z X o) : zq_V G Y lv enc kc kn pc lo (.int x :: st) sh z X o := by
  intro r hr p e s m args below meth c' A H locs ls C hz hS hA hP hl
  exact lv_tableOut C.1 C.2.1 hd hx ht (K r hr p e s m args below meth c' A H locs ls C hz hS hA hP hl)
theorem zr_lok {dflt off n : Int} {ps : Array (Int × Int)} {len : Nat} {x c : Int32} (tgt : Nat) (hd : decode Y.2.1 pc = .ok (.lookupswitch dflt ps, len)) (hx : x = c) (hc : c.toInt = n) (hp : (ps.toList.zip (ps.toList.drop 1)).all (fun (a, next) => a.1 < next.1) = true) (ho : Op.lookupswitch.offset ps.toList dflt n = off) (ht : (pc : Int) + off = (tgt : Int)) (K : zq_V G Y lv enc kc kn tgt lo st sh z X o) : zq_V G Y lv enc kc kn pc lo (.int x :: st) sh z X o := by
  intro r hr p e s m args below meth c' A H locs ls C hz hS hA hP hl
  subst hx
  subst hc
  exact lv_lookup C.1 C.2.1 hd hp ho ht (K r hr p e s m args below meth c' A H locs ls C hz hS hA hP hl)
theorem zr_lokD {dflt : Int} {ps : Array (Int × Int)} {len : Nat} {x : Int32} (tgt : Nat) (hd : decode Y.2.1 pc = .ok (.lookupswitch dflt ps, len)) (hp : (ps.toList.zip (ps.toList.drop 1)).all (fun (a, next) => a.1 < next.1) = true) (hx : ∀ q ∈ ps.toList, ¬ x.toInt = q.1) (ht : (pc : Int) + dflt = (tgt : Int)) (K : zq_V G Y lv enc kc kn tgt lo st sh z X o) : zq_V G Y lv enc kc kn pc lo (.int x :: st) sh z X o := by
  intro r hr p e s m args below meth c' A H locs ls C hz hS hA hP hl
  exact lv_lookup C.1 C.2.1 hd hp (zq_lkD _ _ _ hx) ht (K r hr p e s m args below meth c' A H locs ls C hz hS hA hP hl)
theorem zr_ldc {idx : Nat} {v : Int32} (hd : decode Y.2.1 pc = .ok (.ldc idx, 2)) (hc : Cond.constant Y.1.cls idx v ∈ zq_T) (K : zq_V G Y lv enc kc kn (pc + 2) lo (.int v :: st) sh z X o) : zq_V G Y lv enc kc kn pc lo st sh z X o := by
  intro r hr p e s m args below meth c A H locs ls C hz hS hA hP hl
  exact lv_ldc C.1 C.2.1 C.2.2.2.2.1 (C.2.2.2.2.2.1 _ hc) hd (K r hr p e s m args below meth c A H locs ls C hz hS hA hP hl)
theorem zr_ldcw {idx : Nat} {v : Int32} (hd : decode Y.2.1 pc = .ok (.ldc_w idx, 3)) (hc : Cond.constant Y.1.cls idx v ∈ zq_T) (K : zq_V G Y lv enc kc kn (pc + 3) lo (.int v :: st) sh z X o) : zq_V G Y lv enc kc kn pc lo st sh z X o := by
  intro r hr p e s m args below meth c A H locs ls C hz hS hA hP hl
  exact lv_ldcw C.1 C.2.1 C.2.2.2.2.1 (C.2.2.2.2.2.1 _ hc) hd (K r hr p e s m args below meth c A H locs ls C hz hS hA hP hl)
theorem zr_ldc2 {idx : Nat} {v : Int64} (hd : decode Y.2.1 pc = .ok (.ldc2_w idx, 3)) (hc : Cond.constantLong Y.1.cls idx v ∈ zq_T) (K : zq_V G Y lv enc kc kn (pc + 3) lo (.long v :: st) sh z X o) : zq_V G Y lv enc kc kn pc lo st sh z X o := by
  intro r hr p e s m args below meth c A H locs ls C hz hS hA hP hl
  exact lv_ldc2 C.1 C.2.1 C.2.2.2.2.1 (C.2.2.2.2.2.1 _ hc) hd (K r hr p e s m args below meth c A H locs ls C hz hS hA hP hl)
end
section
variable {ρ : Type} {G : zq_G} {Y Y1 : zq_Y} {lv : zq_L} {l1 : Nat} {enc : ρ → Option Value × zq_W} {kc kn pc : Nat} {lo : List (Nat × Value)} {st : List Value} {sh : zq_H} {z : Nat} {X : zq_M}
theorem zr_Wsi {o1 : Option (Int32 × zq_M)} {g : Int32 → zq_M → Option ρ} {c ci n idx : Nat} {q : vw_C} {ks : List Nat} {rest : List Value} (As : List Value) (hd : decode Y.2.1 pc = .ok (.invokevirtual idx, 3)) (hV : zq_V G Y1 (l1, 0, 0) (zq_si sh z) 0 0 0 (lv_args 0 (.ref (zq_ad G c) :: As)) [] sh z X o1) (hcd : zq_cd Y1 n ∧ Cond.instanceMethod Y1.1 ∈ zq_T ∧ Cond.selects Y1.1.cls Y1.1 Y1.1 ∈ zq_T) (hlk : Cond.methodLink Y.1.cls idx Y1.1 ∈ zq_T) (hs : sh c = some (.inl (ci, ks))) (hci : vwCl[ci]? = some q) (hq : q.1 = Y1.1.cls) (hn : As.length = n) (hst : st = As.reverse ++ .ref (zq_ad G c) :: rest) (hcat : (rest.map fun v => v.category).sum ≤ 8) (hlen : (lg_sl (.ref (zq_ad G c) :: As)).length ≤ Y1.2.2.1) (hlv : l1 + 1 ≤ lv.1) (hf : kc ≤ lv.2.1 ∧ kn ≤ lv.2.2) (K : ∀ r1 X1, zq_V G Y lv enc kc kn (pc + 3) lo (.int r1 :: rest) sh z X1 (g r1 X1)) : zq_V G Y lv enc kc kn pc lo st sh z X (o1.bind (zq_p g)) := zr_callV (f := zq_p g) (enc1 := zq_si sh z) hd hV hcd.1 hcd.2.1 hcd.2.2 hlk hs hci hq hn hst hcat hlen hlv hf (fun r1 _ => K r1.1 r1.2)
theorem zr_Tsi {o1 : Option (Int32 × zq_M)} {g : Int32 → zq_M → Option ρ} {n idx : Nat} {rest : List Value} (As : List Value) (hd : decode Y.2.1 pc = .ok (.invokestatic idx, 3)) (hV : zq_V G Y1 (l1, 0, 0) (zq_si sh z) 0 0 0 (lv_args 0 As) [] sh z X o1) (hcd : zq_cd Y1 n ∧ Cond.static Y1.1 ∈ zq_T) (hlk : Cond.methodLink Y.1.cls idx Y1.1 ∈ zq_T) (hn : As.length = n) (hst : st = As.reverse ++ rest) (hcat : (rest.map fun v => v.category).sum ≤ 8) (hlen : (lg_sl As).length ≤ Y1.2.2.1) (hlv : l1 + 1 ≤ lv.1) (hf : kc ≤ lv.2.1 ∧ kn ≤ lv.2.2) (K : ∀ r1 X1, zq_V G Y lv enc kc kn (pc + 3) lo (.int r1 :: rest) sh z X1 (g r1 X1)) : zq_V G Y lv enc kc kn pc lo st sh z X (o1.bind (zq_p g)) := zr_callS (f := zq_p g) (enc1 := zq_si sh z) hd hV hcd.1 hcd.2 hlk hn hst hcat hlen hlv hf (fun r1 _ => K r1.1 r1.2)
theorem zr_Wsl {o1 : Option (Int64 × zq_M)} {g : Int64 → zq_M → Option ρ} {c ci n idx : Nat} {q : vw_C} {ks : List Nat} {rest : List Value} (As : List Value) (hd : decode Y.2.1 pc = .ok (.invokevirtual idx, 3)) (hV : zq_V G Y1 (l1, 0, 0) (zq_sl sh z) 0 0 0 (lv_args 0 (.ref (zq_ad G c) :: As)) [] sh z X o1) (hcd : zq_cd Y1 n ∧ Cond.instanceMethod Y1.1 ∈ zq_T ∧ Cond.selects Y1.1.cls Y1.1 Y1.1 ∈ zq_T) (hlk : Cond.methodLink Y.1.cls idx Y1.1 ∈ zq_T) (hs : sh c = some (.inl (ci, ks))) (hci : vwCl[ci]? = some q) (hq : q.1 = Y1.1.cls) (hn : As.length = n) (hst : st = As.reverse ++ .ref (zq_ad G c) :: rest) (hcat : (rest.map fun v => v.category).sum ≤ 8) (hlen : (lg_sl (.ref (zq_ad G c) :: As)).length ≤ Y1.2.2.1) (hlv : l1 + 1 ≤ lv.1) (hf : kc ≤ lv.2.1 ∧ kn ≤ lv.2.2) (K : ∀ r1 X1, zq_V G Y lv enc kc kn (pc + 3) lo (.long r1 :: rest) sh z X1 (g r1 X1)) : zq_V G Y lv enc kc kn pc lo st sh z X (o1.bind (zq_p g)) := zr_callV (f := zq_p g) (enc1 := zq_sl sh z) hd hV hcd.1 hcd.2.1 hcd.2.2 hlk hs hci hq hn hst hcat hlen hlv hf (fun r1 _ => K r1.1 r1.2)
theorem zr_Tsl {o1 : Option (Int64 × zq_M)} {g : Int64 → zq_M → Option ρ} {n idx : Nat} {rest : List Value} (As : List Value) (hd : decode Y.2.1 pc = .ok (.invokestatic idx, 3)) (hV : zq_V G Y1 (l1, 0, 0) (zq_sl sh z) 0 0 0 (lv_args 0 As) [] sh z X o1) (hcd : zq_cd Y1 n ∧ Cond.static Y1.1 ∈ zq_T) (hlk : Cond.methodLink Y.1.cls idx Y1.1 ∈ zq_T) (hn : As.length = n) (hst : st = As.reverse ++ rest) (hcat : (rest.map fun v => v.category).sum ≤ 8) (hlen : (lg_sl As).length ≤ Y1.2.2.1) (hlv : l1 + 1 ≤ lv.1) (hf : kc ≤ lv.2.1 ∧ kn ≤ lv.2.2) (K : ∀ r1 X1, zq_V G Y lv enc kc kn (pc + 3) lo (.long r1 :: rest) sh z X1 (g r1 X1)) : zq_V G Y lv enc kc kn pc lo st sh z X (o1.bind (zq_p g)) := zr_callS (f := zq_p g) (enc1 := zq_sl sh z) hd hV hcd.1 hcd.2 hlk hn hst hcat hlen hlv hf (fun r1 _ => K r1.1 r1.2)
end
end
section
def zq_lM : List zq_S := [.inl (11, [0, 0, 0, 0, 74, 75, 76, 77, 78, 0, 0, 0, 0, 0, 0, 79, 80, 81, 82, 83, 84, 85, 86, 0, 0, 0, 87, 88, 89, 90, 91, 92, 93, 94, 95, 96, 0, 97, 98, 99, 1, 1, 0, 100, 101, 0, 0, 0, 0, 0, 0, 0, 0, 102, 103, 104, 105, 106, 107, 108, 109, 0, 110, 111, 112, 113, 114]), .inr (0, 5), .inr (0, 5), .inr (0, 5), .inr (0, 3), .inr (0, 3), .inr (0, 100), .inr (0, 6), .inr (0, 60), .inr (0, 60), .inr (0, 60), .inr (0, 60), .inr (0, 600), .inr (0, 101), .inr (0, 17), .inr (1, 100), .inr (0, 120), .inr (1, 120), .inr (1, 1024), .inr (1, 1024), .inr (0, 1024), .inr (0, 1024), .inr (1, 32768), .inr (1, 32768), .inr (0, 12), .inr (0, 12), .inr (0, 5), .inr (0, 12), .inr (0, 5), .inr (0, 5), .inr (0, 5), .inr (0, 5), .inr (0, 3), .inr (0, 3), .inr (0, 12), .inr (0, 12), .inr (0, 12), .inr (0, 20), .inr (0, 6), .inr (0, 6), .inr (2, 360), .inr (2, 60)]
def zq_lX : List zq_S := [.inl (10, [5, 15, 0, 25, 0, 26, 0, 27, 32, 39, 45, 49, 55, 56, 58, 60]), .inl (5, [0, 6, 7, 8, 9, 10, 11, 0, 0, 12, 13, 0, 14, 0, 0]), .inr (0, 5), .inr (0, 5), .inr (0, 5), .inr (0, 5), .inr (0, 3), .inr (0, 3), .inr (0, 12), .inr (0, 12), .inr (0, 12), .inl (5, [0, 16, 17, 18, 19, 20, 21, 0, 0, 22, 23, 0, 24, 0, 0]), .inr (0, 5), .inr (0, 5), .inr (0, 5), .inr (0, 5), .inr (0, 3), .inr (0, 3), .inr (0, 12), .inr (0, 12), .inr (0, 12), .inr (0, 100), .inr (3, 6), .inl (2, [0, 28, 29, 30, 31, 0, 0]), .inr (0, 10), .inr (0, 10), .inr (0, 10), .inr (0, 100), .inl (3, [2, 0, 0, 2]), .inr (0, 0), .inl (2, [0, 35, 36, 37, 38, 0, 0]), .inr (0, 10), .inr (0, 10), .inr (0, 10), .inr (0, 100), .inl (6, [5, 2, 40, 41, 42, 43, 44]), .inr (0, 6), .inr (0, 5), .inr (0, 5), .inr (0, 100), .inr (1, 100), .inl (9, [39, 46, 47, 48, 0, 0, 0, 0]), .inr (0, 1024), .inr (0, 1024), .inr (0, 32), .inl (1, [39, 50, 51, 52, 53, 54, 0]), .inr (0, 1024), .inr (0, 1024), .inr (0, 96), .inr (0, 3), .inr (0, 3), .inl (8, [39]), .inl (4, [5, 57]), .inr (0, 5), .inl (0, [59, 0, 0, 0, 0]), .inr (0, 20), .inr (4, 6), .inl (7, [0, 0, 62]), .inr (2, 60), .inl (7, [0, 0, 64]), .inr (2, 60), .inl (7, [0, 0, 66]), .inr (2, 60), .inl (7, [0, 0, 68]), .inr (2, 60), .inl (7, [0, 0, 70]), .inr (2, 60), .inl (7, [0, 0, 72]), .inr (2, 60)]
def zq_shM : zq_H := fun c => if c < 69 then none else zq_lM[c - 69]?
def zq_hsh (h d : Nat) : zq_S := match d with
  | 0 => .inl (2, [0, h + 5, h + 6, h + 7, h + 8, 0, 0])
  | 1 => .inr (0, 10)
  | 2 => .inr (0, 10)
  | 3 => .inr (0, 10)
  | _ => .inr (0, 100)
def zq_shX (j : Nat) : zq_H := fun c => if c < 69 then zq_lX[c]? else if c < 111 then none else if (c - 111) / 5 < j then some (zq_hsh (c - (c - 111) % 5) ((c - 111) % 5)) else none
theorem om_69 : zq_shM 69 = some (.inl (11, [0, 0, 0, 0, 74, 75, 76, 77, 78, 0, 0, 0, 0, 0, 0, 79, 80, 81, 82, 83, 84, 85, 86, 0, 0, 0, 87, 88, 89, 90, 91, 92, 93, 94, 95, 96, 0, 97, 98, 99, 1, 1, 0, 100, 101, 0, 0, 0, 0, 0, 0, 0, 0, 102, 103, 104, 105, 106, 107, 108, 109, 0, 110, 111, 112, 113, 114])) := rfl
theorem am_70 : zq_shM 70 = some (.inr (0, 5)) := rfl
theorem am_71 : zq_shM 71 = some (.inr (0, 5)) := rfl
theorem am_72 : zq_shM 72 = some (.inr (0, 5)) := rfl
theorem am_73 : zq_shM 73 = some (.inr (0, 3)) := rfl
theorem am_74 : zq_shM 74 = some (.inr (0, 3)) := rfl
theorem am_75 : zq_shM 75 = some (.inr (0, 100)) := rfl
theorem am_76 : zq_shM 76 = some (.inr (0, 6)) := rfl
theorem am_77 : zq_shM 77 = some (.inr (0, 60)) := rfl
theorem am_78 : zq_shM 78 = some (.inr (0, 60)) := rfl
theorem am_79 : zq_shM 79 = some (.inr (0, 60)) := rfl
theorem am_80 : zq_shM 80 = some (.inr (0, 60)) := rfl
theorem am_81 : zq_shM 81 = some (.inr (0, 600)) := rfl
theorem am_82 : zq_shM 82 = some (.inr (0, 101)) := rfl
theorem am_83 : zq_shM 83 = some (.inr (0, 17)) := rfl
theorem am_84 : zq_shM 84 = some (.inr (1, 100)) := rfl
theorem am_85 : zq_shM 85 = some (.inr (0, 120)) := rfl
theorem am_86 : zq_shM 86 = some (.inr (1, 120)) := rfl
theorem am_87 : zq_shM 87 = some (.inr (1, 1024)) := rfl
theorem am_88 : zq_shM 88 = some (.inr (1, 1024)) := rfl
theorem am_89 : zq_shM 89 = some (.inr (0, 1024)) := rfl
theorem am_90 : zq_shM 90 = some (.inr (0, 1024)) := rfl
theorem am_91 : zq_shM 91 = some (.inr (1, 32768)) := rfl
theorem am_92 : zq_shM 92 = some (.inr (1, 32768)) := rfl
theorem am_93 : zq_shM 93 = some (.inr (0, 12)) := rfl
theorem am_94 : zq_shM 94 = some (.inr (0, 12)) := rfl
theorem am_95 : zq_shM 95 = some (.inr (0, 5)) := rfl
theorem am_96 : zq_shM 96 = some (.inr (0, 12)) := rfl
theorem am_97 : zq_shM 97 = some (.inr (0, 5)) := rfl
theorem am_98 : zq_shM 98 = some (.inr (0, 5)) := rfl
theorem am_99 : zq_shM 99 = some (.inr (0, 5)) := rfl
theorem am_100 : zq_shM 100 = some (.inr (0, 5)) := rfl
theorem am_101 : zq_shM 101 = some (.inr (0, 3)) := rfl
theorem am_102 : zq_shM 102 = some (.inr (0, 3)) := rfl
theorem am_103 : zq_shM 103 = some (.inr (0, 12)) := rfl
theorem am_104 : zq_shM 104 = some (.inr (0, 12)) := rfl
theorem am_105 : zq_shM 105 = some (.inr (0, 12)) := rfl
theorem am_106 : zq_shM 106 = some (.inr (0, 20)) := rfl
theorem am_107 : zq_shM 107 = some (.inr (0, 6)) := rfl
theorem am_108 : zq_shM 108 = some (.inr (0, 6)) := rfl
theorem am_109 : zq_shM 109 = some (.inr (2, 360)) := rfl
theorem am_110 : zq_shM 110 = some (.inr (2, 60)) := rfl
theorem km_69_0 : zq_kd zq_shM 69 0 = some (11, 0) := rfl
theorem km_69_1 : zq_kd zq_shM 69 1 = some (11, 0) := rfl
theorem km_69_2 : zq_kd zq_shM 69 2 = some (11, 0) := rfl
theorem km_69_3 : zq_kd zq_shM 69 3 = some (11, 0) := rfl
theorem km_69_4 : zq_kd zq_shM 69 4 = some (11, 74) := rfl
theorem km_69_5 : zq_kd zq_shM 69 5 = some (11, 75) := rfl
theorem km_69_6 : zq_kd zq_shM 69 6 = some (11, 76) := rfl
theorem km_69_7 : zq_kd zq_shM 69 7 = some (11, 77) := rfl
theorem km_69_8 : zq_kd zq_shM 69 8 = some (11, 78) := rfl
theorem km_69_9 : zq_kd zq_shM 69 9 = some (11, 0) := rfl
theorem km_69_10 : zq_kd zq_shM 69 10 = some (11, 0) := rfl
theorem km_69_11 : zq_kd zq_shM 69 11 = some (11, 0) := rfl
theorem km_69_12 : zq_kd zq_shM 69 12 = some (11, 0) := rfl
theorem km_69_13 : zq_kd zq_shM 69 13 = some (11, 0) := rfl
theorem km_69_14 : zq_kd zq_shM 69 14 = some (11, 0) := rfl
theorem km_69_15 : zq_kd zq_shM 69 15 = some (11, 79) := rfl
theorem km_69_16 : zq_kd zq_shM 69 16 = some (11, 80) := rfl
theorem km_69_17 : zq_kd zq_shM 69 17 = some (11, 81) := rfl
theorem km_69_18 : zq_kd zq_shM 69 18 = some (11, 82) := rfl
theorem km_69_19 : zq_kd zq_shM 69 19 = some (11, 83) := rfl
theorem km_69_20 : zq_kd zq_shM 69 20 = some (11, 84) := rfl
theorem km_69_21 : zq_kd zq_shM 69 21 = some (11, 85) := rfl
theorem km_69_22 : zq_kd zq_shM 69 22 = some (11, 86) := rfl
theorem km_69_23 : zq_kd zq_shM 69 23 = some (11, 0) := rfl
theorem km_69_24 : zq_kd zq_shM 69 24 = some (11, 0) := rfl
theorem km_69_25 : zq_kd zq_shM 69 25 = some (11, 0) := rfl
theorem km_69_26 : zq_kd zq_shM 69 26 = some (11, 87) := rfl
theorem km_69_27 : zq_kd zq_shM 69 27 = some (11, 88) := rfl
theorem km_69_28 : zq_kd zq_shM 69 28 = some (11, 89) := rfl
theorem km_69_29 : zq_kd zq_shM 69 29 = some (11, 90) := rfl
theorem km_69_30 : zq_kd zq_shM 69 30 = some (11, 91) := rfl
theorem km_69_31 : zq_kd zq_shM 69 31 = some (11, 92) := rfl
theorem km_69_32 : zq_kd zq_shM 69 32 = some (11, 93) := rfl
theorem km_69_33 : zq_kd zq_shM 69 33 = some (11, 94) := rfl
theorem km_69_34 : zq_kd zq_shM 69 34 = some (11, 95) := rfl
theorem km_69_35 : zq_kd zq_shM 69 35 = some (11, 96) := rfl
theorem km_69_36 : zq_kd zq_shM 69 36 = some (11, 0) := rfl
theorem km_69_37 : zq_kd zq_shM 69 37 = some (11, 97) := rfl
theorem km_69_38 : zq_kd zq_shM 69 38 = some (11, 98) := rfl
theorem km_69_39 : zq_kd zq_shM 69 39 = some (11, 99) := rfl
theorem km_69_40 : zq_kd zq_shM 69 40 = some (11, 1) := rfl
theorem km_69_41 : zq_kd zq_shM 69 41 = some (11, 1) := rfl
theorem km_69_42 : zq_kd zq_shM 69 42 = some (11, 0) := rfl
theorem km_69_43 : zq_kd zq_shM 69 43 = some (11, 100) := rfl
theorem km_69_44 : zq_kd zq_shM 69 44 = some (11, 101) := rfl
theorem km_69_45 : zq_kd zq_shM 69 45 = some (11, 0) := rfl
theorem km_69_46 : zq_kd zq_shM 69 46 = some (11, 0) := rfl
theorem km_69_47 : zq_kd zq_shM 69 47 = some (11, 0) := rfl
theorem km_69_48 : zq_kd zq_shM 69 48 = some (11, 0) := rfl
theorem km_69_49 : zq_kd zq_shM 69 49 = some (11, 0) := rfl
theorem km_69_50 : zq_kd zq_shM 69 50 = some (11, 0) := rfl
theorem km_69_51 : zq_kd zq_shM 69 51 = some (11, 0) := rfl
theorem km_69_52 : zq_kd zq_shM 69 52 = some (11, 0) := rfl
theorem km_69_53 : zq_kd zq_shM 69 53 = some (11, 102) := rfl
theorem km_69_54 : zq_kd zq_shM 69 54 = some (11, 103) := rfl
theorem km_69_55 : zq_kd zq_shM 69 55 = some (11, 104) := rfl
theorem km_69_56 : zq_kd zq_shM 69 56 = some (11, 105) := rfl
theorem km_69_57 : zq_kd zq_shM 69 57 = some (11, 106) := rfl
theorem km_69_58 : zq_kd zq_shM 69 58 = some (11, 107) := rfl
theorem km_69_59 : zq_kd zq_shM 69 59 = some (11, 108) := rfl
theorem km_69_60 : zq_kd zq_shM 69 60 = some (11, 109) := rfl
theorem km_69_61 : zq_kd zq_shM 69 61 = some (11, 0) := rfl
theorem km_69_62 : zq_kd zq_shM 69 62 = some (11, 110) := rfl
theorem km_69_63 : zq_kd zq_shM 69 63 = some (11, 111) := rfl
theorem km_69_64 : zq_kd zq_shM 69 64 = some (11, 112) := rfl
theorem km_69_65 : zq_kd zq_shM 69 65 = some (11, 113) := rfl
theorem km_69_66 : zq_kd zq_shM 69 66 = some (11, 114) := rfl
theorem ox_0 (j : Nat) : zq_shX j 0 = some (.inl (10, [5, 15, 0, 25, 0, 26, 0, 27, 32, 39, 45, 49, 55, 56, 58, 60])) := rfl
theorem kx_0_0 (j : Nat) : zq_kd (zq_shX j) 0 0 = some (10, 5) := rfl
theorem kx_0_1 (j : Nat) : zq_kd (zq_shX j) 0 1 = some (10, 15) := rfl
theorem kx_0_2 (j : Nat) : zq_kd (zq_shX j) 0 2 = some (10, 0) := rfl
theorem kx_0_3 (j : Nat) : zq_kd (zq_shX j) 0 3 = some (10, 25) := rfl
theorem kx_0_4 (j : Nat) : zq_kd (zq_shX j) 0 4 = some (10, 0) := rfl
theorem kx_0_5 (j : Nat) : zq_kd (zq_shX j) 0 5 = some (10, 26) := rfl
theorem kx_0_6 (j : Nat) : zq_kd (zq_shX j) 0 6 = some (10, 0) := rfl
theorem kx_0_7 (j : Nat) : zq_kd (zq_shX j) 0 7 = some (10, 27) := rfl
theorem kx_0_8 (j : Nat) : zq_kd (zq_shX j) 0 8 = some (10, 32) := rfl
theorem kx_0_9 (j : Nat) : zq_kd (zq_shX j) 0 9 = some (10, 39) := rfl
theorem kx_0_10 (j : Nat) : zq_kd (zq_shX j) 0 10 = some (10, 45) := rfl
theorem kx_0_11 (j : Nat) : zq_kd (zq_shX j) 0 11 = some (10, 49) := rfl
theorem kx_0_12 (j : Nat) : zq_kd (zq_shX j) 0 12 = some (10, 55) := rfl
theorem kx_0_13 (j : Nat) : zq_kd (zq_shX j) 0 13 = some (10, 56) := rfl
theorem kx_0_14 (j : Nat) : zq_kd (zq_shX j) 0 14 = some (10, 58) := rfl
theorem kx_0_15 (j : Nat) : zq_kd (zq_shX j) 0 15 = some (10, 60) := rfl
theorem ox_1 (j : Nat) : zq_shX j 1 = some (.inl (5, [0, 6, 7, 8, 9, 10, 11, 0, 0, 12, 13, 0, 14, 0, 0])) := rfl
theorem kx_1_0 (j : Nat) : zq_kd (zq_shX j) 1 0 = some (5, 0) := rfl
theorem kx_1_1 (j : Nat) : zq_kd (zq_shX j) 1 1 = some (5, 6) := rfl
theorem kx_1_2 (j : Nat) : zq_kd (zq_shX j) 1 2 = some (5, 7) := rfl
theorem kx_1_3 (j : Nat) : zq_kd (zq_shX j) 1 3 = some (5, 8) := rfl
theorem kx_1_4 (j : Nat) : zq_kd (zq_shX j) 1 4 = some (5, 9) := rfl
theorem kx_1_5 (j : Nat) : zq_kd (zq_shX j) 1 5 = some (5, 10) := rfl
theorem kx_1_6 (j : Nat) : zq_kd (zq_shX j) 1 6 = some (5, 11) := rfl
theorem kx_1_7 (j : Nat) : zq_kd (zq_shX j) 1 7 = some (5, 0) := rfl
theorem kx_1_8 (j : Nat) : zq_kd (zq_shX j) 1 8 = some (5, 0) := rfl
theorem kx_1_9 (j : Nat) : zq_kd (zq_shX j) 1 9 = some (5, 12) := rfl
theorem kx_1_10 (j : Nat) : zq_kd (zq_shX j) 1 10 = some (5, 13) := rfl
theorem kx_1_11 (j : Nat) : zq_kd (zq_shX j) 1 11 = some (5, 0) := rfl
theorem kx_1_12 (j : Nat) : zq_kd (zq_shX j) 1 12 = some (5, 14) := rfl
theorem kx_1_13 (j : Nat) : zq_kd (zq_shX j) 1 13 = some (5, 0) := rfl
theorem kx_1_14 (j : Nat) : zq_kd (zq_shX j) 1 14 = some (5, 0) := rfl
theorem ax_2 (j : Nat) : zq_shX j 2 = some (.inr (0, 5)) := rfl
theorem ax_3 (j : Nat) : zq_shX j 3 = some (.inr (0, 5)) := rfl
theorem ax_4 (j : Nat) : zq_shX j 4 = some (.inr (0, 5)) := rfl
theorem ax_5 (j : Nat) : zq_shX j 5 = some (.inr (0, 5)) := rfl
theorem ax_6 (j : Nat) : zq_shX j 6 = some (.inr (0, 3)) := rfl
theorem ax_7 (j : Nat) : zq_shX j 7 = some (.inr (0, 3)) := rfl
theorem ax_8 (j : Nat) : zq_shX j 8 = some (.inr (0, 12)) := rfl
theorem ax_9 (j : Nat) : zq_shX j 9 = some (.inr (0, 12)) := rfl
theorem ax_10 (j : Nat) : zq_shX j 10 = some (.inr (0, 12)) := rfl
theorem ox_11 (j : Nat) : zq_shX j 11 = some (.inl (5, [0, 16, 17, 18, 19, 20, 21, 0, 0, 22, 23, 0, 24, 0, 0])) := rfl
theorem kx_11_0 (j : Nat) : zq_kd (zq_shX j) 11 0 = some (5, 0) := rfl
theorem kx_11_1 (j : Nat) : zq_kd (zq_shX j) 11 1 = some (5, 16) := rfl
theorem kx_11_2 (j : Nat) : zq_kd (zq_shX j) 11 2 = some (5, 17) := rfl
theorem kx_11_3 (j : Nat) : zq_kd (zq_shX j) 11 3 = some (5, 18) := rfl
theorem kx_11_4 (j : Nat) : zq_kd (zq_shX j) 11 4 = some (5, 19) := rfl
theorem kx_11_5 (j : Nat) : zq_kd (zq_shX j) 11 5 = some (5, 20) := rfl
theorem kx_11_6 (j : Nat) : zq_kd (zq_shX j) 11 6 = some (5, 21) := rfl
theorem kx_11_7 (j : Nat) : zq_kd (zq_shX j) 11 7 = some (5, 0) := rfl
theorem kx_11_8 (j : Nat) : zq_kd (zq_shX j) 11 8 = some (5, 0) := rfl
theorem kx_11_9 (j : Nat) : zq_kd (zq_shX j) 11 9 = some (5, 22) := rfl
theorem kx_11_10 (j : Nat) : zq_kd (zq_shX j) 11 10 = some (5, 23) := rfl
theorem kx_11_11 (j : Nat) : zq_kd (zq_shX j) 11 11 = some (5, 0) := rfl
theorem kx_11_12 (j : Nat) : zq_kd (zq_shX j) 11 12 = some (5, 24) := rfl
theorem kx_11_13 (j : Nat) : zq_kd (zq_shX j) 11 13 = some (5, 0) := rfl
theorem kx_11_14 (j : Nat) : zq_kd (zq_shX j) 11 14 = some (5, 0) := rfl
theorem ax_12 (j : Nat) : zq_shX j 12 = some (.inr (0, 5)) := rfl
theorem ax_13 (j : Nat) : zq_shX j 13 = some (.inr (0, 5)) := rfl
theorem ax_14 (j : Nat) : zq_shX j 14 = some (.inr (0, 5)) := rfl
theorem ax_15 (j : Nat) : zq_shX j 15 = some (.inr (0, 5)) := rfl
theorem ax_16 (j : Nat) : zq_shX j 16 = some (.inr (0, 3)) := rfl
theorem ax_17 (j : Nat) : zq_shX j 17 = some (.inr (0, 3)) := rfl
theorem ax_18 (j : Nat) : zq_shX j 18 = some (.inr (0, 12)) := rfl
theorem ax_19 (j : Nat) : zq_shX j 19 = some (.inr (0, 12)) := rfl
theorem ax_20 (j : Nat) : zq_shX j 20 = some (.inr (0, 12)) := rfl
theorem ax_21 (j : Nat) : zq_shX j 21 = some (.inr (0, 100)) := rfl
theorem ax_22 (j : Nat) : zq_shX j 22 = some (.inr (3, 6)) := rfl
theorem ox_23 (j : Nat) : zq_shX j 23 = some (.inl (2, [0, 28, 29, 30, 31, 0, 0])) := rfl
theorem kx_23_0 (j : Nat) : zq_kd (zq_shX j) 23 0 = some (2, 0) := rfl
theorem kx_23_1 (j : Nat) : zq_kd (zq_shX j) 23 1 = some (2, 28) := rfl
theorem kx_23_2 (j : Nat) : zq_kd (zq_shX j) 23 2 = some (2, 29) := rfl
theorem kx_23_3 (j : Nat) : zq_kd (zq_shX j) 23 3 = some (2, 30) := rfl
theorem kx_23_4 (j : Nat) : zq_kd (zq_shX j) 23 4 = some (2, 31) := rfl
theorem kx_23_5 (j : Nat) : zq_kd (zq_shX j) 23 5 = some (2, 0) := rfl
theorem kx_23_6 (j : Nat) : zq_kd (zq_shX j) 23 6 = some (2, 0) := rfl
theorem ax_24 (j : Nat) : zq_shX j 24 = some (.inr (0, 10)) := rfl
theorem ax_25 (j : Nat) : zq_shX j 25 = some (.inr (0, 10)) := rfl
theorem ax_26 (j : Nat) : zq_shX j 26 = some (.inr (0, 10)) := rfl
theorem ax_27 (j : Nat) : zq_shX j 27 = some (.inr (0, 100)) := rfl
theorem ox_28 (j : Nat) : zq_shX j 28 = some (.inl (3, [2, 0, 0, 2])) := rfl
theorem kx_28_0 (j : Nat) : zq_kd (zq_shX j) 28 0 = some (3, 2) := rfl
theorem kx_28_1 (j : Nat) : zq_kd (zq_shX j) 28 1 = some (3, 0) := rfl
theorem kx_28_2 (j : Nat) : zq_kd (zq_shX j) 28 2 = some (3, 0) := rfl
theorem kx_28_3 (j : Nat) : zq_kd (zq_shX j) 28 3 = some (3, 2) := rfl
theorem ax_29 (j : Nat) : zq_shX j 29 = some (.inr (0, 0)) := rfl
theorem ox_30 (j : Nat) : zq_shX j 30 = some (.inl (2, [0, 35, 36, 37, 38, 0, 0])) := rfl
theorem kx_30_0 (j : Nat) : zq_kd (zq_shX j) 30 0 = some (2, 0) := rfl
theorem kx_30_1 (j : Nat) : zq_kd (zq_shX j) 30 1 = some (2, 35) := rfl
theorem kx_30_2 (j : Nat) : zq_kd (zq_shX j) 30 2 = some (2, 36) := rfl
theorem kx_30_3 (j : Nat) : zq_kd (zq_shX j) 30 3 = some (2, 37) := rfl
theorem kx_30_4 (j : Nat) : zq_kd (zq_shX j) 30 4 = some (2, 38) := rfl
theorem kx_30_5 (j : Nat) : zq_kd (zq_shX j) 30 5 = some (2, 0) := rfl
theorem kx_30_6 (j : Nat) : zq_kd (zq_shX j) 30 6 = some (2, 0) := rfl
theorem ax_31 (j : Nat) : zq_shX j 31 = some (.inr (0, 10)) := rfl
theorem ax_32 (j : Nat) : zq_shX j 32 = some (.inr (0, 10)) := rfl
theorem ax_33 (j : Nat) : zq_shX j 33 = some (.inr (0, 10)) := rfl
theorem ax_34 (j : Nat) : zq_shX j 34 = some (.inr (0, 100)) := rfl
theorem ox_35 (j : Nat) : zq_shX j 35 = some (.inl (6, [5, 2, 40, 41, 42, 43, 44])) := rfl
theorem kx_35_0 (j : Nat) : zq_kd (zq_shX j) 35 0 = some (6, 5) := rfl
theorem kx_35_1 (j : Nat) : zq_kd (zq_shX j) 35 1 = some (6, 2) := rfl
theorem kx_35_2 (j : Nat) : zq_kd (zq_shX j) 35 2 = some (6, 40) := rfl
theorem kx_35_3 (j : Nat) : zq_kd (zq_shX j) 35 3 = some (6, 41) := rfl
theorem kx_35_4 (j : Nat) : zq_kd (zq_shX j) 35 4 = some (6, 42) := rfl
theorem kx_35_5 (j : Nat) : zq_kd (zq_shX j) 35 5 = some (6, 43) := rfl
theorem kx_35_6 (j : Nat) : zq_kd (zq_shX j) 35 6 = some (6, 44) := rfl
theorem ax_36 (j : Nat) : zq_shX j 36 = some (.inr (0, 6)) := rfl
theorem ax_37 (j : Nat) : zq_shX j 37 = some (.inr (0, 5)) := rfl
theorem ax_38 (j : Nat) : zq_shX j 38 = some (.inr (0, 5)) := rfl
theorem ax_39 (j : Nat) : zq_shX j 39 = some (.inr (0, 100)) := rfl
theorem ax_40 (j : Nat) : zq_shX j 40 = some (.inr (1, 100)) := rfl
theorem ox_41 (j : Nat) : zq_shX j 41 = some (.inl (9, [39, 46, 47, 48, 0, 0, 0, 0])) := rfl
theorem kx_41_0 (j : Nat) : zq_kd (zq_shX j) 41 0 = some (9, 39) := rfl
theorem kx_41_1 (j : Nat) : zq_kd (zq_shX j) 41 1 = some (9, 46) := rfl
theorem kx_41_2 (j : Nat) : zq_kd (zq_shX j) 41 2 = some (9, 47) := rfl
theorem kx_41_3 (j : Nat) : zq_kd (zq_shX j) 41 3 = some (9, 48) := rfl
theorem kx_41_4 (j : Nat) : zq_kd (zq_shX j) 41 4 = some (9, 0) := rfl
theorem kx_41_5 (j : Nat) : zq_kd (zq_shX j) 41 5 = some (9, 0) := rfl
theorem kx_41_6 (j : Nat) : zq_kd (zq_shX j) 41 6 = some (9, 0) := rfl
theorem kx_41_7 (j : Nat) : zq_kd (zq_shX j) 41 7 = some (9, 0) := rfl
theorem ax_42 (j : Nat) : zq_shX j 42 = some (.inr (0, 1024)) := rfl
theorem ax_43 (j : Nat) : zq_shX j 43 = some (.inr (0, 1024)) := rfl
theorem ax_44 (j : Nat) : zq_shX j 44 = some (.inr (0, 32)) := rfl
theorem ox_45 (j : Nat) : zq_shX j 45 = some (.inl (1, [39, 50, 51, 52, 53, 54, 0])) := rfl
theorem kx_45_0 (j : Nat) : zq_kd (zq_shX j) 45 0 = some (1, 39) := rfl
theorem kx_45_1 (j : Nat) : zq_kd (zq_shX j) 45 1 = some (1, 50) := rfl
theorem kx_45_2 (j : Nat) : zq_kd (zq_shX j) 45 2 = some (1, 51) := rfl
theorem kx_45_3 (j : Nat) : zq_kd (zq_shX j) 45 3 = some (1, 52) := rfl
theorem kx_45_4 (j : Nat) : zq_kd (zq_shX j) 45 4 = some (1, 53) := rfl
theorem kx_45_5 (j : Nat) : zq_kd (zq_shX j) 45 5 = some (1, 54) := rfl
theorem kx_45_6 (j : Nat) : zq_kd (zq_shX j) 45 6 = some (1, 0) := rfl
theorem ax_46 (j : Nat) : zq_shX j 46 = some (.inr (0, 1024)) := rfl
theorem ax_47 (j : Nat) : zq_shX j 47 = some (.inr (0, 1024)) := rfl
theorem ax_48 (j : Nat) : zq_shX j 48 = some (.inr (0, 96)) := rfl
theorem ax_49 (j : Nat) : zq_shX j 49 = some (.inr (0, 3)) := rfl
theorem ax_50 (j : Nat) : zq_shX j 50 = some (.inr (0, 3)) := rfl
theorem ox_51 (j : Nat) : zq_shX j 51 = some (.inl (8, [39])) := rfl
theorem kx_51_0 (j : Nat) : zq_kd (zq_shX j) 51 0 = some (8, 39) := rfl
theorem ox_52 (j : Nat) : zq_shX j 52 = some (.inl (4, [5, 57])) := rfl
theorem kx_52_0 (j : Nat) : zq_kd (zq_shX j) 52 0 = some (4, 5) := rfl
theorem kx_52_1 (j : Nat) : zq_kd (zq_shX j) 52 1 = some (4, 57) := rfl
theorem ax_53 (j : Nat) : zq_shX j 53 = some (.inr (0, 5)) := rfl
theorem ox_54 (j : Nat) : zq_shX j 54 = some (.inl (0, [59, 0, 0, 0, 0])) := rfl
theorem kx_54_0 (j : Nat) : zq_kd (zq_shX j) 54 0 = some (0, 59) := rfl
theorem kx_54_1 (j : Nat) : zq_kd (zq_shX j) 54 1 = some (0, 0) := rfl
theorem kx_54_2 (j : Nat) : zq_kd (zq_shX j) 54 2 = some (0, 0) := rfl
theorem kx_54_3 (j : Nat) : zq_kd (zq_shX j) 54 3 = some (0, 0) := rfl
theorem kx_54_4 (j : Nat) : zq_kd (zq_shX j) 54 4 = some (0, 0) := rfl
theorem ax_55 (j : Nat) : zq_shX j 55 = some (.inr (0, 20)) := rfl
theorem ax_56 (j : Nat) : zq_shX j 56 = some (.inr (4, 6)) := rfl
theorem ox_57 (j : Nat) : zq_shX j 57 = some (.inl (7, [0, 0, 62])) := rfl
theorem kx_57_0 (j : Nat) : zq_kd (zq_shX j) 57 0 = some (7, 0) := rfl
theorem kx_57_1 (j : Nat) : zq_kd (zq_shX j) 57 1 = some (7, 0) := rfl
theorem kx_57_2 (j : Nat) : zq_kd (zq_shX j) 57 2 = some (7, 62) := rfl
theorem ax_58 (j : Nat) : zq_shX j 58 = some (.inr (2, 60)) := rfl
theorem ox_59 (j : Nat) : zq_shX j 59 = some (.inl (7, [0, 0, 64])) := rfl
theorem kx_59_0 (j : Nat) : zq_kd (zq_shX j) 59 0 = some (7, 0) := rfl
theorem kx_59_1 (j : Nat) : zq_kd (zq_shX j) 59 1 = some (7, 0) := rfl
theorem kx_59_2 (j : Nat) : zq_kd (zq_shX j) 59 2 = some (7, 64) := rfl
theorem ax_60 (j : Nat) : zq_shX j 60 = some (.inr (2, 60)) := rfl
theorem ox_61 (j : Nat) : zq_shX j 61 = some (.inl (7, [0, 0, 66])) := rfl
theorem kx_61_0 (j : Nat) : zq_kd (zq_shX j) 61 0 = some (7, 0) := rfl
theorem kx_61_1 (j : Nat) : zq_kd (zq_shX j) 61 1 = some (7, 0) := rfl
theorem kx_61_2 (j : Nat) : zq_kd (zq_shX j) 61 2 = some (7, 66) := rfl
theorem ax_62 (j : Nat) : zq_shX j 62 = some (.inr (2, 60)) := rfl
theorem ox_63 (j : Nat) : zq_shX j 63 = some (.inl (7, [0, 0, 68])) := rfl
theorem kx_63_0 (j : Nat) : zq_kd (zq_shX j) 63 0 = some (7, 0) := rfl
theorem kx_63_1 (j : Nat) : zq_kd (zq_shX j) 63 1 = some (7, 0) := rfl
theorem kx_63_2 (j : Nat) : zq_kd (zq_shX j) 63 2 = some (7, 68) := rfl
theorem ax_64 (j : Nat) : zq_shX j 64 = some (.inr (2, 60)) := rfl
theorem ox_65 (j : Nat) : zq_shX j 65 = some (.inl (7, [0, 0, 70])) := rfl
theorem kx_65_0 (j : Nat) : zq_kd (zq_shX j) 65 0 = some (7, 0) := rfl
theorem kx_65_1 (j : Nat) : zq_kd (zq_shX j) 65 1 = some (7, 0) := rfl
theorem kx_65_2 (j : Nat) : zq_kd (zq_shX j) 65 2 = some (7, 70) := rfl
theorem ax_66 (j : Nat) : zq_shX j 66 = some (.inr (2, 60)) := rfl
theorem ox_67 (j : Nat) : zq_shX j 67 = some (.inl (7, [0, 0, 72])) := rfl
theorem kx_67_0 (j : Nat) : zq_kd (zq_shX j) 67 0 = some (7, 0) := rfl
theorem kx_67_1 (j : Nat) : zq_kd (zq_shX j) 67 1 = some (7, 0) := rfl
theorem kx_67_2 (j : Nat) : zq_kd (zq_shX j) 67 2 = some (7, 72) := rfl
theorem ax_68 (j : Nat) : zq_shX j 68 = some (.inr (2, 60)) := rfl
def zq_ho (sh : zq_H) (h : Nat) : Bool := decide (sh (h) = some (.inl (2, [0, h + 5, h + 6, h + 7, h + 8, 0, 0]))) && decide (sh (h + 1) = some (.inr (0, 10))) && decide (sh (h + 2) = some (.inr (0, 10))) && decide (sh (h + 3) = some (.inr (0, 10))) && decide (sh (h + 4) = some (.inr (0, 100)))
theorem zq_ho_all {sh : zq_H} {h : Nat} (g : zq_ho sh h = true) : sh (h) = some (.inl (2, [0, h + 5, h + 6, h + 7, h + 8, 0, 0])) ∧ sh (h + 1) = some (.inr (0, 10)) ∧ sh (h + 2) = some (.inr (0, 10)) ∧ sh (h + 3) = some (.inr (0, 10)) ∧ sh (h + 4) = some (.inr (0, 100)) := by
  unfold zq_ho at g
  simp only [Bool.and_eq_true, decide_eq_true_eq] at g
  obtain ⟨⟨⟨⟨g0, g1⟩, g2⟩, g3⟩, g4⟩ := g
  exact ⟨g0, g1, g2, g3, g4⟩
theorem zq_ho_s {sh : zq_H} {h : Nat} (g : zq_ho sh h = true) : sh h = some (.inl (2, [0, h + 5, h + 6, h + 7, h + 8, 0, 0])) := (zq_ho_all g).1
theorem zq_ho_a1 {sh : zq_H} {h : Nat} (g : zq_ho sh h = true) : sh (h + 1) = some (.inr (0, 10)) := (zq_ho_all g).2.1
theorem zq_ho_a2 {sh : zq_H} {h : Nat} (g : zq_ho sh h = true) : sh (h + 2) = some (.inr (0, 10)) := (zq_ho_all g).2.2.1
theorem zq_ho_a3 {sh : zq_H} {h : Nat} (g : zq_ho sh h = true) : sh (h + 3) = some (.inr (0, 10)) := (zq_ho_all g).2.2.2.1
theorem zq_ho_a4 {sh : zq_H} {h : Nat} (g : zq_ho sh h = true) : sh (h + 4) = some (.inr (0, 100)) := (zq_ho_all g).2.2.2.2
theorem zq_ho_k0 {sh : zq_H} {h : Nat} (g : zq_ho sh h = true) : zq_kd sh h 0 = some (2, 0) := by
  unfold zq_kd
  rw [zq_ho_s g]
  rfl
theorem zq_ho_k1 {sh : zq_H} {h : Nat} (g : zq_ho sh h = true) : zq_kd sh h 1 = some (2, h + 5) := by
  unfold zq_kd
  rw [zq_ho_s g]
  rfl
theorem zq_ho_k2 {sh : zq_H} {h : Nat} (g : zq_ho sh h = true) : zq_kd sh h 2 = some (2, h + 6) := by
  unfold zq_kd
  rw [zq_ho_s g]
  rfl
theorem zq_ho_k3 {sh : zq_H} {h : Nat} (g : zq_ho sh h = true) : zq_kd sh h 3 = some (2, h + 7) := by
  unfold zq_kd
  rw [zq_ho_s g]
  rfl
theorem zq_ho_k4 {sh : zq_H} {h : Nat} (g : zq_ho sh h = true) : zq_kd sh h 4 = some (2, h + 8) := by
  unfold zq_kd
  rw [zq_ho_s g]
  rfl
theorem zq_ho_k5 {sh : zq_H} {h : Nat} (g : zq_ho sh h = true) : zq_kd sh h 5 = some (2, 0) := by
  unfold zq_kd
  rw [zq_ho_s g]
  rfl
theorem zq_ho_k6 {sh : zq_H} {h : Nat} (g : zq_ho sh h = true) : zq_kd sh h 6 = some (2, 0) := by
  unfold zq_kd
  rw [zq_ho_s g]
  rfl
def zq_sc (sh : zq_H) (h : Nat) : Bool := decide (sh (h) = some (.inl (5, [0, h + 5, h + 6, h + 7, h + 8, h + 9, h + 10, 0, 0, h + 11, h + 12, 0, h + 13, 0, 0]))) && decide (sh (h + 1) = some (.inr (0, 5))) && decide (sh (h + 2) = some (.inr (0, 5))) && decide (sh (h + 3) = some (.inr (0, 5))) && decide (sh (h + 4) = some (.inr (0, 5))) && decide (sh (h + 5) = some (.inr (0, 3))) && decide (sh (h + 6) = some (.inr (0, 3))) && decide (sh (h + 7) = some (.inr (0, 12))) && decide (sh (h + 8) = some (.inr (0, 12))) && decide (sh (h + 9) = some (.inr (0, 12)))
theorem zq_sc_all {sh : zq_H} {h : Nat} (g : zq_sc sh h = true) : sh (h) = some (.inl (5, [0, h + 5, h + 6, h + 7, h + 8, h + 9, h + 10, 0, 0, h + 11, h + 12, 0, h + 13, 0, 0])) ∧ sh (h + 1) = some (.inr (0, 5)) ∧ sh (h + 2) = some (.inr (0, 5)) ∧ sh (h + 3) = some (.inr (0, 5)) ∧ sh (h + 4) = some (.inr (0, 5)) ∧ sh (h + 5) = some (.inr (0, 3)) ∧ sh (h + 6) = some (.inr (0, 3)) ∧ sh (h + 7) = some (.inr (0, 12)) ∧ sh (h + 8) = some (.inr (0, 12)) ∧ sh (h + 9) = some (.inr (0, 12)) := by
  unfold zq_sc at g
  simp only [Bool.and_eq_true, decide_eq_true_eq] at g
  obtain ⟨⟨⟨⟨⟨⟨⟨⟨⟨g0, g1⟩, g2⟩, g3⟩, g4⟩, g5⟩, g6⟩, g7⟩, g8⟩, g9⟩ := g
  exact ⟨g0, g1, g2, g3, g4, g5, g6, g7, g8, g9⟩
theorem zq_sc_s {sh : zq_H} {h : Nat} (g : zq_sc sh h = true) : sh h = some (.inl (5, [0, h + 5, h + 6, h + 7, h + 8, h + 9, h + 10, 0, 0, h + 11, h + 12, 0, h + 13, 0, 0])) := (zq_sc_all g).1
theorem zq_sc_a1 {sh : zq_H} {h : Nat} (g : zq_sc sh h = true) : sh (h + 1) = some (.inr (0, 5)) := (zq_sc_all g).2.1
theorem zq_sc_a2 {sh : zq_H} {h : Nat} (g : zq_sc sh h = true) : sh (h + 2) = some (.inr (0, 5)) := (zq_sc_all g).2.2.1
theorem zq_sc_a3 {sh : zq_H} {h : Nat} (g : zq_sc sh h = true) : sh (h + 3) = some (.inr (0, 5)) := (zq_sc_all g).2.2.2.1
theorem zq_sc_a4 {sh : zq_H} {h : Nat} (g : zq_sc sh h = true) : sh (h + 4) = some (.inr (0, 5)) := (zq_sc_all g).2.2.2.2.1
theorem zq_sc_a5 {sh : zq_H} {h : Nat} (g : zq_sc sh h = true) : sh (h + 5) = some (.inr (0, 3)) := (zq_sc_all g).2.2.2.2.2.1
theorem zq_sc_a6 {sh : zq_H} {h : Nat} (g : zq_sc sh h = true) : sh (h + 6) = some (.inr (0, 3)) := (zq_sc_all g).2.2.2.2.2.2.1
theorem zq_sc_a7 {sh : zq_H} {h : Nat} (g : zq_sc sh h = true) : sh (h + 7) = some (.inr (0, 12)) := (zq_sc_all g).2.2.2.2.2.2.2.1
theorem zq_sc_a8 {sh : zq_H} {h : Nat} (g : zq_sc sh h = true) : sh (h + 8) = some (.inr (0, 12)) := (zq_sc_all g).2.2.2.2.2.2.2.2.1
theorem zq_sc_a9 {sh : zq_H} {h : Nat} (g : zq_sc sh h = true) : sh (h + 9) = some (.inr (0, 12)) := (zq_sc_all g).2.2.2.2.2.2.2.2.2
theorem zq_sc_k0 {sh : zq_H} {h : Nat} (g : zq_sc sh h = true) : zq_kd sh h 0 = some (5, 0) := by
  unfold zq_kd
  rw [zq_sc_s g]
  rfl
theorem zq_sc_k1 {sh : zq_H} {h : Nat} (g : zq_sc sh h = true) : zq_kd sh h 1 = some (5, h + 5) := by
  unfold zq_kd
  rw [zq_sc_s g]
  rfl
theorem zq_sc_k2 {sh : zq_H} {h : Nat} (g : zq_sc sh h = true) : zq_kd sh h 2 = some (5, h + 6) := by
  unfold zq_kd
  rw [zq_sc_s g]
  rfl
theorem zq_sc_k3 {sh : zq_H} {h : Nat} (g : zq_sc sh h = true) : zq_kd sh h 3 = some (5, h + 7) := by
  unfold zq_kd
  rw [zq_sc_s g]
  rfl
theorem zq_sc_k4 {sh : zq_H} {h : Nat} (g : zq_sc sh h = true) : zq_kd sh h 4 = some (5, h + 8) := by
  unfold zq_kd
  rw [zq_sc_s g]
  rfl
theorem zq_sc_k5 {sh : zq_H} {h : Nat} (g : zq_sc sh h = true) : zq_kd sh h 5 = some (5, h + 9) := by
  unfold zq_kd
  rw [zq_sc_s g]
  rfl
theorem zq_sc_k6 {sh : zq_H} {h : Nat} (g : zq_sc sh h = true) : zq_kd sh h 6 = some (5, h + 10) := by
  unfold zq_kd
  rw [zq_sc_s g]
  rfl
theorem zq_sc_k7 {sh : zq_H} {h : Nat} (g : zq_sc sh h = true) : zq_kd sh h 7 = some (5, 0) := by
  unfold zq_kd
  rw [zq_sc_s g]
  rfl
theorem zq_sc_k8 {sh : zq_H} {h : Nat} (g : zq_sc sh h = true) : zq_kd sh h 8 = some (5, 0) := by
  unfold zq_kd
  rw [zq_sc_s g]
  rfl
theorem zq_sc_k9 {sh : zq_H} {h : Nat} (g : zq_sc sh h = true) : zq_kd sh h 9 = some (5, h + 11) := by
  unfold zq_kd
  rw [zq_sc_s g]
  rfl
theorem zq_sc_k10 {sh : zq_H} {h : Nat} (g : zq_sc sh h = true) : zq_kd sh h 10 = some (5, h + 12) := by
  unfold zq_kd
  rw [zq_sc_s g]
  rfl
theorem zq_sc_k11 {sh : zq_H} {h : Nat} (g : zq_sc sh h = true) : zq_kd sh h 11 = some (5, 0) := by
  unfold zq_kd
  rw [zq_sc_s g]
  rfl
theorem zq_sc_k12 {sh : zq_H} {h : Nat} (g : zq_sc sh h = true) : zq_kd sh h 12 = some (5, h + 13) := by
  unfold zq_kd
  rw [zq_sc_s g]
  rfl
theorem zq_sc_k13 {sh : zq_H} {h : Nat} (g : zq_sc sh h = true) : zq_kd sh h 13 = some (5, 0) := by
  unfold zq_kd
  rw [zq_sc_s g]
  rfl
theorem zq_sc_k14 {sh : zq_H} {h : Nat} (g : zq_sc sh h = true) : zq_kd sh h 14 = some (5, 0) := by
  unfold zq_kd
  rw [zq_sc_s g]
  rfl
def zq_ta (sh : zq_H) (h : Nat) : Bool := decide (sh (h) = some (.inl (7, [0, 0, h + 5]))) && decide (sh (h + 1) = some (.inr (2, 60)))
theorem zq_ta_all {sh : zq_H} {h : Nat} (g : zq_ta sh h = true) : sh (h) = some (.inl (7, [0, 0, h + 5])) ∧ sh (h + 1) = some (.inr (2, 60)) := by
  unfold zq_ta at g
  simp only [Bool.and_eq_true, decide_eq_true_eq] at g
  obtain ⟨g0, g1⟩ := g
  exact ⟨g0, g1⟩
theorem zq_ta_s {sh : zq_H} {h : Nat} (g : zq_ta sh h = true) : sh h = some (.inl (7, [0, 0, h + 5])) := (zq_ta_all g).1
theorem zq_ta_a1 {sh : zq_H} {h : Nat} (g : zq_ta sh h = true) : sh (h + 1) = some (.inr (2, 60)) := (zq_ta_all g).2
theorem zq_ta_k0 {sh : zq_H} {h : Nat} (g : zq_ta sh h = true) : zq_kd sh h 0 = some (7, 0) := by
  unfold zq_kd
  rw [zq_ta_s g]
  rfl
theorem zq_ta_k1 {sh : zq_H} {h : Nat} (g : zq_ta sh h = true) : zq_kd sh h 1 = some (7, 0) := by
  unfold zq_kd
  rw [zq_ta_s g]
  rfl
theorem zq_ta_k2 {sh : zq_H} {h : Nat} (g : zq_ta sh h = true) : zq_kd sh h 2 = some (7, h + 5) := by
  unfold zq_kd
  rw [zq_ta_s g]
  rfl
def zq_i5 (sh : zq_H) (h : Nat) : Bool := decide (sh h = some (.inr (0, 5)))
theorem zq_i5_s {sh : zq_H} {h : Nat} (g : zq_i5 sh h = true) : sh h = some (.inr (0, 5)) := of_decide_eq_true g
def zq_i100 (sh : zq_H) (h : Nat) : Bool := decide (sh h = some (.inr (0, 100)))
theorem zq_i100_s {sh : zq_H} {h : Nat} (g : zq_i100 sh h = true) : sh h = some (.inr (0, 100)) := of_decide_eq_true g
theorem zi5_of {sh : zq_H} {h : Nat} (g : sh h = some (.inr (0, 5))) : zq_i5 sh h = true := decide_eq_true g
theorem zi5_2 (j : Nat) : zq_i5 (zq_shX j) 2 = true := decide_eq_true rfl
theorem zi5_3 (j : Nat) : zq_i5 (zq_shX j) 3 = true := decide_eq_true rfl
theorem zi5_12 (j : Nat) : zq_i5 (zq_shX j) 12 = true := decide_eq_true rfl
theorem zi5_13 (j : Nat) : zq_i5 (zq_shX j) 13 = true := decide_eq_true rfl
theorem zi100_21 (j : Nat) : zq_i100 (zq_shX j) 21 = true := decide_eq_true rfl
theorem zsc_1 (j : Nat) : zq_sc (zq_shX j) 1 = true := by
  unfold zq_sc
  simp only [Bool.and_eq_true, decide_eq_true_eq]
  exact ⟨⟨⟨⟨⟨⟨⟨⟨⟨rfl, rfl⟩, rfl⟩, rfl⟩, rfl⟩, rfl⟩, rfl⟩, rfl⟩, rfl⟩, rfl⟩
theorem zsc_11 (j : Nat) : zq_sc (zq_shX j) 11 = true := by
  unfold zq_sc
  simp only [Bool.and_eq_true, decide_eq_true_eq]
  exact ⟨⟨⟨⟨⟨⟨⟨⟨⟨rfl, rfl⟩, rfl⟩, rfl⟩, rfl⟩, rfl⟩, rfl⟩, rfl⟩, rfl⟩, rfl⟩
theorem zho_23 (j : Nat) : zq_ho (zq_shX j) 23 = true := by
  unfold zq_ho
  simp only [Bool.and_eq_true, decide_eq_true_eq]
  exact ⟨⟨⟨⟨rfl, rfl⟩, rfl⟩, rfl⟩, rfl⟩
theorem zho_30 (j : Nat) : zq_ho (zq_shX j) 30 = true := by
  unfold zq_ho
  simp only [Bool.and_eq_true, decide_eq_true_eq]
  exact ⟨⟨⟨⟨rfl, rfl⟩, rfl⟩, rfl⟩, rfl⟩
theorem zta_57 (j : Nat) : zq_ta (zq_shX j) 57 = true := by
  unfold zq_ta
  simp only [Bool.and_eq_true, decide_eq_true_eq]
  exact ⟨rfl, rfl⟩
theorem zta_59 (j : Nat) : zq_ta (zq_shX j) 59 = true := by
  unfold zq_ta
  simp only [Bool.and_eq_true, decide_eq_true_eq]
  exact ⟨rfl, rfl⟩
theorem zta_61 (j : Nat) : zq_ta (zq_shX j) 61 = true := by
  unfold zq_ta
  simp only [Bool.and_eq_true, decide_eq_true_eq]
  exact ⟨rfl, rfl⟩
theorem zta_63 (j : Nat) : zq_ta (zq_shX j) 63 = true := by
  unfold zq_ta
  simp only [Bool.and_eq_true, decide_eq_true_eq]
  exact ⟨rfl, rfl⟩
theorem zta_65 (j : Nat) : zq_ta (zq_shX j) 65 = true := by
  unfold zq_ta
  simp only [Bool.and_eq_true, decide_eq_true_eq]
  exact ⟨rfl, rfl⟩
theorem zta_67 (j : Nat) : zq_ta (zq_shX j) 67 = true := by
  unfold zq_ta
  simp only [Bool.and_eq_true, decide_eq_true_eq]
  exact ⟨rfl, rfl⟩
theorem zn_0_0 : zq_nf 0 0 true (.array .int) := ⟨rfl, fun q h => by cases h; rfl⟩
theorem zn_0_1 : zq_nf 0 1 false .int := ⟨rfl, fun q h => by cases h; rfl⟩
theorem zn_0_2 : zq_nf 0 2 false .int := ⟨rfl, fun q h => by cases h; rfl⟩
theorem zn_0_3 : zq_nf 0 3 false .int := ⟨rfl, fun q h => by cases h; rfl⟩
theorem zn_0_4 : zq_nf 0 4 false .int := ⟨rfl, fun q h => by cases h; rfl⟩
theorem zn_1_0 : zq_nf 1 0 true (.object "MiddleSpeaks$Standing") := ⟨rfl, fun q h => by cases h; rfl⟩
theorem zn_1_1 : zq_nf 1 1 true (.array .int) := ⟨rfl, fun q h => by cases h; rfl⟩
theorem zn_1_2 : zq_nf 1 2 true (.array .int) := ⟨rfl, fun q h => by cases h; rfl⟩
theorem zn_1_3 : zq_nf 1 3 true (.array .int) := ⟨rfl, fun q h => by cases h; rfl⟩
theorem zn_1_4 : zq_nf 1 4 true (.array .int) := ⟨rfl, fun q h => by cases h; rfl⟩
theorem zn_1_5 : zq_nf 1 5 true (.array .int) := ⟨rfl, fun q h => by cases h; rfl⟩
theorem zn_1_6 : zq_nf 1 6 false .int := ⟨rfl, fun q h => by cases h; rfl⟩
theorem zn_2_0 : zq_nf 2 0 false .int := ⟨rfl, fun q h => by cases h; rfl⟩
theorem zn_2_1 : zq_nf 2 1 true (.array .int) := ⟨rfl, fun q h => by cases h; rfl⟩
theorem zn_2_2 : zq_nf 2 2 true (.array .int) := ⟨rfl, fun q h => by cases h; rfl⟩
theorem zn_2_3 : zq_nf 2 3 true (.array .int) := ⟨rfl, fun q h => by cases h; rfl⟩
theorem zn_2_4 : zq_nf 2 4 true (.array .int) := ⟨rfl, fun q h => by cases h; rfl⟩
theorem zn_2_5 : zq_nf 2 5 false .int := ⟨rfl, fun q h => by cases h; rfl⟩
theorem zn_2_6 : zq_nf 2 6 false .int := ⟨rfl, fun q h => by cases h; rfl⟩
theorem zn_3_0 : zq_nf 3 0 false (.array .int) := ⟨rfl, fun q h => by cases h; rfl⟩
theorem zn_3_1 : zq_nf 3 1 false .int := ⟨rfl, fun q h => by cases h; rfl⟩
theorem zn_3_2 : zq_nf 3 2 false .int := ⟨rfl, fun q h => by cases h; rfl⟩
theorem zn_3_3 : zq_nf 3 3 false (.object "MiddleSpeaks$House") := ⟨rfl, fun q h => by cases h; rfl⟩
theorem zn_4_0 : zq_nf 4 0 true (.object "MiddleSpeaks$Scene") := ⟨rfl, fun q h => by cases h; rfl⟩
theorem zn_4_1 : zq_nf 4 1 true (.array .int) := ⟨rfl, fun q h => by cases h; rfl⟩
theorem zn_5_0 : zq_nf 5 0 false .int := ⟨rfl, fun q h => by cases h; rfl⟩
theorem zn_5_1 : zq_nf 5 1 true (.array .int) := ⟨rfl, fun q h => by cases h; rfl⟩
theorem zn_5_2 : zq_nf 5 2 true (.array .int) := ⟨rfl, fun q h => by cases h; rfl⟩
theorem zn_5_3 : zq_nf 5 3 true (.array .int) := ⟨rfl, fun q h => by cases h; rfl⟩
theorem zn_5_4 : zq_nf 5 4 true (.array .int) := ⟨rfl, fun q h => by cases h; rfl⟩
theorem zn_5_5 : zq_nf 5 5 true (.array .int) := ⟨rfl, fun q h => by cases h; rfl⟩
theorem zn_5_6 : zq_nf 5 6 true (.array .int) := ⟨rfl, fun q h => by cases h; rfl⟩
theorem zn_5_7 : zq_nf 5 7 false .int := ⟨rfl, fun q h => by cases h; rfl⟩
theorem zn_5_8 : zq_nf 5 8 false .int := ⟨rfl, fun q h => by cases h; rfl⟩
theorem zn_5_9 : zq_nf 5 9 true (.array .int) := ⟨rfl, fun q h => by cases h; rfl⟩
theorem zn_5_10 : zq_nf 5 10 true (.array .int) := ⟨rfl, fun q h => by cases h; rfl⟩
theorem zn_5_11 : zq_nf 5 11 false .int := ⟨rfl, fun q h => by cases h; rfl⟩
theorem zn_5_12 : zq_nf 5 12 true (.array .int) := ⟨rfl, fun q h => by cases h; rfl⟩
theorem zn_5_13 : zq_nf 5 13 false .int := ⟨rfl, fun q h => by cases h; rfl⟩
theorem zn_5_14 : zq_nf 5 14 false .int := ⟨rfl, fun q h => by cases h; rfl⟩
theorem zn_6_0 : zq_nf 6 0 true (.object "MiddleSpeaks$Scene") := ⟨rfl, fun q h => by cases h; rfl⟩
theorem zn_6_1 : zq_nf 6 1 false (.object "MiddleSpeaks$House") := ⟨rfl, fun q h => by cases h; rfl⟩
theorem zn_6_2 : zq_nf 6 2 true (.array .int) := ⟨rfl, fun q h => by cases h; rfl⟩
theorem zn_6_3 : zq_nf 6 3 true (.array .int) := ⟨rfl, fun q h => by cases h; rfl⟩
theorem zn_6_4 : zq_nf 6 4 true (.array .int) := ⟨rfl, fun q h => by cases h; rfl⟩
theorem zn_6_5 : zq_nf 6 5 true (.array .int) := ⟨rfl, fun q h => by cases h; rfl⟩
theorem zn_6_6 : zq_nf 6 6 true (.array .boolean) := ⟨rfl, fun q h => by cases h; rfl⟩
theorem zn_7_0 : zq_nf 7 0 false .int := ⟨rfl, fun q h => by cases h; rfl⟩
theorem zn_7_1 : zq_nf 7 1 false .int := ⟨rfl, fun q h => by cases h; rfl⟩
theorem zn_7_2 : zq_nf 7 2 true (.array .long) := ⟨rfl, fun q h => by cases h; rfl⟩
theorem zn_8_0 : zq_nf 8 0 true (.object "MiddleSpeaks$Standing") := ⟨rfl, fun q h => by cases h; rfl⟩
theorem zn_9_0 : zq_nf 9 0 true (.object "MiddleSpeaks$Standing") := ⟨rfl, fun q h => by cases h; rfl⟩
theorem zn_9_1 : zq_nf 9 1 true (.array .int) := ⟨rfl, fun q h => by cases h; rfl⟩
theorem zn_9_2 : zq_nf 9 2 true (.array .int) := ⟨rfl, fun q h => by cases h; rfl⟩
theorem zn_9_3 : zq_nf 9 3 true (.array .int) := ⟨rfl, fun q h => by cases h; rfl⟩
theorem zn_9_4 : zq_nf 9 4 false .int := ⟨rfl, fun q h => by cases h; rfl⟩
theorem zn_9_5 : zq_nf 9 5 false .int := ⟨rfl, fun q h => by cases h; rfl⟩
theorem zn_9_6 : zq_nf 9 6 false .boolean := ⟨rfl, fun q h => by cases h; rfl⟩
theorem zn_9_7 : zq_nf 9 7 false .boolean := ⟨rfl, fun q h => by cases h; rfl⟩
theorem zn_10_0 : zq_nf 10 0 true (.object "MiddleSpeaks$Scene") := ⟨rfl, fun q h => by cases h; rfl⟩
theorem zn_10_1 : zq_nf 10 1 true (.object "MiddleSpeaks$Scene") := ⟨rfl, fun q h => by cases h; rfl⟩
theorem zn_10_2 : zq_nf 10 2 false .boolean := ⟨rfl, fun q h => by cases h; rfl⟩
theorem zn_10_3 : zq_nf 10 3 true (.array .int) := ⟨rfl, fun q h => by cases h; rfl⟩
theorem zn_10_4 : zq_nf 10 4 false .int := ⟨rfl, fun q h => by cases h; rfl⟩
theorem zn_10_5 : zq_nf 10 5 true (.array (.object "MiddleSpeaks$House")) := ⟨rfl, fun q h => by cases h; rfl⟩
theorem zn_10_6 : zq_nf 10 6 false .int := ⟨rfl, fun q h => by cases h; rfl⟩
theorem zn_10_7 : zq_nf 10 7 true (.object "MiddleSpeaks$House") := ⟨rfl, fun q h => by cases h; rfl⟩
theorem zn_10_8 : zq_nf 10 8 true (.object "MiddleSpeaks$HouseReader") := ⟨rfl, fun q h => by cases h; rfl⟩
theorem zn_10_9 : zq_nf 10 9 true (.object "MiddleSpeaks$Standing") := ⟨rfl, fun q h => by cases h; rfl⟩
theorem zn_10_10 : zq_nf 10 10 true (.object "MiddleSpeaks$Walk") := ⟨rfl, fun q h => by cases h; rfl⟩
theorem zn_10_11 : zq_nf 10 11 true (.object "MiddleSpeaks$Hearing") := ⟨rfl, fun q h => by cases h; rfl⟩
theorem zn_10_12 : zq_nf 10 12 true (.object "MiddleSpeaks$Turns") := ⟨rfl, fun q h => by cases h; rfl⟩
theorem zn_10_13 : zq_nf 10 13 true (.object "MiddleSpeaks$Orders") := ⟨rfl, fun q h => by cases h; rfl⟩
theorem zn_10_14 : zq_nf 10 14 true (.object "MiddleSpeaks$Acts") := ⟨rfl, fun q h => by cases h; rfl⟩
theorem zn_10_15 : zq_nf 10 15 true (.array (.object "MiddleSpeaks$Tape")) := ⟨rfl, fun q h => by cases h; rfl⟩
theorem zn_11_0 : zq_nf 11 0 false .int := ⟨rfl, fun q h => by cases h; rfl⟩
theorem zn_11_1 : zq_nf 11 1 false .int := ⟨rfl, fun q h => by cases h; rfl⟩
theorem zn_11_2 : zq_nf 11 2 false .int := ⟨rfl, fun q h => by cases h; rfl⟩
theorem zn_11_3 : zq_nf 11 3 false .int := ⟨rfl, fun q h => by cases h; rfl⟩
theorem zn_11_4 : zq_nf 11 4 true (.array .int) := ⟨rfl, fun q h => by cases h; rfl⟩
theorem zn_11_5 : zq_nf 11 5 true (.array .int) := ⟨rfl, fun q h => by cases h; rfl⟩
theorem zn_11_6 : zq_nf 11 6 true (.array .int) := ⟨rfl, fun q h => by cases h; rfl⟩
theorem zn_11_7 : zq_nf 11 7 true (.array .int) := ⟨rfl, fun q h => by cases h; rfl⟩
theorem zn_11_8 : zq_nf 11 8 true (.array .int) := ⟨rfl, fun q h => by cases h; rfl⟩
theorem zn_11_9 : zq_nf 11 9 false .int := ⟨rfl, fun q h => by cases h; rfl⟩
theorem zn_11_10 : zq_nf 11 10 false .int := ⟨rfl, fun q h => by cases h; rfl⟩
theorem zn_11_11 : zq_nf 11 11 false .int := ⟨rfl, fun q h => by cases h; rfl⟩
theorem zn_11_12 : zq_nf 11 12 false .int := ⟨rfl, fun q h => by cases h; rfl⟩
theorem zn_11_13 : zq_nf 11 13 false .int := ⟨rfl, fun q h => by cases h; rfl⟩
theorem zn_11_14 : zq_nf 11 14 false .int := ⟨rfl, fun q h => by cases h; rfl⟩
theorem zn_11_15 : zq_nf 11 15 true (.array .int) := ⟨rfl, fun q h => by cases h; rfl⟩
theorem zn_11_16 : zq_nf 11 16 true (.array .int) := ⟨rfl, fun q h => by cases h; rfl⟩
theorem zn_11_17 : zq_nf 11 17 true (.array .int) := ⟨rfl, fun q h => by cases h; rfl⟩
theorem zn_11_18 : zq_nf 11 18 true (.array .int) := ⟨rfl, fun q h => by cases h; rfl⟩
theorem zn_11_19 : zq_nf 11 19 true (.array .int) := ⟨rfl, fun q h => by cases h; rfl⟩
theorem zn_11_20 : zq_nf 11 20 true (.array .int) := ⟨rfl, fun q h => by cases h; rfl⟩
theorem zn_11_21 : zq_nf 11 21 true (.array .int) := ⟨rfl, fun q h => by cases h; rfl⟩
theorem zn_11_22 : zq_nf 11 22 true (.array .int) := ⟨rfl, fun q h => by cases h; rfl⟩
theorem zn_11_23 : zq_nf 11 23 false .int := ⟨rfl, fun q h => by cases h; rfl⟩
theorem zn_11_24 : zq_nf 11 24 false .int := ⟨rfl, fun q h => by cases h; rfl⟩
theorem zn_11_25 : zq_nf 11 25 false .int := ⟨rfl, fun q h => by cases h; rfl⟩
theorem zn_11_26 : zq_nf 11 26 true (.array .int) := ⟨rfl, fun q h => by cases h; rfl⟩
theorem zn_11_27 : zq_nf 11 27 true (.array .boolean) := ⟨rfl, fun q h => by cases h; rfl⟩
theorem zn_11_28 : zq_nf 11 28 true (.array .int) := ⟨rfl, fun q h => by cases h; rfl⟩
theorem zn_11_29 : zq_nf 11 29 true (.array .boolean) := ⟨rfl, fun q h => by cases h; rfl⟩
theorem zn_11_30 : zq_nf 11 30 true (.array .boolean) := ⟨rfl, fun q h => by cases h; rfl⟩
theorem zn_11_31 : zq_nf 11 31 true (.array .boolean) := ⟨rfl, fun q h => by cases h; rfl⟩
theorem zn_11_32 : zq_nf 11 32 true (.array .int) := ⟨rfl, fun q h => by cases h; rfl⟩
theorem zn_11_33 : zq_nf 11 33 true (.array .int) := ⟨rfl, fun q h => by cases h; rfl⟩
theorem zn_11_34 : zq_nf 11 34 true (.array .boolean) := ⟨rfl, fun q h => by cases h; rfl⟩
theorem zn_11_35 : zq_nf 11 35 true (.array .boolean) := ⟨rfl, fun q h => by cases h; rfl⟩
theorem zn_11_36 : zq_nf 11 36 false .int := ⟨rfl, fun q h => by cases h; rfl⟩
theorem zn_11_37 : zq_nf 11 37 true (.array .int) := ⟨rfl, fun q h => by cases h; rfl⟩
theorem zn_11_38 : zq_nf 11 38 true (.array .int) := ⟨rfl, fun q h => by cases h; rfl⟩
theorem zn_11_39 : zq_nf 11 39 true (.array .int) := ⟨rfl, fun q h => by cases h; rfl⟩
theorem zn_11_40 : zq_nf 11 40 false .long := ⟨rfl, fun q h => by cases h; rfl⟩
theorem zn_11_41 : zq_nf 11 41 false .long := ⟨rfl, fun q h => by cases h; rfl⟩
theorem zn_11_42 : zq_nf 11 42 false .int := ⟨rfl, fun q h => by cases h; rfl⟩
theorem zn_11_43 : zq_nf 11 43 true (.array .int) := ⟨rfl, fun q h => by cases h; rfl⟩
theorem zn_11_44 : zq_nf 11 44 true (.array .int) := ⟨rfl, fun q h => by cases h; rfl⟩
theorem zn_11_45 : zq_nf 11 45 false .boolean := ⟨rfl, fun q h => by cases h; rfl⟩
theorem zn_11_46 : zq_nf 11 46 false .int := ⟨rfl, fun q h => by cases h; rfl⟩
theorem zn_11_47 : zq_nf 11 47 false .int := ⟨rfl, fun q h => by cases h; rfl⟩
theorem zn_11_48 : zq_nf 11 48 false .int := ⟨rfl, fun q h => by cases h; rfl⟩
theorem zn_11_49 : zq_nf 11 49 false .int := ⟨rfl, fun q h => by cases h; rfl⟩
theorem zn_11_50 : zq_nf 11 50 false .int := ⟨rfl, fun q h => by cases h; rfl⟩
theorem zn_11_51 : zq_nf 11 51 false .int := ⟨rfl, fun q h => by cases h; rfl⟩
theorem zn_11_52 : zq_nf 11 52 false .int := ⟨rfl, fun q h => by cases h; rfl⟩
theorem zn_11_53 : zq_nf 11 53 true (.array .int) := ⟨rfl, fun q h => by cases h; rfl⟩
theorem zn_11_54 : zq_nf 11 54 true (.array .int) := ⟨rfl, fun q h => by cases h; rfl⟩
theorem zn_11_55 : zq_nf 11 55 true (.array .int) := ⟨rfl, fun q h => by cases h; rfl⟩
theorem zn_11_56 : zq_nf 11 56 true (.array .int) := ⟨rfl, fun q h => by cases h; rfl⟩
theorem zn_11_57 : zq_nf 11 57 true (.array .int) := ⟨rfl, fun q h => by cases h; rfl⟩
theorem zn_11_58 : zq_nf 11 58 true (.array .int) := ⟨rfl, fun q h => by cases h; rfl⟩
theorem zn_11_59 : zq_nf 11 59 true (.array .int) := ⟨rfl, fun q h => by cases h; rfl⟩
theorem zn_11_60 : zq_nf 11 60 true (.array .int) := ⟨rfl, fun q h => by cases h; rfl⟩
theorem zn_11_61 : zq_nf 11 61 false .int := ⟨rfl, fun q h => by cases h; rfl⟩
theorem zn_11_62 : zq_nf 11 62 true (.array .int) := ⟨rfl, fun q h => by cases h; rfl⟩
theorem zn_11_63 : zq_nf 11 63 true (.array .int) := ⟨rfl, fun q h => by cases h; rfl⟩
theorem zn_11_64 : zq_nf 11 64 true (.array .int) := ⟨rfl, fun q h => by cases h; rfl⟩
theorem zn_11_65 : zq_nf 11 65 true (.array .long) := ⟨rfl, fun q h => by cases h; rfl⟩
theorem zn_11_66 : zq_nf 11 66 true (.array .long) := ⟨rfl, fun q h => by cases h; rfl⟩
end
