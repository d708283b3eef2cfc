section
/-- a private method of a class that the tables say can be made, by its rows of tables_1 -/
def lw_okq (q : MethodName × Nat) : Prop := (q.1.cls ≠ "java/lang/invoke/MethodHandle" ∧ q.1.cls ≠ "java/lang/invoke/VarHandle") ∧ Cond.instantiable q.1.cls q.2 ∈ tables_1 ∧ Cond.privateMethod q.1 ∈ tables_1 ∧ Cond.instanceMethod q.1 ∈ tables_1
theorem lw_p0 : lw_okq (⟨"MiddleSpeaks", "isPerson", "(I)Z"⟩, 16) := ⟨⟨by decide +kernel, by decide +kernel⟩, List.mem_of_getElem? (i := 23) (by decide +kernel), List.mem_of_getElem? (i := 395) (by decide +kernel), List.mem_of_getElem? (i := 396) (by decide +kernel)⟩
theorem lw_p1 : lw_okq (⟨"MiddleSpeaks", "maySpeakNow", "(I)Z"⟩, 16) := ⟨⟨by decide +kernel, by decide +kernel⟩, List.mem_of_getElem? (i := 23) (by decide +kernel), List.mem_of_getElem? (i := 399) (by decide +kernel), List.mem_of_getElem? (i := 400) (by decide +kernel)⟩
theorem lw_p2 : lw_okq (⟨"MiddleSpeaks", "speakersNow", "(I)I"⟩, 16) := ⟨⟨by decide +kernel, by decide +kernel⟩, List.mem_of_getElem? (i := 23) (by decide +kernel), List.mem_of_getElem? (i := 403) (by decide +kernel), List.mem_of_getElem? (i := 404) (by decide +kernel)⟩
theorem lw_p3 : lw_okq (⟨"MiddleSpeaks", "holding", "()LMiddleSpeaks$House;"⟩, 16) := ⟨⟨by decide +kernel, by decide +kernel⟩, List.mem_of_getElem? (i := 23) (by decide +kernel), List.mem_of_getElem? (i := 407) (by decide +kernel), List.mem_of_getElem? (i := 408) (by decide +kernel)⟩
theorem lw_p4 : lw_okq (⟨"MiddleSpeaks$Standing", "lineUp", "(I[I)I"⟩, 7) := ⟨⟨by decide +kernel, by decide +kernel⟩, List.mem_of_getElem? (i := 171) (by decide +kernel), List.mem_of_getElem? (i := 426) (by decide +kernel), List.mem_of_getElem? (i := 427) (by decide +kernel)⟩
theorem lw_p5 : lw_okq (⟨"MiddleSpeaks$Standing", "withoutNear", "(II[I)I"⟩, 7) := ⟨⟨by decide +kernel, by decide +kernel⟩, List.mem_of_getElem? (i := 171) (by decide +kernel), List.mem_of_getElem? (i := 433) (by decide +kernel), List.mem_of_getElem? (i := 434) (by decide +kernel)⟩
theorem lw_p6 : lw_okq (⟨"MiddleSpeaks$Standing", "isNearAnother", "(II[I)Z"⟩, 7) := ⟨⟨by decide +kernel, by decide +kernel⟩, List.mem_of_getElem? (i := 171) (by decide +kernel), List.mem_of_getElem? (i := 437) (by decide +kernel), List.mem_of_getElem? (i := 438) (by decide +kernel)⟩
theorem lw_p7 : lw_okq (⟨"MiddleSpeaks$HouseReader", "readClause", "()Z"⟩, 4) := ⟨⟨by decide +kernel, by decide +kernel⟩, List.mem_of_getElem? (i := 150) (by decide +kernel), List.mem_of_getElem? (i := 469) (by decide +kernel), List.mem_of_getElem? (i := 470) (by decide +kernel)⟩
theorem lw_p8 : lw_okq (⟨"MiddleSpeaks$HouseReader", "readWord", "()I"⟩, 4) := ⟨⟨by decide +kernel, by decide +kernel⟩, List.mem_of_getElem? (i := 150) (by decide +kernel), List.mem_of_getElem? (i := 473) (by decide +kernel), List.mem_of_getElem? (i := 474) (by decide +kernel)⟩
theorem lw_p9 : lw_okq (⟨"MiddleSpeaks$HouseReader", "eatAll", "(Ljava/lang/String;)Z"⟩, 4) := ⟨⟨by decide +kernel, by decide +kernel⟩, List.mem_of_getElem? (i := 150) (by decide +kernel), List.mem_of_getElem? (i := 478) (by decide +kernel), List.mem_of_getElem? (i := 479) (by decide +kernel)⟩
theorem lw_p10 : lw_okq (⟨"MiddleSpeaks$HouseReader", "eat", "(I)Z"⟩, 4) := ⟨⟨by decide +kernel, by decide +kernel⟩, List.mem_of_getElem? (i := 150) (by decide +kernel), List.mem_of_getElem? (i := 530) (by decide +kernel), List.mem_of_getElem? (i := 531) (by decide +kernel)⟩
theorem lw_p11 : lw_okq (⟨"MiddleSpeaks$HouseReader", "readNumber", "()I"⟩, 4) := ⟨⟨by decide +kernel, by decide +kernel⟩, List.mem_of_getElem? (i := 150) (by decide +kernel), List.mem_of_getElem? (i := 537) (by decide +kernel), List.mem_of_getElem? (i := 538) (by decide +kernel)⟩
theorem lw_p12 : lw_okq (⟨"MiddleSpeaks$HouseReader", "eatOneOf", "(Ljava/lang/String;)I"⟩, 4) := ⟨⟨by decide +kernel, by decide +kernel⟩, List.mem_of_getElem? (i := 150) (by decide +kernel), List.mem_of_getElem? (i := 542) (by decide +kernel), List.mem_of_getElem? (i := 543) (by decide +kernel)⟩
theorem lw_p13 : lw_okq (⟨"MiddleSpeaks$HouseReader", "readAny", "(I)Z"⟩, 4) := ⟨⟨by decide +kernel, by decide +kernel⟩, List.mem_of_getElem? (i := 150) (by decide +kernel), List.mem_of_getElem? (i := 603) (by decide +kernel), List.mem_of_getElem? (i := 604) (by decide +kernel)⟩
theorem lw_p14 : lw_okq (⟨"MiddleSpeaks$HouseReader", "readAll", "(I)Z"⟩, 4) := ⟨⟨by decide +kernel, by decide +kernel⟩, List.mem_of_getElem? (i := 150) (by decide +kernel), List.mem_of_getElem? (i := 607) (by decide +kernel), List.mem_of_getElem? (i := 608) (by decide +kernel)⟩
theorem lw_p15 : lw_okq (⟨"MiddleSpeaks$HouseReader", "readOne", "(I)Z"⟩, 4) := ⟨⟨by decide +kernel, by decide +kernel⟩, List.mem_of_getElem? (i := 150) (by decide +kernel), List.mem_of_getElem? (i := 611) (by decide +kernel), List.mem_of_getElem? (i := 612) (by decide +kernel)⟩
def lw_privs_1 : List (MethodName × Nat) := [(⟨"MiddleSpeaks", "isPerson", "(I)Z"⟩, 16), (⟨"MiddleSpeaks", "maySpeakNow", "(I)Z"⟩, 16), (⟨"MiddleSpeaks", "speakersNow", "(I)I"⟩, 16), (⟨"MiddleSpeaks", "holding", "()LMiddleSpeaks$House;"⟩, 16), (⟨"MiddleSpeaks$Standing", "lineUp", "(I[I)I"⟩, 7), (⟨"MiddleSpeaks$Standing", "withoutNear", "(II[I)I"⟩, 7), (⟨"MiddleSpeaks$Standing", "isNearAnother", "(II[I)Z"⟩, 7), (⟨"MiddleSpeaks$HouseReader", "readClause", "()Z"⟩, 4), (⟨"MiddleSpeaks$HouseReader", "readWord", "()I"⟩, 4), (⟨"MiddleSpeaks$HouseReader", "eatAll", "(Ljava/lang/String;)Z"⟩, 4), (⟨"MiddleSpeaks$HouseReader", "eat", "(I)Z"⟩, 4), (⟨"MiddleSpeaks$HouseReader", "readNumber", "()I"⟩, 4), (⟨"MiddleSpeaks$HouseReader", "eatOneOf", "(Ljava/lang/String;)I"⟩, 4), (⟨"MiddleSpeaks$HouseReader", "readAny", "(I)Z"⟩, 4), (⟨"MiddleSpeaks$HouseReader", "readAll", "(I)Z"⟩, 4), (⟨"MiddleSpeaks$HouseReader", "readOne", "(I)Z"⟩, 4)]
theorem lw_r1 : ∀ q ∈ lw_privs_1, lw_okq q := List.forall_mem_cons.mpr ⟨lw_p0, List.forall_mem_cons.mpr ⟨lw_p1, List.forall_mem_cons.mpr ⟨lw_p2, List.forall_mem_cons.mpr ⟨lw_p3, List.forall_mem_cons.mpr ⟨lw_p4, List.forall_mem_cons.mpr ⟨lw_p5, List.forall_mem_cons.mpr ⟨lw_p6, List.forall_mem_cons.mpr ⟨lw_p7, List.forall_mem_cons.mpr ⟨lw_p8, List.forall_mem_cons.mpr ⟨lw_p9, List.forall_mem_cons.mpr ⟨lw_p10, List.forall_mem_cons.mpr ⟨lw_p11, List.forall_mem_cons.mpr ⟨lw_p12, List.forall_mem_cons.mpr ⟨lw_p13, List.forall_mem_cons.mpr ⟨lw_p14, List.forall_mem_cons.mpr ⟨lw_p15, fun _ h => absurd h List.not_mem_nil⟩⟩⟩⟩⟩⟩⟩⟩⟩⟩⟩⟩⟩⟩⟩⟩
theorem lw_p16 : lw_okq (⟨"MiddleSpeaks$HouseReader", "readTest", "()Z"⟩, 4) := ⟨⟨by decide +kernel, by decide +kernel⟩, List.mem_of_getElem? (i := 150) (by decide +kernel), List.mem_of_getElem? (i := 615) (by decide +kernel), List.mem_of_getElem? (i := 616) (by decide +kernel)⟩
theorem lw_p17 : lw_okq (⟨"MiddleSpeaks", "priceNow", "(II)I"⟩, 16) := ⟨⟨by decide +kernel, by decide +kernel⟩, List.mem_of_getElem? (i := 23) (by decide +kernel), List.mem_of_getElem? (i := 643) (by decide +kernel), List.mem_of_getElem? (i := 644) (by decide +kernel)⟩
theorem lw_p18 : lw_okq (⟨"MiddleSpeaks", "numberWith", "(I)I"⟩, 16) := ⟨⟨by decide +kernel, by decide +kernel⟩, List.mem_of_getElem? (i := 23) (by decide +kernel), List.mem_of_getElem? (i := 647) (by decide +kernel), List.mem_of_getElem? (i := 648) (by decide +kernel)⟩
theorem lw_p19 : lw_okq (⟨"MiddleSpeaks$Standing", "setFacts", "(IIII)V"⟩, 7) := ⟨⟨by decide +kernel, by decide +kernel⟩, List.mem_of_getElem? (i := 171) (by decide +kernel), List.mem_of_getElem? (i := 661) (by decide +kernel), List.mem_of_getElem? (i := 662) (by decide +kernel)⟩
theorem lw_p20 : lw_okq (⟨"MiddleSpeaks$House", "holdsIn", "(I[I)Z"⟩, 7) := ⟨⟨by decide +kernel, by decide +kernel⟩, List.mem_of_getElem? (i := 120) (by decide +kernel), List.mem_of_getElem? (i := 669) (by decide +kernel), List.mem_of_getElem? (i := 670) (by decide +kernel)⟩
theorem lw_p21 : lw_okq (⟨"MiddleSpeaks", "isBarredNow", "(II)Z"⟩, 16) := ⟨⟨by decide +kernel, by decide +kernel⟩, List.mem_of_getElem? (i := 23) (by decide +kernel), List.mem_of_getElem? (i := 676) (by decide +kernel), List.mem_of_getElem? (i := 677) (by decide +kernel)⟩
theorem lw_p22 : lw_okq (⟨"MiddleSpeaks", "lookAhead", "()V"⟩, 16) := ⟨⟨by decide +kernel, by decide +kernel⟩, List.mem_of_getElem? (i := 23) (by decide +kernel), List.mem_of_getElem? (i := 714) (by decide +kernel), List.mem_of_getElem? (i := 715) (by decide +kernel)⟩
theorem lw_p23 : lw_okq (⟨"MiddleSpeaks$Walk", "begin", "(Z)V"⟩, 8) := ⟨⟨by decide +kernel, by decide +kernel⟩, List.mem_of_getElem? (i := 203) (by decide +kernel), List.mem_of_getElem? (i := 731) (by decide +kernel), List.mem_of_getElem? (i := 732) (by decide +kernel)⟩
theorem lw_p24 : lw_okq (⟨"MiddleSpeaks$Walk", "leastWith", "(II)I"⟩, 8) := ⟨⟨by decide +kernel, by decide +kernel⟩, List.mem_of_getElem? (i := 203) (by decide +kernel), List.mem_of_getElem? (i := 743) (by decide +kernel), List.mem_of_getElem? (i := 744) (by decide +kernel)⟩
theorem lw_p25 : lw_okq (⟨"MiddleSpeaks$Walk", "tellSpeakers", "(I)V"⟩, 8) := ⟨⟨by decide +kernel, by decide +kernel⟩, List.mem_of_getElem? (i := 203) (by decide +kernel), List.mem_of_getElem? (i := 747) (by decide +kernel), List.mem_of_getElem? (i := 748) (by decide +kernel)⟩
theorem lw_p26 : lw_okq (⟨"MiddleSpeaks$Walk", "goOn", "()V"⟩, 8) := ⟨⟨by decide +kernel, by decide +kernel⟩, List.mem_of_getElem? (i := 203) (by decide +kernel), List.mem_of_getElem? (i := 760) (by decide +kernel), List.mem_of_getElem? (i := 761) (by decide +kernel)⟩
theorem lw_p27 : lw_okq (⟨"MiddleSpeaks$Walk", "leave", "(I)V"⟩, 8) := ⟨⟨by decide +kernel, by decide +kernel⟩, List.mem_of_getElem? (i := 203) (by decide +kernel), List.mem_of_getElem? (i := 764) (by decide +kernel), List.mem_of_getElem? (i := 765) (by decide +kernel)⟩
theorem lw_p28 : lw_okq (⟨"MiddleSpeaks$Standing", "numberAt", "(II)I"⟩, 7) := ⟨⟨by decide +kernel, by decide +kernel⟩, List.mem_of_getElem? (i := 171) (by decide +kernel), List.mem_of_getElem? (i := 772) (by decide +kernel), List.mem_of_getElem? (i := 773) (by decide +kernel)⟩
theorem lw_p29 : lw_okq (⟨"MiddleSpeaks$Walk", "carried", "(III)I"⟩, 8) := ⟨⟨by decide +kernel, by decide +kernel⟩, List.mem_of_getElem? (i := 203) (by decide +kernel), List.mem_of_getElem? (i := 779) (by decide +kernel), List.mem_of_getElem? (i := 780) (by decide +kernel)⟩
theorem lw_p30 : lw_okq (⟨"MiddleSpeaks$Walk", "takeNext", "()Z"⟩, 8) := ⟨⟨by decide +kernel, by decide +kernel⟩, List.mem_of_getElem? (i := 203) (by decide +kernel), List.mem_of_getElem? (i := 788) (by decide +kernel), List.mem_of_getElem? (i := 789) (by decide +kernel)⟩
theorem lw_p31 : lw_okq (⟨"MiddleSpeaks$Walk", "whoCanSpeak", "(I)I"⟩, 8) := ⟨⟨by decide +kernel, by decide +kernel⟩, List.mem_of_getElem? (i := 203) (by decide +kernel), List.mem_of_getElem? (i := 808) (by decide +kernel), List.mem_of_getElem? (i := 809) (by decide +kernel)⟩
def lw_privs_2 : List (MethodName × Nat) := [(⟨"MiddleSpeaks$HouseReader", "readTest", "()Z"⟩, 4), (⟨"MiddleSpeaks", "priceNow", "(II)I"⟩, 16), (⟨"MiddleSpeaks", "numberWith", "(I)I"⟩, 16), (⟨"MiddleSpeaks$Standing", "setFacts", "(IIII)V"⟩, 7), (⟨"MiddleSpeaks$House", "holdsIn", "(I[I)Z"⟩, 7), (⟨"MiddleSpeaks", "isBarredNow", "(II)Z"⟩, 16), (⟨"MiddleSpeaks", "lookAhead", "()V"⟩, 16), (⟨"MiddleSpeaks$Walk", "begin", "(Z)V"⟩, 8), (⟨"MiddleSpeaks$Walk", "leastWith", "(II)I"⟩, 8), (⟨"MiddleSpeaks$Walk", "tellSpeakers", "(I)V"⟩, 8), (⟨"MiddleSpeaks$Walk", "goOn", "()V"⟩, 8), (⟨"MiddleSpeaks$Walk", "leave", "(I)V"⟩, 8), (⟨"MiddleSpeaks$Standing", "numberAt", "(II)I"⟩, 7), (⟨"MiddleSpeaks$Walk", "carried", "(III)I"⟩, 8), (⟨"MiddleSpeaks$Walk", "takeNext", "()Z"⟩, 8), (⟨"MiddleSpeaks$Walk", "whoCanSpeak", "(I)I"⟩, 8)]
theorem lw_r2 : ∀ q ∈ lw_privs_2, lw_okq q := List.forall_mem_cons.mpr ⟨lw_p16, List.forall_mem_cons.mpr ⟨lw_p17, List.forall_mem_cons.mpr ⟨lw_p18, List.forall_mem_cons.mpr ⟨lw_p19, List.forall_mem_cons.mpr ⟨lw_p20, List.forall_mem_cons.mpr ⟨lw_p21, List.forall_mem_cons.mpr ⟨lw_p22, List.forall_mem_cons.mpr ⟨lw_p23, List.forall_mem_cons.mpr ⟨lw_p24, List.forall_mem_cons.mpr ⟨lw_p25, List.forall_mem_cons.mpr ⟨lw_p26, List.forall_mem_cons.mpr ⟨lw_p27, List.forall_mem_cons.mpr ⟨lw_p28, List.forall_mem_cons.mpr ⟨lw_p29, List.forall_mem_cons.mpr ⟨lw_p30, List.forall_mem_cons.mpr ⟨lw_p31, fun _ h => absurd h List.not_mem_nil⟩⟩⟩⟩⟩⟩⟩⟩⟩⟩⟩⟩⟩⟩⟩⟩
theorem lw_p32 : lw_okq (⟨"MiddleSpeaks$Hearing", "goOn", "()V"⟩, 7) := ⟨⟨by decide +kernel, by decide +kernel⟩, List.mem_of_getElem? (i := 234) (by decide +kernel), List.mem_of_getElem? (i := 828) (by decide +kernel), List.mem_of_getElem? (i := 829) (by decide +kernel)⟩
theorem lw_p33 : lw_okq (⟨"MiddleSpeaks$Hearing", "leave", "(I)V"⟩, 7) := ⟨⟨by decide +kernel, by decide +kernel⟩, List.mem_of_getElem? (i := 234) (by decide +kernel), List.mem_of_getElem? (i := 832) (by decide +kernel), List.mem_of_getElem? (i := 833) (by decide +kernel)⟩
theorem lw_p34 : lw_okq (⟨"MiddleSpeaks$Hearing", "tellSpeakers", "(I)V"⟩, 7) := ⟨⟨by decide +kernel, by decide +kernel⟩, List.mem_of_getElem? (i := 234) (by decide +kernel), List.mem_of_getElem? (i := 841) (by decide +kernel), List.mem_of_getElem? (i := 842) (by decide +kernel)⟩
theorem lw_p35 : lw_okq (⟨"MiddleSpeaks$Hearing", "sayAll", "(I)Z"⟩, 7) := ⟨⟨by decide +kernel, by decide +kernel⟩, List.mem_of_getElem? (i := 234) (by decide +kernel), List.mem_of_getElem? (i := 847) (by decide +kernel), List.mem_of_getElem? (i := 848) (by decide +kernel)⟩
theorem lw_p36 : lw_okq (⟨"MiddleSpeaks$Hearing", "saidIn", "(I)I"⟩, 7) := ⟨⟨by decide +kernel, by decide +kernel⟩, List.mem_of_getElem? (i := 234) (by decide +kernel), List.mem_of_getElem? (i := 851) (by decide +kernel), List.mem_of_getElem? (i := 852) (by decide +kernel)⟩
theorem lw_p37 : lw_okq (⟨"MiddleSpeaks$Hearing", "knowingThen", "(I)I"⟩, 7) := ⟨⟨by decide +kernel, by decide +kernel⟩, List.mem_of_getElem? (i := 234) (by decide +kernel), List.mem_of_getElem? (i := 856) (by decide +kernel), List.mem_of_getElem? (i := 857) (by decide +kernel)⟩
theorem lw_p38 : lw_okq (⟨"MiddleSpeaks$Turns", "wins", "(IIIIIZ)Z"⟩, 1) := ⟨⟨by decide +kernel, by decide +kernel⟩, List.mem_of_getElem? (i := 262) (by decide +kernel), List.mem_of_getElem? (i := 876) (by decide +kernel), List.mem_of_getElem? (i := 877) (by decide +kernel)⟩
theorem lw_p39 : lw_okq (⟨"MiddleSpeaks$Orders", "fittingFrom", "(II)I"⟩, 2) := ⟨⟨by decide +kernel, by decide +kernel⟩, List.mem_of_getElem? (i := 272) (by decide +kernel), List.mem_of_getElem? (i := 900) (by decide +kernel), List.mem_of_getElem? (i := 901) (by decide +kernel)⟩
theorem lw_p40 : lw_okq (⟨"MiddleSpeaks$Orders", "goesWithAll", "()Z"⟩, 2) := ⟨⟨by decide +kernel, by decide +kernel⟩, List.mem_of_getElem? (i := 272) (by decide +kernel), List.mem_of_getElem? (i := 904) (by decide +kernel), List.mem_of_getElem? (i := 905) (by decide +kernel)⟩
theorem lw_p41 : lw_okq (⟨"MiddleSpeaks$Orders", "isMiddle", "(II)Z"⟩, 2) := ⟨⟨by decide +kernel, by decide +kernel⟩, List.mem_of_getElem? (i := 272) (by decide +kernel), List.mem_of_getElem? (i := 908) (by decide +kernel), List.mem_of_getElem? (i := 909) (by decide +kernel)⟩
theorem lw_p42 : lw_okq (⟨"MiddleSpeaks$Turns", "sharesSpeaking", "(IIIIJ)J"⟩, 1) := ⟨⟨by decide +kernel, by decide +kernel⟩, List.mem_of_getElem? (i := 262) (by decide +kernel), List.mem_of_getElem? (i := 923) (by decide +kernel), List.mem_of_getElem? (i := 924) (by decide +kernel)⟩
theorem lw_p43 : lw_okq (⟨"MiddleSpeaks$Turns", "waysOn", "(I)I"⟩, 1) := ⟨⟨by decide +kernel, by decide +kernel⟩, List.mem_of_getElem? (i := 262) (by decide +kernel), List.mem_of_getElem? (i := 927) (by decide +kernel), List.mem_of_getElem? (i := 928) (by decide +kernel)⟩
theorem lw_p44 : lw_okq (⟨"MiddleSpeaks$Standing", "isSaid", "(II)Z"⟩, 7) := ⟨⟨by decide +kernel, by decide +kernel⟩, List.mem_of_getElem? (i := 171) (by decide +kernel), List.mem_of_getElem? (i := 947) (by decide +kernel), List.mem_of_getElem? (i := 948) (by decide +kernel)⟩
theorem lw_p45 : lw_okq (⟨"MiddleSpeaks", "firstOtherwise", "(LMiddleSpeaks$Tape;I)I"⟩, 16) := ⟨⟨by decide +kernel, by decide +kernel⟩, List.mem_of_getElem? (i := 23) (by decide +kernel), List.mem_of_getElem? (i := 964) (by decide +kernel), List.mem_of_getElem? (i := 965) (by decide +kernel)⟩
theorem lw_p46 : lw_okq (⟨"MiddleSpeaks$Acts", "doFrom", "(IIII)I"⟩, 5) := ⟨⟨by decide +kernel, by decide +kernel⟩, List.mem_of_getElem? (i := 285) (by decide +kernel), List.mem_of_getElem? (i := 997) (by decide +kernel), List.mem_of_getElem? (i := 998) (by decide +kernel)⟩
theorem lw_p47 : lw_okq (⟨"MiddleSpeaks$Acts", "note", "(I)V"⟩, 5) := ⟨⟨by decide +kernel, by decide +kernel⟩, List.mem_of_getElem? (i := 285) (by decide +kernel), List.mem_of_getElem? (i := 1008) (by decide +kernel), List.mem_of_getElem? (i := 1009) (by decide +kernel)⟩
def lw_privs_3 : List (MethodName × Nat) := [(⟨"MiddleSpeaks$Hearing", "goOn", "()V"⟩, 7), (⟨"MiddleSpeaks$Hearing", "leave", "(I)V"⟩, 7), (⟨"MiddleSpeaks$Hearing", "tellSpeakers", "(I)V"⟩, 7), (⟨"MiddleSpeaks$Hearing", "sayAll", "(I)Z"⟩, 7), (⟨"MiddleSpeaks$Hearing", "saidIn", "(I)I"⟩, 7), (⟨"MiddleSpeaks$Hearing", "knowingThen", "(I)I"⟩, 7), (⟨"MiddleSpeaks$Turns", "wins", "(IIIIIZ)Z"⟩, 1), (⟨"MiddleSpeaks$Orders", "fittingFrom", "(II)I"⟩, 2), (⟨"MiddleSpeaks$Orders", "goesWithAll", "()Z"⟩, 2), (⟨"MiddleSpeaks$Orders", "isMiddle", "(II)Z"⟩, 2), (⟨"MiddleSpeaks$Turns", "sharesSpeaking", "(IIIIJ)J"⟩, 1), (⟨"MiddleSpeaks$Turns", "waysOn", "(I)I"⟩, 1), (⟨"MiddleSpeaks$Standing", "isSaid", "(II)Z"⟩, 7), (⟨"MiddleSpeaks", "firstOtherwise", "(LMiddleSpeaks$Tape;I)I"⟩, 16), (⟨"MiddleSpeaks$Acts", "doFrom", "(IIII)I"⟩, 5), (⟨"MiddleSpeaks$Acts", "note", "(I)V"⟩, 5)]
theorem lw_r3 : ∀ q ∈ lw_privs_3, lw_okq q := List.forall_mem_cons.mpr ⟨lw_p32, List.forall_mem_cons.mpr ⟨lw_p33, List.forall_mem_cons.mpr ⟨lw_p34, List.forall_mem_cons.mpr ⟨lw_p35, List.forall_mem_cons.mpr ⟨lw_p36, List.forall_mem_cons.mpr ⟨lw_p37, List.forall_mem_cons.mpr ⟨lw_p38, List.forall_mem_cons.mpr ⟨lw_p39, List.forall_mem_cons.mpr ⟨lw_p40, List.forall_mem_cons.mpr ⟨lw_p41, List.forall_mem_cons.mpr ⟨lw_p42, List.forall_mem_cons.mpr ⟨lw_p43, List.forall_mem_cons.mpr ⟨lw_p44, List.forall_mem_cons.mpr ⟨lw_p45, List.forall_mem_cons.mpr ⟨lw_p46, List.forall_mem_cons.mpr ⟨lw_p47, fun _ h => absurd h List.not_mem_nil⟩⟩⟩⟩⟩⟩⟩⟩⟩⟩⟩⟩⟩⟩⟩⟩
theorem lw_p48 : lw_okq (⟨"MiddleSpeaks$Tape", "narrowed", "(J)J"⟩, 3) := ⟨⟨by decide +kernel, by decide +kernel⟩, List.mem_of_getElem? (i := 309) (by decide +kernel), List.mem_of_getElem? (i := 1057) (by decide +kernel), List.mem_of_getElem? (i := 1058) (by decide +kernel)⟩
theorem lw_p49 : lw_okq (⟨"MiddleSpeaksModel", "within", "(III)Z"⟩, 67) := ⟨⟨by decide +kernel, by decide +kernel⟩, List.mem_of_getElem? (i := 1074) (by decide +kernel), List.mem_of_getElem? (i := 1287) (by decide +kernel), List.mem_of_getElem? (i := 1288) (by decide +kernel)⟩
theorem lw_p50 : lw_okq (⟨"MiddleSpeaksModel", "isPlace", "(I)Z"⟩, 67) := ⟨⟨by decide +kernel, by decide +kernel⟩, List.mem_of_getElem? (i := 1074) (by decide +kernel), List.mem_of_getElem? (i := 1291) (by decide +kernel), List.mem_of_getElem? (i := 1292) (by decide +kernel)⟩
theorem lw_p51 : lw_okq (⟨"MiddleSpeaksModel", "moved", "(III)I"⟩, 67) := ⟨⟨by decide +kernel, by decide +kernel⟩, List.mem_of_getElem? (i := 1074) (by decide +kernel), List.mem_of_getElem? (i := 1295) (by decide +kernel), List.mem_of_getElem? (i := 1296) (by decide +kernel)⟩
theorem lw_p52 : lw_okq (⟨"MiddleSpeaksModel", "isPerson", "(I)Z"⟩, 67) := ⟨⟨by decide +kernel, by decide +kernel⟩, List.mem_of_getElem? (i := 1074) (by decide +kernel), List.mem_of_getElem? (i := 1303) (by decide +kernel), List.mem_of_getElem? (i := 1304) (by decide +kernel)⟩
theorem lw_p53 : lw_okq (⟨"MiddleSpeaksModel", "sameNow", "()I"⟩, 67) := ⟨⟨by decide +kernel, by decide +kernel⟩, List.mem_of_getElem? (i := 1074) (by decide +kernel), List.mem_of_getElem? (i := 1307) (by decide +kernel), List.mem_of_getElem? (i := 1308) (by decide +kernel)⟩
theorem lw_p54 : lw_okq (⟨"MiddleSpeaksModel", "first", "()I"⟩, 67) := ⟨⟨by decide +kernel, by decide +kernel⟩, List.mem_of_getElem? (i := 1074) (by decide +kernel), List.mem_of_getElem? (i := 1311) (by decide +kernel), List.mem_of_getElem? (i := 1312) (by decide +kernel)⟩
theorem lw_p55 : lw_okq (⟨"MiddleSpeaksModel", "behind", "()I"⟩, 67) := ⟨⟨by decide +kernel, by decide +kernel⟩, List.mem_of_getElem? (i := 1074) (by decide +kernel), List.mem_of_getElem? (i := 1315) (by decide +kernel), List.mem_of_getElem? (i := 1316) (by decide +kernel)⟩
theorem lw_p56 : lw_okq (⟨"MiddleSpeaksModel", "placeOf", "(II)I"⟩, 67) := ⟨⟨by decide +kernel, by decide +kernel⟩, List.mem_of_getElem? (i := 1074) (by decide +kernel), List.mem_of_getElem? (i := 1319) (by decide +kernel), List.mem_of_getElem? (i := 1320) (by decide +kernel)⟩
theorem lw_p57 : lw_okq (⟨"MiddleSpeaksModel", "maySpeak", "(III)Z"⟩, 67) := ⟨⟨by decide +kernel, by decide +kernel⟩, List.mem_of_getElem? (i := 1074) (by decide +kernel), List.mem_of_getElem? (i := 1323) (by decide +kernel), List.mem_of_getElem? (i := 1324) (by decide +kernel)⟩
theorem lw_p58 : lw_okq (⟨"MiddleSpeaksModel", "hasLike", "(IIII)Z"⟩, 67) := ⟨⟨by decide +kernel, by decide +kernel⟩, List.mem_of_getElem? (i := 1074) (by decide +kernel), List.mem_of_getElem? (i := 1327) (by decide +kernel), List.mem_of_getElem? (i := 1328) (by decide +kernel)⟩
theorem lw_p59 : lw_okq (⟨"MiddleSpeaksModel", "measure", "(II)I"⟩, 67) := ⟨⟨by decide +kernel, by decide +kernel⟩, List.mem_of_getElem? (i := 1074) (by decide +kernel), List.mem_of_getElem? (i := 1331) (by decide +kernel), List.mem_of_getElem? (i := 1332) (by decide +kernel)⟩
theorem lw_p60 : lw_okq (⟨"MiddleSpeaksModel", "placeInLine", "(III)I"⟩, 67) := ⟨⟨by decide +kernel, by decide +kernel⟩, List.mem_of_getElem? (i := 1074) (by decide +kernel), List.mem_of_getElem? (i := 1335) (by decide +kernel), List.mem_of_getElem? (i := 1336) (by decide +kernel)⟩
theorem lw_p61 : lw_okq (⟨"MiddleSpeaksModel", "manyIn", "(II)I"⟩, 67) := ⟨⟨by decide +kernel, by decide +kernel⟩, List.mem_of_getElem? (i := 1074) (by decide +kernel), List.mem_of_getElem? (i := 1339) (by decide +kernel), List.mem_of_getElem? (i := 1340) (by decide +kernel)⟩
theorem lw_p62 : lw_okq (⟨"MiddleSpeaksModel", "isMiddle", "(IIII)Z"⟩, 67) := ⟨⟨by decide +kernel, by decide +kernel⟩, List.mem_of_getElem? (i := 1074) (by decide +kernel), List.mem_of_getElem? (i := 1343) (by decide +kernel), List.mem_of_getElem? (i := 1344) (by decide +kernel)⟩
theorem lw_p63 : lw_okq (⟨"MiddleSpeaksModel", "isRoom", "(I)Z"⟩, 67) := ⟨⟨by decide +kernel, by decide +kernel⟩, List.mem_of_getElem? (i := 1074) (by decide +kernel), List.mem_of_getElem? (i := 1355) (by decide +kernel), List.mem_of_getElem? (i := 1356) (by decide +kernel)⟩
def lw_privs_4 : List (MethodName × Nat) := [(⟨"MiddleSpeaks$Tape", "narrowed", "(J)J"⟩, 3), (⟨"MiddleSpeaksModel", "within", "(III)Z"⟩, 67), (⟨"MiddleSpeaksModel", "isPlace", "(I)Z"⟩, 67), (⟨"MiddleSpeaksModel", "moved", "(III)I"⟩, 67), (⟨"MiddleSpeaksModel", "isPerson", "(I)Z"⟩, 67), (⟨"MiddleSpeaksModel", "sameNow", "()I"⟩, 67), (⟨"MiddleSpeaksModel", "first", "()I"⟩, 67), (⟨"MiddleSpeaksModel", "behind", "()I"⟩, 67), (⟨"MiddleSpeaksModel", "placeOf", "(II)I"⟩, 67), (⟨"MiddleSpeaksModel", "maySpeak", "(III)Z"⟩, 67), (⟨"MiddleSpeaksModel", "hasLike", "(IIII)Z"⟩, 67), (⟨"MiddleSpeaksModel", "measure", "(II)I"⟩, 67), (⟨"MiddleSpeaksModel", "placeInLine", "(III)I"⟩, 67), (⟨"MiddleSpeaksModel", "manyIn", "(II)I"⟩, 67), (⟨"MiddleSpeaksModel", "isMiddle", "(IIII)Z"⟩, 67), (⟨"MiddleSpeaksModel", "isRoom", "(I)Z"⟩, 67)]
theorem lw_r4 : ∀ q ∈ lw_privs_4, lw_okq q := List.forall_mem_cons.mpr ⟨lw_p48, List.forall_mem_cons.mpr ⟨lw_p49, List.forall_mem_cons.mpr ⟨lw_p50, List.forall_mem_cons.mpr ⟨lw_p51, List.forall_mem_cons.mpr ⟨lw_p52, List.forall_mem_cons.mpr ⟨lw_p53, List.forall_mem_cons.mpr ⟨lw_p54, List.forall_mem_cons.mpr ⟨lw_p55, List.forall_mem_cons.mpr ⟨lw_p56, List.forall_mem_cons.mpr ⟨lw_p57, List.forall_mem_cons.mpr ⟨lw_p58, List.forall_mem_cons.mpr ⟨lw_p59, List.forall_mem_cons.mpr ⟨lw_p60, List.forall_mem_cons.mpr ⟨lw_p61, List.forall_mem_cons.mpr ⟨lw_p62, List.forall_mem_cons.mpr ⟨lw_p63, fun _ h => absurd h List.not_mem_nil⟩⟩⟩⟩⟩⟩⟩⟩⟩⟩⟩⟩⟩⟩⟩⟩
theorem lw_p64 : lw_okq (⟨"MiddleSpeaksModel", "goesText", "(I)Z"⟩, 67) := ⟨⟨by decide +kernel, by decide +kernel⟩, List.mem_of_getElem? (i := 1074) (by decide +kernel), List.mem_of_getElem? (i := 1371) (by decide +kernel), List.mem_of_getElem? (i := 1372) (by decide +kernel)⟩
theorem lw_p65 : lw_okq (⟨"MiddleSpeaksModel", "takesClause", "(I)Z"⟩, 67) := ⟨⟨by decide +kernel, by decide +kernel⟩, List.mem_of_getElem? (i := 1074) (by decide +kernel), List.mem_of_getElem? (i := 1375) (by decide +kernel), List.mem_of_getElem? (i := 1376) (by decide +kernel)⟩
theorem lw_p66 : lw_okq (⟨"MiddleSpeaksModel", "takesHead", "(I)Z"⟩, 67) := ⟨⟨by decide +kernel, by decide +kernel⟩, List.mem_of_getElem? (i := 1074) (by decide +kernel), List.mem_of_getElem? (i := 1379) (by decide +kernel), List.mem_of_getElem? (i := 1380) (by decide +kernel)⟩
theorem lw_p67 : lw_okq (⟨"MiddleSpeaksModel", "next", "()I"⟩, 67) := ⟨⟨by decide +kernel, by decide +kernel⟩, List.mem_of_getElem? (i := 1074) (by decide +kernel), List.mem_of_getElem? (i := 1383) (by decide +kernel), List.mem_of_getElem? (i := 1384) (by decide +kernel)⟩
theorem lw_p68 : lw_okq (⟨"MiddleSpeaksModel", "takesWord", "(II)Z"⟩, 67) := ⟨⟨by decide +kernel, by decide +kernel⟩, List.mem_of_getElem? (i := 1074) (by decide +kernel), List.mem_of_getElem? (i := 1387) (by decide +kernel), List.mem_of_getElem? (i := 1388) (by decide +kernel)⟩
theorem lw_p69 : lw_okq (⟨"MiddleSpeaksModel", "takes", "(I)Z"⟩, 67) := ⟨⟨by decide +kernel, by decide +kernel⟩, List.mem_of_getElem? (i := 1074) (by decide +kernel), List.mem_of_getElem? (i := 1391) (by decide +kernel), List.mem_of_getElem? (i := 1392) (by decide +kernel)⟩
theorem lw_p70 : lw_okq (⟨"MiddleSpeaksModel", "takesE", "(I)Z"⟩, 67) := ⟨⟨by decide +kernel, by decide +kernel⟩, List.mem_of_getElem? (i := 1074) (by decide +kernel), List.mem_of_getElem? (i := 1395) (by decide +kernel), List.mem_of_getElem? (i := 1396) (by decide +kernel)⟩
theorem lw_p71 : lw_okq (⟨"MiddleSpeaksModel", "takesTest", "()Z"⟩, 67) := ⟨⟨by decide +kernel, by decide +kernel⟩, List.mem_of_getElem? (i := 1074) (by decide +kernel), List.mem_of_getElem? (i := 1399) (by decide +kernel), List.mem_of_getElem? (i := 1400) (by decide +kernel)⟩
theorem lw_p72 : lw_okq (⟨"MiddleSpeaksModel", "place", "(I)I"⟩, 67) := ⟨⟨by decide +kernel, by decide +kernel⟩, List.mem_of_getElem? (i := 1074) (by decide +kernel), List.mem_of_getElem? (i := 1403) (by decide +kernel), List.mem_of_getElem? (i := 1404) (by decide +kernel)⟩
theorem lw_p73 : lw_okq (⟨"MiddleSpeaksModel", "takesNumber", "()Z"⟩, 67) := ⟨⟨by decide +kernel, by decide +kernel⟩, List.mem_of_getElem? (i := 1074) (by decide +kernel), List.mem_of_getElem? (i := 1407) (by decide +kernel), List.mem_of_getElem? (i := 1408) (by decide +kernel)⟩
theorem lw_p74 : lw_okq (⟨"MiddleSpeaksModel", "isDigit", "()Z"⟩, 67) := ⟨⟨by decide +kernel, by decide +kernel⟩, List.mem_of_getElem? (i := 1074) (by decide +kernel), List.mem_of_getElem? (i := 1411) (by decide +kernel), List.mem_of_getElem? (i := 1412) (by decide +kernel)⟩
theorem lw_p75 : lw_okq (⟨"MiddleSpeaksModel", "put", "(I)V"⟩, 67) := ⟨⟨by decide +kernel, by decide +kernel⟩, List.mem_of_getElem? (i := 1074) (by decide +kernel), List.mem_of_getElem? (i := 1415) (by decide +kernel), List.mem_of_getElem? (i := 1416) (by decide +kernel)⟩
theorem lw_p76 : lw_okq (⟨"MiddleSpeaksModel", "whole", "()V"⟩, 67) := ⟨⟨by decide +kernel, by decide +kernel⟩, List.mem_of_getElem? (i := 1074) (by decide +kernel), List.mem_of_getElem? (i := 1419) (by decide +kernel), List.mem_of_getElem? (i := 1420) (by decide +kernel)⟩
theorem lw_p77 : lw_okq (⟨"MiddleSpeaksModel", "settle", "(I)V"⟩, 67) := ⟨⟨by decide +kernel, by decide +kernel⟩, List.mem_of_getElem? (i := 1074) (by decide +kernel), List.mem_of_getElem? (i := 1423) (by decide +kernel), List.mem_of_getElem? (i := 1424) (by decide +kernel)⟩
theorem lw_p78 : lw_okq (⟨"MiddleSpeaksModel", "sumOf", "(IIIII)I"⟩, 67) := ⟨⟨by decide +kernel, by decide +kernel⟩, List.mem_of_getElem? (i := 1074) (by decide +kernel), List.mem_of_getElem? (i := 1435) (by decide +kernel), List.mem_of_getElem? (i := 1436) (by decide +kernel)⟩
theorem lw_p79 : lw_okq (⟨"MiddleSpeaksModel", "holds", "(IIIII)Z"⟩, 67) := ⟨⟨by decide +kernel, by decide +kernel⟩, List.mem_of_getElem? (i := 1074) (by decide +kernel), List.mem_of_getElem? (i := 1439) (by decide +kernel), List.mem_of_getElem? (i := 1440) (by decide +kernel)⟩
def lw_privs_5 : List (MethodName × Nat) := [(⟨"MiddleSpeaksModel", "goesText", "(I)Z"⟩, 67), (⟨"MiddleSpeaksModel", "takesClause", "(I)Z"⟩, 67), (⟨"MiddleSpeaksModel", "takesHead", "(I)Z"⟩, 67), (⟨"MiddleSpeaksModel", "next", "()I"⟩, 67), (⟨"MiddleSpeaksModel", "takesWord", "(II)Z"⟩, 67), (⟨"MiddleSpeaksModel", "takes", "(I)Z"⟩, 67), (⟨"MiddleSpeaksModel", "takesE", "(I)Z"⟩, 67), (⟨"MiddleSpeaksModel", "takesTest", "()Z"⟩, 67), (⟨"MiddleSpeaksModel", "place", "(I)I"⟩, 67), (⟨"MiddleSpeaksModel", "takesNumber", "()Z"⟩, 67), (⟨"MiddleSpeaksModel", "isDigit", "()Z"⟩, 67), (⟨"MiddleSpeaksModel", "put", "(I)V"⟩, 67), (⟨"MiddleSpeaksModel", "whole", "()V"⟩, 67), (⟨"MiddleSpeaksModel", "settle", "(I)V"⟩, 67), (⟨"MiddleSpeaksModel", "sumOf", "(IIIII)I"⟩, 67), (⟨"MiddleSpeaksModel", "holds", "(IIIII)Z"⟩, 67)]
theorem lw_r5 : ∀ q ∈ lw_privs_5, lw_okq q := List.forall_mem_cons.mpr ⟨lw_p64, List.forall_mem_cons.mpr ⟨lw_p65, List.forall_mem_cons.mpr ⟨lw_p66, List.forall_mem_cons.mpr ⟨lw_p67, List.forall_mem_cons.mpr ⟨lw_p68, List.forall_mem_cons.mpr ⟨lw_p69, List.forall_mem_cons.mpr ⟨lw_p70, List.forall_mem_cons.mpr ⟨lw_p71, List.forall_mem_cons.mpr ⟨lw_p72, List.forall_mem_cons.mpr ⟨lw_p73, List.forall_mem_cons.mpr ⟨lw_p74, List.forall_mem_cons.mpr ⟨lw_p75, List.forall_mem_cons.mpr ⟨lw_p76, List.forall_mem_cons.mpr ⟨lw_p77, List.forall_mem_cons.mpr ⟨lw_p78, List.forall_mem_cons.mpr ⟨lw_p79, fun _ h => absurd h List.not_mem_nil⟩⟩⟩⟩⟩⟩⟩⟩⟩⟩⟩⟩⟩⟩⟩⟩
theorem lw_p80 : lw_okq (⟨"MiddleSpeaksModel", "factOf", "(IIIII)I"⟩, 67) := ⟨⟨by decide +kernel, by decide +kernel⟩, List.mem_of_getElem? (i := 1074) (by decide +kernel), List.mem_of_getElem? (i := 1443) (by decide +kernel), List.mem_of_getElem? (i := 1444) (by decide +kernel)⟩
theorem lw_p81 : lw_okq (⟨"MiddleSpeaksModel", "isBarred", "(III)Z"⟩, 67) := ⟨⟨by decide +kernel, by decide +kernel⟩, List.mem_of_getElem? (i := 1074) (by decide +kernel), List.mem_of_getElem? (i := 1447) (by decide +kernel), List.mem_of_getElem? (i := 1448) (by decide +kernel)⟩
theorem lw_p82 : lw_okq (⟨"MiddleSpeaksModel", "isThing", "(I)Z"⟩, 67) := ⟨⟨by decide +kernel, by decide +kernel⟩, List.mem_of_getElem? (i := 1074) (by decide +kernel), List.mem_of_getElem? (i := 1459) (by decide +kernel), List.mem_of_getElem? (i := 1460) (by decide +kernel)⟩
theorem lw_p83 : lw_okq (⟨"MiddleSpeaksModel", "has", "(II)Z"⟩, 67) := ⟨⟨by decide +kernel, by decide +kernel⟩, List.mem_of_getElem? (i := 1074) (by decide +kernel), List.mem_of_getElem? (i := 1463) (by decide +kernel), List.mem_of_getElem? (i := 1464) (by decide +kernel)⟩
theorem lw_p84 : lw_okq (⟨"MiddleSpeaksModel", "said", "(II)I"⟩, 67) := ⟨⟨by decide +kernel, by decide +kernel⟩, List.mem_of_getElem? (i := 1074) (by decide +kernel), List.mem_of_getElem? (i := 1467) (by decide +kernel), List.mem_of_getElem? (i := 1468) (by decide +kernel)⟩
theorem lw_p85 : lw_okq (⟨"MiddleSpeaksModel", "layComings", "()V"⟩, 67) := ⟨⟨by decide +kernel, by decide +kernel⟩, List.mem_of_getElem? (i := 1074) (by decide +kernel), List.mem_of_getElem? (i := 1475) (by decide +kernel), List.mem_of_getElem? (i := 1476) (by decide +kernel)⟩
theorem lw_p86 : lw_okq (⟨"MiddleSpeaksModel", "soonestOf", "(II)I"⟩, 67) := ⟨⟨by decide +kernel, by decide +kernel⟩, List.mem_of_getElem? (i := 1074) (by decide +kernel), List.mem_of_getElem? (i := 1479) (by decide +kernel), List.mem_of_getElem? (i := 1480) (by decide +kernel)⟩
theorem lw_p87 : lw_okq (⟨"MiddleSpeaksModel", "beginAt", "(I)V"⟩, 67) := ⟨⟨by decide +kernel, by decide +kernel⟩, List.mem_of_getElem? (i := 1074) (by decide +kernel), List.mem_of_getElem? (i := 1483) (by decide +kernel), List.mem_of_getElem? (i := 1484) (by decide +kernel)⟩
theorem lw_p88 : lw_okq (⟨"MiddleSpeaksModel", "places", "()I"⟩, 67) := ⟨⟨by decide +kernel, by decide +kernel⟩, List.mem_of_getElem? (i := 1074) (by decide +kernel), List.mem_of_getElem? (i := 1487) (by decide +kernel), List.mem_of_getElem? (i := 1488) (by decide +kernel)⟩
theorem lw_p89 : lw_okq (⟨"MiddleSpeaksModel", "canSpeak", "(III)Z"⟩, 67) := ⟨⟨by decide +kernel, by decide +kernel⟩, List.mem_of_getElem? (i := 1074) (by decide +kernel), List.mem_of_getElem? (i := 1491) (by decide +kernel), List.mem_of_getElem? (i := 1492) (by decide +kernel)⟩
theorem lw_p90 : lw_okq (⟨"MiddleSpeaksModel", "goOn", "()V"⟩, 67) := ⟨⟨by decide +kernel, by decide +kernel⟩, List.mem_of_getElem? (i := 1074) (by decide +kernel), List.mem_of_getElem? (i := 1495) (by decide +kernel), List.mem_of_getElem? (i := 1496) (by decide +kernel)⟩
theorem lw_p91 : lw_okq (⟨"MiddleSpeaksModel", "mayCome", "(III)Z"⟩, 67) := ⟨⟨by decide +kernel, by decide +kernel⟩, List.mem_of_getElem? (i := 1074) (by decide +kernel), List.mem_of_getElem? (i := 1499) (by decide +kernel), List.mem_of_getElem? (i := 1500) (by decide +kernel)⟩
theorem lw_p92 : lw_okq (⟨"MiddleSpeaksModel", "comingOf", "(III)I"⟩, 67) := ⟨⟨by decide +kernel, by decide +kernel⟩, List.mem_of_getElem? (i := 1074) (by decide +kernel), List.mem_of_getElem? (i := 1503) (by decide +kernel), List.mem_of_getElem? (i := 1504) (by decide +kernel)⟩
theorem lw_p93 : lw_okq (⟨"MiddleSpeaksModel", "leadsBy", "(IIII)Z"⟩, 67) := ⟨⟨by decide +kernel, by decide +kernel⟩, List.mem_of_getElem? (i := 1074) (by decide +kernel), List.mem_of_getElem? (i := 1507) (by decide +kernel), List.mem_of_getElem? (i := 1508) (by decide +kernel)⟩
theorem lw_p94 : lw_okq (⟨"MiddleSpeaksModel", "goOnCheap", "()V"⟩, 67) := ⟨⟨by decide +kernel, by decide +kernel⟩, List.mem_of_getElem? (i := 1074) (by decide +kernel), List.mem_of_getElem? (i := 1515) (by decide +kernel), List.mem_of_getElem? (i := 1516) (by decide +kernel)⟩
theorem lw_p95 : lw_okq (⟨"MiddleSpeaksModel", "fewestBy", "(III)I"⟩, 67) := ⟨⟨by decide +kernel, by decide +kernel⟩, List.mem_of_getElem? (i := 1074) (by decide +kernel), List.mem_of_getElem? (i := 1527) (by decide +kernel), List.mem_of_getElem? (i := 1528) (by decide +kernel)⟩
def lw_privs_6 : List (MethodName × Nat) := [(⟨"MiddleSpeaksModel", "factOf", "(IIIII)I"⟩, 67), (⟨"MiddleSpeaksModel", "isBarred", "(III)Z"⟩, 67), (⟨"MiddleSpeaksModel", "isThing", "(I)Z"⟩, 67), (⟨"MiddleSpeaksModel", "has", "(II)Z"⟩, 67), (⟨"MiddleSpeaksModel", "said", "(II)I"⟩, 67), (⟨"MiddleSpeaksModel", "layComings", "()V"⟩, 67), (⟨"MiddleSpeaksModel", "soonestOf", "(II)I"⟩, 67), (⟨"MiddleSpeaksModel", "beginAt", "(I)V"⟩, 67), (⟨"MiddleSpeaksModel", "places", "()I"⟩, 67), (⟨"MiddleSpeaksModel", "canSpeak", "(III)Z"⟩, 67), (⟨"MiddleSpeaksModel", "goOn", "()V"⟩, 67), (⟨"MiddleSpeaksModel", "mayCome", "(III)Z"⟩, 67), (⟨"MiddleSpeaksModel", "comingOf", "(III)I"⟩, 67), (⟨"MiddleSpeaksModel", "leadsBy", "(IIII)Z"⟩, 67), (⟨"MiddleSpeaksModel", "goOnCheap", "()V"⟩, 67), (⟨"MiddleSpeaksModel", "fewestBy", "(III)I"⟩, 67)]
theorem lw_r6 : ∀ q ∈ lw_privs_6, lw_okq q := List.forall_mem_cons.mpr ⟨lw_p80, List.forall_mem_cons.mpr ⟨lw_p81, List.forall_mem_cons.mpr ⟨lw_p82, List.forall_mem_cons.mpr ⟨lw_p83, List.forall_mem_cons.mpr ⟨lw_p84, List.forall_mem_cons.mpr ⟨lw_p85, List.forall_mem_cons.mpr ⟨lw_p86, List.forall_mem_cons.mpr ⟨lw_p87, List.forall_mem_cons.mpr ⟨lw_p88, List.forall_mem_cons.mpr ⟨lw_p89, List.forall_mem_cons.mpr ⟨lw_p90, List.forall_mem_cons.mpr ⟨lw_p91, List.forall_mem_cons.mpr ⟨lw_p92, List.forall_mem_cons.mpr ⟨lw_p93, List.forall_mem_cons.mpr ⟨lw_p94, List.forall_mem_cons.mpr ⟨lw_p95, fun _ h => absurd h List.not_mem_nil⟩⟩⟩⟩⟩⟩⟩⟩⟩⟩⟩⟩⟩⟩⟩⟩
theorem lw_p96 : lw_okq (⟨"MiddleSpeaksModel", "spread", "(III)I"⟩, 67) := ⟨⟨by decide +kernel, by decide +kernel⟩, List.mem_of_getElem? (i := 1074) (by decide +kernel), List.mem_of_getElem? (i := 1531) (by decide +kernel), List.mem_of_getElem? (i := 1532) (by decide +kernel)⟩
theorem lw_p97 : lw_okq (⟨"MiddleSpeaksModel", "goOnKnown", "(I)V"⟩, 67) := ⟨⟨by decide +kernel, by decide +kernel⟩, List.mem_of_getElem? (i := 1074) (by decide +kernel), List.mem_of_getElem? (i := 1535) (by decide +kernel), List.mem_of_getElem? (i := 1536) (by decide +kernel)⟩
theorem lw_p98 : lw_okq (⟨"MiddleSpeaksModel", "turns", "()I"⟩, 67) := ⟨⟨by decide +kernel, by decide +kernel⟩, List.mem_of_getElem? (i := 1074) (by decide +kernel), List.mem_of_getElem? (i := 1547) (by decide +kernel), List.mem_of_getElem? (i := 1548) (by decide +kernel)⟩
theorem lw_p99 : lw_okq (⟨"MiddleSpeaksModel", "mayTurn", "(II)Z"⟩, 67) := ⟨⟨by decide +kernel, by decide +kernel⟩, List.mem_of_getElem? (i := 1074) (by decide +kernel), List.mem_of_getElem? (i := 1551) (by decide +kernel), List.mem_of_getElem? (i := 1552) (by decide +kernel)⟩
theorem lw_p100 : lw_okq (⟨"MiddleSpeaksModel", "behindTurn", "(II)I"⟩, 67) := ⟨⟨by decide +kernel, by decide +kernel⟩, List.mem_of_getElem? (i := 1074) (by decide +kernel), List.mem_of_getElem? (i := 1555) (by decide +kernel), List.mem_of_getElem? (i := 1556) (by decide +kernel)⟩
theorem lw_p101 : lw_okq (⟨"MiddleSpeaksModel", "winsSecond", "(IIIII)Z"⟩, 67) := ⟨⟨by decide +kernel, by decide +kernel⟩, List.mem_of_getElem? (i := 1074) (by decide +kernel), List.mem_of_getElem? (i := 1559) (by decide +kernel), List.mem_of_getElem? (i := 1560) (by decide +kernel)⟩
theorem lw_p102 : lw_okq (⟨"MiddleSpeaksModel", "isWon", "(IIII)Z"⟩, 67) := ⟨⟨by decide +kernel, by decide +kernel⟩, List.mem_of_getElem? (i := 1074) (by decide +kernel), List.mem_of_getElem? (i := 1563) (by decide +kernel), List.mem_of_getElem? (i := 1564) (by decide +kernel)⟩
theorem lw_p103 : lw_okq (⟨"MiddleSpeaksModel", "winsThird", "(IIIIZ)Z"⟩, 67) := ⟨⟨by decide +kernel, by decide +kernel⟩, List.mem_of_getElem? (i := 1074) (by decide +kernel), List.mem_of_getElem? (i := 1567) (by decide +kernel), List.mem_of_getElem? (i := 1568) (by decide +kernel)⟩
theorem lw_p104 : lw_okq (⟨"MiddleSpeaksModel", "ones", "(I)I"⟩, 67) := ⟨⟨by decide +kernel, by decide +kernel⟩, List.mem_of_getElem? (i := 1074) (by decide +kernel), List.mem_of_getElem? (i := 1579) (by decide +kernel), List.mem_of_getElem? (i := 1580) (by decide +kernel)⟩
theorem lw_p105 : lw_okq (⟨"MiddleSpeaksModel", "layOrder", "(I)Z"⟩, 67) := ⟨⟨by decide +kernel, by decide +kernel⟩, List.mem_of_getElem? (i := 1074) (by decide +kernel), List.mem_of_getElem? (i := 1587) (by decide +kernel), List.mem_of_getElem? (i := 1588) (by decide +kernel)⟩
theorem lw_p106 : lw_okq (⟨"MiddleSpeaksModel", "goesWithRows", "()Z"⟩, 67) := ⟨⟨by decide +kernel, by decide +kernel⟩, List.mem_of_getElem? (i := 1074) (by decide +kernel), List.mem_of_getElem? (i := 1591) (by decide +kernel), List.mem_of_getElem? (i := 1592) (by decide +kernel)⟩
theorem lw_p107 : lw_okq (⟨"MiddleSpeaksModel", "layLot", "(II)V"⟩, 67) := ⟨⟨by decide +kernel, by decide +kernel⟩, List.mem_of_getElem? (i := 1074) (by decide +kernel), List.mem_of_getElem? (i := 1600) (by decide +kernel), List.mem_of_getElem? (i := 1601) (by decide +kernel)⟩
theorem lw_p108 : lw_okq (⟨"MiddleSpeaksModel", "waysFrom", "(I)I"⟩, 67) := ⟨⟨by decide +kernel, by decide +kernel⟩, List.mem_of_getElem? (i := 1074) (by decide +kernel), List.mem_of_getElem? (i := 1604) (by decide +kernel), List.mem_of_getElem? (i := 1605) (by decide +kernel)⟩
theorem lw_p109 : lw_okq (⟨"MiddleSpeaksModel", "addLot", "(JJ)V"⟩, 67) := ⟨⟨by decide +kernel, by decide +kernel⟩, List.mem_of_getElem? (i := 1074) (by decide +kernel), List.mem_of_getElem? (i := 1608) (by decide +kernel), List.mem_of_getElem? (i := 1609) (by decide +kernel)⟩
theorem lw_p110 : lw_okq (⟨"MiddleSpeaksModel", "divisor", "(JJ)J"⟩, 67) := ⟨⟨by decide +kernel, by decide +kernel⟩, List.mem_of_getElem? (i := 1074) (by decide +kernel), List.mem_of_getElem? (i := 1612) (by decide +kernel), List.mem_of_getElem? (i := 1613) (by decide +kernel)⟩
theorem lw_p111 : lw_okq (⟨"MiddleSpeaksModel", "addFrom", "(IIII)V"⟩, 67) := ⟨⟨by decide +kernel, by decide +kernel⟩, List.mem_of_getElem? (i := 1074) (by decide +kernel), List.mem_of_getElem? (i := 1616) (by decide +kernel), List.mem_of_getElem? (i := 1617) (by decide +kernel)⟩
def lw_privs_7 : List (MethodName × Nat) := [(⟨"MiddleSpeaksModel", "spread", "(III)I"⟩, 67), (⟨"MiddleSpeaksModel", "goOnKnown", "(I)V"⟩, 67), (⟨"MiddleSpeaksModel", "turns", "()I"⟩, 67), (⟨"MiddleSpeaksModel", "mayTurn", "(II)Z"⟩, 67), (⟨"MiddleSpeaksModel", "behindTurn", "(II)I"⟩, 67), (⟨"MiddleSpeaksModel", "winsSecond", "(IIIII)Z"⟩, 67), (⟨"MiddleSpeaksModel", "isWon", "(IIII)Z"⟩, 67), (⟨"MiddleSpeaksModel", "winsThird", "(IIIIZ)Z"⟩, 67), (⟨"MiddleSpeaksModel", "ones", "(I)I"⟩, 67), (⟨"MiddleSpeaksModel", "layOrder", "(I)Z"⟩, 67), (⟨"MiddleSpeaksModel", "goesWithRows", "()Z"⟩, 67), (⟨"MiddleSpeaksModel", "layLot", "(II)V"⟩, 67), (⟨"MiddleSpeaksModel", "waysFrom", "(I)I"⟩, 67), (⟨"MiddleSpeaksModel", "addLot", "(JJ)V"⟩, 67), (⟨"MiddleSpeaksModel", "divisor", "(JJ)J"⟩, 67), (⟨"MiddleSpeaksModel", "addFrom", "(IIII)V"⟩, 67)]
theorem lw_r7 : ∀ q ∈ lw_privs_7, lw_okq q := List.forall_mem_cons.mpr ⟨lw_p96, List.forall_mem_cons.mpr ⟨lw_p97, List.forall_mem_cons.mpr ⟨lw_p98, List.forall_mem_cons.mpr ⟨lw_p99, List.forall_mem_cons.mpr ⟨lw_p100, List.forall_mem_cons.mpr ⟨lw_p101, List.forall_mem_cons.mpr ⟨lw_p102, List.forall_mem_cons.mpr ⟨lw_p103, List.forall_mem_cons.mpr ⟨lw_p104, List.forall_mem_cons.mpr ⟨lw_p105, List.forall_mem_cons.mpr ⟨lw_p106, List.forall_mem_cons.mpr ⟨lw_p107, List.forall_mem_cons.mpr ⟨lw_p108, List.forall_mem_cons.mpr ⟨lw_p109, List.forall_mem_cons.mpr ⟨lw_p110, List.forall_mem_cons.mpr ⟨lw_p111, fun _ h => absurd h List.not_mem_nil⟩⟩⟩⟩⟩⟩⟩⟩⟩⟩⟩⟩⟩⟩⟩⟩
theorem lw_p112 : lw_okq (⟨"MiddleSpeaksModel", "speaksBehind", "(III)I"⟩, 67) := ⟨⟨by decide +kernel, by decide +kernel⟩, List.mem_of_getElem? (i := 1074) (by decide +kernel), List.mem_of_getElem? (i := 1620) (by decide +kernel), List.mem_of_getElem? (i := 1621) (by decide +kernel)⟩
theorem lw_p113 : lw_okq (⟨"MiddleSpeaksModel", "isTape", "(I)Z"⟩, 67) := ⟨⟨by decide +kernel, by decide +kernel⟩, List.mem_of_getElem? (i := 1074) (by decide +kernel), List.mem_of_getElem? (i := 1636) (by decide +kernel), List.mem_of_getElem? (i := 1637) (by decide +kernel)⟩
theorem lw_p114 : lw_okq (⟨"MiddleSpeaksModel", "hearsAct", "(II)I"⟩, 67) := ⟨⟨by decide +kernel, by decide +kernel⟩, List.mem_of_getElem? (i := 1074) (by decide +kernel), List.mem_of_getElem? (i := 1652) (by decide +kernel), List.mem_of_getElem? (i := 1653) (by decide +kernel)⟩
theorem lw_p115 : lw_okq (⟨"MiddleSpeaksModel", "body", "(I)V"⟩, 67) := ⟨⟨by decide +kernel, by decide +kernel⟩, List.mem_of_getElem? (i := 1074) (by decide +kernel), List.mem_of_getElem? (i := 1656) (by decide +kernel), List.mem_of_getElem? (i := 1657) (by decide +kernel)⟩
theorem lw_p116 : lw_okq (⟨"MiddleSpeaksModel", "roomHears", "(II)I"⟩, 67) := ⟨⟨by decide +kernel, by decide +kernel⟩, List.mem_of_getElem? (i := 1074) (by decide +kernel), List.mem_of_getElem? (i := 1660) (by decide +kernel), List.mem_of_getElem? (i := 1661) (by decide +kernel)⟩
theorem lw_p117 : lw_okq (⟨"MiddleSpeaksModel", "speaksAct", "(II)I"⟩, 67) := ⟨⟨by decide +kernel, by decide +kernel⟩, List.mem_of_getElem? (i := 1074) (by decide +kernel), List.mem_of_getElem? (i := 1664) (by decide +kernel), List.mem_of_getElem? (i := 1665) (by decide +kernel)⟩
theorem lw_p118 : lw_okq (⟨"MiddleSpeaksModel", "lowerSpeaks", "(II)I"⟩, 67) := ⟨⟨by decide +kernel, by decide +kernel⟩, List.mem_of_getElem? (i := 1074) (by decide +kernel), List.mem_of_getElem? (i := 1668) (by decide +kernel), List.mem_of_getElem? (i := 1669) (by decide +kernel)⟩
theorem lw_p119 : lw_okq (⟨"MiddleSpeaksModel", "roomSpeaks", "(II)I"⟩, 67) := ⟨⟨by decide +kernel, by decide +kernel⟩, List.mem_of_getElem? (i := 1074) (by decide +kernel), List.mem_of_getElem? (i := 1672) (by decide +kernel), List.mem_of_getElem? (i := 1673) (by decide +kernel)⟩
theorem lw_p120 : lw_okq (⟨"MiddleSpeaksModel", "tellsAct", "(II)I"⟩, 67) := ⟨⟨by decide +kernel, by decide +kernel⟩, List.mem_of_getElem? (i := 1074) (by decide +kernel), List.mem_of_getElem? (i := 1676) (by decide +kernel), List.mem_of_getElem? (i := 1677) (by decide +kernel)⟩
theorem lw_p121 : lw_okq (⟨"MiddleSpeaksModel", "roomTells", "(II)I"⟩, 67) := ⟨⟨by decide +kernel, by decide +kernel⟩, List.mem_of_getElem? (i := 1074) (by decide +kernel), List.mem_of_getElem? (i := 1680) (by decide +kernel), List.mem_of_getElem? (i := 1681) (by decide +kernel)⟩
theorem lw_p122 : lw_okq (⟨"MiddleSpeaksModel", "narrow", "(IJ)J"⟩, 67) := ⟨⟨by decide +kernel, by decide +kernel⟩, List.mem_of_getElem? (i := 1074) (by decide +kernel), List.mem_of_getElem? (i := 1704) (by decide +kernel), List.mem_of_getElem? (i := 1705) (by decide +kernel)⟩
def lw_privs_8 : List (MethodName × Nat) := [(⟨"MiddleSpeaksModel", "speaksBehind", "(III)I"⟩, 67), (⟨"MiddleSpeaksModel", "isTape", "(I)Z"⟩, 67), (⟨"MiddleSpeaksModel", "hearsAct", "(II)I"⟩, 67), (⟨"MiddleSpeaksModel", "body", "(I)V"⟩, 67), (⟨"MiddleSpeaksModel", "roomHears", "(II)I"⟩, 67), (⟨"MiddleSpeaksModel", "speaksAct", "(II)I"⟩, 67), (⟨"MiddleSpeaksModel", "lowerSpeaks", "(II)I"⟩, 67), (⟨"MiddleSpeaksModel", "roomSpeaks", "(II)I"⟩, 67), (⟨"MiddleSpeaksModel", "tellsAct", "(II)I"⟩, 67), (⟨"MiddleSpeaksModel", "roomTells", "(II)I"⟩, 67), (⟨"MiddleSpeaksModel", "narrow", "(IJ)J"⟩, 67)]
theorem lw_r8 : ∀ q ∈ lw_privs_8, lw_okq q := List.forall_mem_cons.mpr ⟨lw_p112, List.forall_mem_cons.mpr ⟨lw_p113, List.forall_mem_cons.mpr ⟨lw_p114, List.forall_mem_cons.mpr ⟨lw_p115, List.forall_mem_cons.mpr ⟨lw_p116, List.forall_mem_cons.mpr ⟨lw_p117, List.forall_mem_cons.mpr ⟨lw_p118, List.forall_mem_cons.mpr ⟨lw_p119, List.forall_mem_cons.mpr ⟨lw_p120, List.forall_mem_cons.mpr ⟨lw_p121, List.forall_mem_cons.mpr ⟨lw_p122, fun _ h => absurd h List.not_mem_nil⟩⟩⟩⟩⟩⟩⟩⟩⟩⟩⟩
def lw_privs : List (MethodName × Nat) := lw_privs_1 ++ (lw_privs_2 ++ (lw_privs_3 ++ (lw_privs_4 ++ (lw_privs_5 ++ (lw_privs_6 ++ (lw_privs_7 ++ (lw_privs_8)))))))
def lw_tbl : List Cond := k2_sels lw_privs ++ tables_1
theorem lw_privs_ok : ∀ q ∈ lw_privs, lw_okq q := by
  show ∀ q ∈ lw_privs_1 ++ (lw_privs_2 ++ (lw_privs_3 ++ (lw_privs_4 ++ (lw_privs_5 ++ (lw_privs_6 ++ (lw_privs_7 ++ (lw_privs_8))))))), lw_okq q
  exact List.forall_mem_append.mpr ⟨lw_r1, List.forall_mem_append.mpr ⟨lw_r2, List.forall_mem_append.mpr ⟨lw_r3, List.forall_mem_append.mpr ⟨lw_r4, List.forall_mem_append.mpr ⟨lw_r5, List.forall_mem_append.mpr ⟨lw_r6, List.forall_mem_append.mpr ⟨lw_r7, lw_r8⟩⟩⟩⟩⟩⟩⟩
end
section
def RX0 : String := "MiddleSpeaks$Acts"
def TX0 : u_T := fun k => match k with
  | 0 => ("MiddleSpeaks$Acts", "bodies", "[I", true)
  | 1 => ("MiddleSpeaks$Acts", "ran", "I", false)
  | 2 => ("MiddleSpeaks$Acts", "number", "I", false)
  | 3 => ("MiddleSpeaks$Acts", "kind", "I", false)
  | _ => ("MiddleSpeaks$Acts", "v", "I", false)
def tyX0 : Nat → FieldType := fun k => match k with
  | 0 => .array .int
  | 1 => .int
  | 2 => .int
  | 3 => .int
  | _ => .int
abbrev wsX00 : List Cond := u_ws RX0 TX0 5
theorem nmX0 : ∀ a, a < 5 → ∀ b, b < 5 → a ≠ b → (TX0 a).2.1 ≠ (TX0 b).2.1 := by decide +kernel
theorem tyX0_ok : ∀ k, k < 5 → parseFieldDescriptor (TX0 k).2.2.1 = some (tyX0 k) := by decide +kernel
abbrev cX0_init : ByteArray := prog_2_method_1_code
def yX0_init : MethodName := ⟨RX0, "<init>", "()V"⟩
abbrev cX0_forget : ByteArray := prog_2_method_2_code
def yX0_forget : MethodName := ⟨RX0, "forget", "()V"⟩
abbrev cX0_bodyAt : ByteArray := prog_2_method_3_code
def yX0_bodyAt : MethodName := ⟨RX0, "bodyAt", "(I)I"⟩
abbrev cX0_start : ByteArray := prog_2_method_4_code
def yX0_start : MethodName := ⟨RX0, "start", "(IIIII)I"⟩
abbrev cX0_bodyFrom : ByteArray := prog_2_method_5_code
def yX0_bodyFrom : MethodName := ⟨RX0, "bodyFrom", "(II)I"⟩
abbrev cX0_doFrom : ByteArray := prog_2_method_6_code
def yX0_doFrom : MethodName := ⟨RX0, "doFrom", "(IIII)I"⟩
abbrev cX0_note : ByteArray := prog_2_method_7_code
def yX0_note : MethodName := ⟨RX0, "note", "(I)V"⟩
def RX1 : String := "MiddleSpeaks$Hearing"
def TX1 : u_T := fun k => match k with
  | 0 => ("MiddleSpeaks$Hearing", "standing", "LMiddleSpeaks$Standing;", true)
  | 1 => ("MiddleSpeaks$Hearing", "knowing", "[I", true)
  | 2 => ("MiddleSpeaks$Hearing", "next", "[I", true)
  | 3 => ("MiddleSpeaks$Hearing", "speakersOf", "[I", true)
  | 4 => ("MiddleSpeaks$Hearing", "there", "[I", true)
  | 5 => ("MiddleSpeaks$Hearing", "speaking", "[I", true)
  | _ => ("MiddleSpeaks$Hearing", "states", "I", false)
def tyX1 : Nat → FieldType := fun k => match k with
  | 0 => .object "MiddleSpeaks$Standing"
  | 1 => .array .int
  | 2 => .array .int
  | 3 => .array .int
  | 4 => .array .int
  | 5 => .array .int
  | _ => .int
abbrev wsX10 : List Cond := u_ws RX1 TX1 7
theorem nmX1 : ∀ a, a < 7 → ∀ b, b < 7 → a ≠ b → (TX1 a).2.1 ≠ (TX1 b).2.1 := by decide +kernel
theorem tyX1_ok : ∀ k, k < 7 → parseFieldDescriptor (TX1 k).2.2.1 = some (tyX1 k) := by decide +kernel
abbrev cX1_init : ByteArray := prog_3_method_1_code
def yX1_init : MethodName := ⟨RX1, "<init>", "(LMiddleSpeaks$Standing;)V"⟩
abbrev cX1_setsOfOneWithout : ByteArray := prog_3_method_2_code
def yX1_setsOfOneWithout : MethodName := ⟨RX1, "setsOfOneWithout", "(II)I"⟩
abbrev cX1_fewestTill : ByteArray := prog_3_method_3_code
def yX1_fewestTill : MethodName := ⟨RX1, "fewestTill", "(II)I"⟩
abbrev cX1_goOn : ByteArray := prog_3_method_4_code
def yX1_goOn : MethodName := ⟨RX1, "goOn", "()V"⟩
abbrev cX1_leave : ByteArray := prog_3_method_5_code
def yX1_leave : MethodName := ⟨RX1, "leave", "(I)V"⟩
abbrev cX1_sayAll : ByteArray := prog_3_method_6_code
def yX1_sayAll : MethodName := ⟨RX1, "sayAll", "(I)Z"⟩
abbrev cX1_tellSpeakers : ByteArray := prog_3_method_7_code
def yX1_tellSpeakers : MethodName := ⟨RX1, "tellSpeakers", "(I)V"⟩
abbrev cX1_saidIn : ByteArray := prog_3_method_8_code
def yX1_saidIn : MethodName := ⟨RX1, "saidIn", "(I)I"⟩
abbrev cX1_knowingThen : ByteArray := prog_3_method_9_code
def yX1_knowingThen : MethodName := ⟨RX1, "knowingThen", "(I)I"⟩
def RX2 : String := "MiddleSpeaks$House"
def TX2 : u_T := fun k => match k with
  | 0 => ("MiddleSpeaks$House", "clauses", "I", false)
  | 1 => ("MiddleSpeaks$House", "words", "[I", true)
  | 2 => ("MiddleSpeaks$House", "numbers", "[I", true)
  | 3 => ("MiddleSpeaks$House", "ends", "[I", true)
  | 4 => ("MiddleSpeaks$House", "steps", "[I", true)
  | 5 => ("MiddleSpeaks$House", "stepCount", "I", false)
  | _ => ("MiddleSpeaks$House", "same", "I", false)
def tyX2 : Nat → FieldType := fun k => match k with
  | 0 => .int
  | 1 => .array .int
  | 2 => .array .int
  | 3 => .array .int
  | 4 => .array .int
  | 5 => .int
  | _ => .int
abbrev wsX20 : List Cond := u_ws RX2 TX2 7
theorem nmX2 : ∀ a, a < 7 → ∀ b, b < 7 → a ≠ b → (TX2 a).2.1 ≠ (TX2 b).2.1 := by decide +kernel
theorem tyX2_ok : ∀ k, k < 7 → parseFieldDescriptor (TX2 k).2.2.1 = some (tyX2 k) := by decide +kernel
abbrev cX2_init : ByteArray := prog_4_method_1_code
def yX2_init : MethodName := ⟨RX2, "<init>", "()V"⟩
abbrev cX2_addStep : ByteArray := prog_4_method_2_code
def yX2_addStep : MethodName := ⟨RX2, "addStep", "(I)V"⟩
abbrev cX2_addTest : ByteArray := prog_4_method_3_code
def yX2_addTest : MethodName := ⟨RX2, "addTest", "(III)V"⟩
abbrev cX2_addClause : ByteArray := prog_4_method_4_code
def yX2_addClause : MethodName := ⟨RX2, "addClause", "(II)V"⟩
abbrev cX2_together : ByteArray := prog_4_method_5_code
def yX2_together : MethodName := ⟨RX2, "together", "(I[I)I"⟩
abbrev cX2_hasBar : ByteArray := prog_4_method_6_code
def yX2_hasBar : MethodName := ⟨RX2, "hasBar", "([I)Z"⟩
abbrev cX2_holdsIn : ByteArray := prog_4_method_7_code
def yX2_holdsIn : MethodName := ⟨RX2, "holdsIn", "(I[I)Z"⟩
abbrev cX2_testHolds : ByteArray := prog_4_method_8_code
def yX2_testHolds : MethodName := ⟨RX2, "testHolds", "(I[I)Z"⟩
def RX3 : String := "MiddleSpeaks$HouseReader"
def TX3 : u_T := fun k => match k with
  | 0 => ("MiddleSpeaks$HouseReader", "signs", "[I", false)
  | 1 => ("MiddleSpeaks$HouseReader", "length", "I", false)
  | 2 => ("MiddleSpeaks$HouseReader", "at", "I", false)
  | _ => ("MiddleSpeaks$HouseReader", "house", "LMiddleSpeaks$House;", false)
def tyX3 : Nat → FieldType := fun k => match k with
  | 0 => .array .int
  | 1 => .int
  | 2 => .int
  | _ => .object "MiddleSpeaks$House"
abbrev wsX30 : List Cond := u_ws RX3 TX3 4
theorem nmX3 : ∀ a, a < 4 → ∀ b, b < 4 → a ≠ b → (TX3 a).2.1 ≠ (TX3 b).2.1 := by decide +kernel
theorem tyX3_ok : ∀ k, k < 4 → parseFieldDescriptor (TX3 k).2.2.1 = some (tyX3 k) := by decide +kernel
abbrev cX3_init : ByteArray := prog_5_method_1_code
def yX3_init : MethodName := ⟨RX3, "<init>", "()V"⟩
abbrev cX3_readInto : ByteArray := prog_5_method_2_code
def yX3_readInto : MethodName := ⟨RX3, "readInto", "(LMiddleSpeaks$House;[II)I"⟩
abbrev cX3_readClause : ByteArray := prog_5_method_3_code
def yX3_readClause : MethodName := ⟨RX3, "readClause", "()Z"⟩
abbrev cX3_readWord : ByteArray := prog_5_method_4_code
def yX3_readWord : MethodName := ⟨RX3, "readWord", "()I"⟩
abbrev cX3_readAny : ByteArray := prog_5_method_5_code
def yX3_readAny : MethodName := ⟨RX3, "readAny", "(I)Z"⟩
abbrev cX3_readAll : ByteArray := prog_5_method_6_code
def yX3_readAll : MethodName := ⟨RX3, "readAll", "(I)Z"⟩
abbrev cX3_readOne : ByteArray := prog_5_method_7_code
def yX3_readOne : MethodName := ⟨RX3, "readOne", "(I)Z"⟩
abbrev cX3_readTest : ByteArray := prog_5_method_8_code
def yX3_readTest : MethodName := ⟨RX3, "readTest", "()Z"⟩
abbrev cX3_readNumber : ByteArray := prog_5_method_9_code
def yX3_readNumber : MethodName := ⟨RX3, "readNumber", "()I"⟩
abbrev cX3_eat : ByteArray := prog_5_method_10_code
def yX3_eat : MethodName := ⟨RX3, "eat", "(I)Z"⟩
abbrev cX3_eatAll : ByteArray := prog_5_method_11_code
def yX3_eatAll : MethodName := ⟨RX3, "eatAll", "(Ljava/lang/String;)Z"⟩
abbrev cX3_eatOneOf : ByteArray := prog_5_method_12_code
def yX3_eatOneOf : MethodName := ⟨RX3, "eatOneOf", "(Ljava/lang/String;)I"⟩
def RX4 : String := "MiddleSpeaks$Orders"
def TX4 : u_T := fun k => match k with
  | 0 => ("MiddleSpeaks$Orders", "scene", "LMiddleSpeaks$Scene;", true)
  | _ => ("MiddleSpeaks$Orders", "rank", "[I", true)
def tyX4 : Nat → FieldType := fun k => match k with
  | 0 => .object "MiddleSpeaks$Scene"
  | _ => .array .int
abbrev wsX40 : List Cond := u_ws RX4 TX4 2
theorem nmX4 : ∀ a, a < 2 → ∀ b, b < 2 → a ≠ b → (TX4 a).2.1 ≠ (TX4 b).2.1 := by decide +kernel
theorem tyX4_ok : ∀ k, k < 2 → parseFieldDescriptor (TX4 k).2.2.1 = some (tyX4 k) := by decide +kernel
abbrev cX4_init : ByteArray := prog_6_method_1_code
def yX4_init : MethodName := ⟨RX4, "<init>", "(LMiddleSpeaks$Scene;)V"⟩
abbrev cX4_fitting : ByteArray := prog_6_method_2_code
def yX4_fitting : MethodName := ⟨RX4, "fitting", "()I"⟩
abbrev cX4_fittingFrom : ByteArray := prog_6_method_3_code
def yX4_fittingFrom : MethodName := ⟨RX4, "fittingFrom", "(II)I"⟩
abbrev cX4_goesWithAll : ByteArray := prog_6_method_4_code
def yX4_goesWithAll : MethodName := ⟨RX4, "goesWithAll", "()Z"⟩
abbrev cX4_isMiddle : ByteArray := prog_6_method_5_code
def yX4_isMiddle : MethodName := ⟨RX4, "isMiddle", "(II)Z"⟩
def RX5 : String := "MiddleSpeaks$Scene"
def TX5 : u_T := fun k => match k with
  | 0 => ("MiddleSpeaks$Scene", "people", "I", false)
  | 1 => ("MiddleSpeaks$Scene", "ages", "[I", true)
  | 2 => ("MiddleSpeaks$Scene", "heights", "[I", true)
  | 3 => ("MiddleSpeaks$Scene", "places", "[I", true)
  | 4 => ("MiddleSpeaks$Scene", "known", "[I", true)
  | 5 => ("MiddleSpeaks$Scene", "kinds", "[I", true)
  | 6 => ("MiddleSpeaks$Scene", "vs", "[I", true)
  | 7 => ("MiddleSpeaks$Scene", "comings", "I", false)
  | 8 => ("MiddleSpeaks$Scene", "cost", "I", false)
  | 9 => ("MiddleSpeaks$Scene", "rowSets", "[I", true)
  | 10 => ("MiddleSpeaks$Scene", "rowMiddles", "[I", true)
  | 11 => ("MiddleSpeaks$Scene", "rows", "I", false)
  | 12 => ("MiddleSpeaks$Scene", "saidRows", "[I", true)
  | 13 => ("MiddleSpeaks$Scene", "sayings", "I", false)
  | _ => ("MiddleSpeaks$Scene", "holds", "I", false)
def tyX5 : Nat → FieldType := fun k => match k with
  | 0 => .int
  | 1 => .array .int
  | 2 => .array .int
  | 3 => .array .int
  | 4 => .array .int
  | 5 => .array .int
  | 6 => .array .int
  | 7 => .int
  | 8 => .int
  | 9 => .array .int
  | 10 => .array .int
  | 11 => .int
  | 12 => .array .int
  | 13 => .int
  | _ => .int
abbrev wsX50 : List Cond := u_ws RX5 TX5 15
theorem nmX5 : ∀ a, a < 15 → ∀ b, b < 15 → a ≠ b → (TX5 a).2.1 ≠ (TX5 b).2.1 := by decide +kernel
theorem tyX5_ok : ∀ k, k < 15 → parseFieldDescriptor (TX5 k).2.2.1 = some (tyX5 k) := by decide +kernel
abbrev cX5_init : ByteArray := prog_7_method_1_code
def yX5_init : MethodName := ⟨RX5, "<init>", "()V"⟩
abbrev cX5_addPerson : ByteArray := prog_7_method_2_code
def yX5_addPerson : MethodName := ⟨RX5, "addPerson", "(III)I"⟩
abbrev cX5_everybody : ByteArray := prog_7_method_3_code
def yX5_everybody : MethodName := ⟨RX5, "everybody", "()I"⟩
abbrev cX5_whoIsAt : ByteArray := prog_7_method_4_code
def yX5_whoIsAt : MethodName := ⟨RX5, "whoIsAt", "(I)I"⟩
abbrev cX5_isKnown : ByteArray := prog_7_method_5_code
def yX5_isKnown : MethodName := ⟨RX5, "isKnown", "(II)Z"⟩
abbrev cX5_whoKnows : ByteArray := prog_7_method_6_code
def yX5_whoKnows : MethodName := ⟨RX5, "whoKnows", "(I)I"⟩
abbrev cX5_copyFrom : ByteArray := prog_7_method_7_code
def yX5_copyFrom : MethodName := ⟨RX5, "copyFrom", "(LMiddleSpeaks$Scene;)V"⟩
def RX6 : String := "MiddleSpeaks$Standing"
def TX6 : u_T := fun k => match k with
  | 0 => ("MiddleSpeaks$Standing", "scene", "LMiddleSpeaks$Scene;", true)
  | 1 => ("MiddleSpeaks$Standing", "house", "LMiddleSpeaks$House;", false)
  | 2 => ("MiddleSpeaks$Standing", "facts", "[I", true)
  | 3 => ("MiddleSpeaks$Standing", "line", "[I", true)
  | 4 => ("MiddleSpeaks$Standing", "heardNow", "[I", true)
  | 5 => ("MiddleSpeaks$Standing", "prices", "[I", true)
  | _ => ("MiddleSpeaks$Standing", "bars", "[Z", true)
def tyX6 : Nat → FieldType := fun k => match k with
  | 0 => .object "MiddleSpeaks$Scene"
  | 1 => .object "MiddleSpeaks$House"
  | 2 => .array .int
  | 3 => .array .int
  | 4 => .array .int
  | 5 => .array .int
  | _ => .array .boolean
abbrev wsX60 : List Cond := u_ws RX6 TX6 7
theorem nmX6 : ∀ a, a < 7 → ∀ b, b < 7 → a ≠ b → (TX6 a).2.1 ≠ (TX6 b).2.1 := by decide +kernel
theorem tyX6_ok : ∀ k, k < 7 → parseFieldDescriptor (TX6 k).2.2.1 = some (tyX6 k) := by decide +kernel
abbrev cX6_init : ByteArray := prog_8_method_1_code
def yX6_init : MethodName := ⟨RX6, "<init>", "(LMiddleSpeaks$Scene;LMiddleSpeaks$House;)V"⟩
abbrev cX6_look : ByteArray := prog_8_method_2_code
def yX6_look : MethodName := ⟨RX6, "look", "(LMiddleSpeaks$House;)V"⟩
abbrev cX6_priceOf : ByteArray := prog_8_method_3_code
def yX6_priceOf : MethodName := ⟨RX6, "priceOf", "(III)I"⟩
abbrev cX6_isBarred : ByteArray := prog_8_method_4_code
def yX6_isBarred : MethodName := ⟨RX6, "isBarred", "(III)Z"⟩
abbrev cX6_worthTo : ByteArray := prog_8_method_5_code
def yX6_worthTo : MethodName := ⟨RX6, "worthTo", "(III)I"⟩
abbrev cX6_setFacts : ByteArray := prog_8_method_6_code
def yX6_setFacts : MethodName := ⟨RX6, "setFacts", "(IIII)V"⟩
abbrev cX6_tellComings : ByteArray := prog_8_method_7_code
def yX6_tellComings : MethodName := ⟨RX6, "tellComings", "()V"⟩
abbrev cX6_slotOf : ByteArray := prog_8_method_8_code
def yX6_slotOf : MethodName := ⟨RX6, "slotOf", "(III)I"⟩
abbrev cX6_packedNow : ByteArray := prog_8_method_9_code
def yX6_packedNow : MethodName := ⟨RX6, "packedNow", "()I"⟩
abbrev cX6_moved : ByteArray := prog_8_method_10_code
def yX6_moved : MethodName := ⟨RX6, "moved", "(III)I"⟩
abbrev cX6_whoIsAt : ByteArray := prog_8_method_11_code
def yX6_whoIsAt : MethodName := ⟨RX6, "whoIsAt", "(II)I"⟩
abbrev cX6_numberAt : ByteArray := prog_8_method_12_code
def yX6_numberAt : MethodName := ⟨RX6, "numberAt", "(II)I"⟩
abbrev cX6_mayCome : ByteArray := prog_8_method_13_code
def yX6_mayCome : MethodName := ⟨RX6, "mayCome", "(III)Z"⟩
abbrev cX6_priceFrom : ByteArray := prog_8_method_14_code
def yX6_priceFrom : MethodName := ⟨RX6, "priceFrom", "(III)I"⟩
abbrev cX6_speakers : ByteArray := prog_8_method_15_code
def yX6_speakers : MethodName := ⟨RX6, "speakers", "(III)I"⟩
abbrev cX6_lineUp : ByteArray := prog_8_method_16_code
def yX6_lineUp : MethodName := ⟨RX6, "lineUp", "(I[I)I"⟩
abbrev cX6_placeInLine : ByteArray := prog_8_method_17_code
def yX6_placeInLine : MethodName := ⟨RX6, "placeInLine", "(IIII)I"⟩
abbrev cX6_withoutNear : ByteArray := prog_8_method_18_code
def yX6_withoutNear : MethodName := ⟨RX6, "withoutNear", "(II[I)I"⟩
abbrev cX6_isNearAnother : ByteArray := prog_8_method_19_code
def yX6_isNearAnother : MethodName := ⟨RX6, "isNearAnother", "(II[I)Z"⟩
abbrev cX6_sayable : ByteArray := prog_8_method_20_code
def yX6_sayable : MethodName := ⟨RX6, "sayable", "()I"⟩
abbrev cX6_isSaid : ByteArray := prog_8_method_21_code
def yX6_isSaid : MethodName := ⟨RX6, "isSaid", "(II)Z"⟩
def RX7 : String := "MiddleSpeaks$Tape"
def TX7 : u_T := fun k => match k with
  | 0 => ("MiddleSpeaks$Tape", "sort", "I", false)
  | 1 => ("MiddleSpeaks$Tape", "length", "I", false)
  | _ => ("MiddleSpeaks$Tape", "items", "[J", true)
def tyX7 : Nat → FieldType := fun k => match k with
  | 0 => .int
  | 1 => .int
  | _ => .array .long
abbrev wsX70 : List Cond := u_ws RX7 TX7 3
theorem nmX7 : ∀ a, a < 3 → ∀ b, b < 3 → a ≠ b → (TX7 a).2.1 ≠ (TX7 b).2.1 := by decide +kernel
theorem tyX7_ok : ∀ k, k < 3 → parseFieldDescriptor (TX7 k).2.2.1 = some (tyX7 k) := by decide +kernel
abbrev cX7_init : ByteArray := prog_9_method_1_code
def yX7_init : MethodName := ⟨RX7, "<init>", "()V"⟩
abbrev cX7_holdsRow : ByteArray := prog_9_method_2_code
def yX7_holdsRow : MethodName := ⟨RX7, "holdsRow", "()Z"⟩
abbrev cX7_holdNothing : ByteArray := prog_9_method_3_code
def yX7_holdNothing : MethodName := ⟨RX7, "holdNothing", "()V"⟩
abbrev cX7_holdZeros : ByteArray := prog_9_method_4_code
def yX7_holdZeros : MethodName := ⟨RX7, "holdZeros", "(II)V"⟩
abbrev cX7_hasPlace : ByteArray := prog_9_method_5_code
def yX7_hasPlace : MethodName := ⟨RX7, "hasPlace", "(I)Z"⟩
abbrev cX7_hasPart : ByteArray := prog_9_method_6_code
def yX7_hasPart : MethodName := ⟨RX7, "hasPart", "(II)Z"⟩
abbrev cX7_put : ByteArray := prog_9_method_7_code
def yX7_put : MethodName := ⟨RX7, "put", "(IJ)V"⟩
abbrev cX7_narrowed : ByteArray := prog_9_method_8_code
def yX7_narrowed : MethodName := ⟨RX7, "narrowed", "(J)J"⟩
def RX8 : String := "MiddleSpeaks$Turns"
def TX8 : u_T := fun k => match k with
  | _ => ("MiddleSpeaks$Turns", "standing", "LMiddleSpeaks$Standing;", true)
def tyX8 : Nat → FieldType := fun k => match k with
  | _ => .object "MiddleSpeaks$Standing"
abbrev wsX80 : List Cond := u_ws RX8 TX8 1
theorem nmX8 : ∀ a, a < 1 → ∀ b, b < 1 → a ≠ b → (TX8 a).2.1 ≠ (TX8 b).2.1 := by decide +kernel
theorem tyX8_ok : ∀ k, k < 1 → parseFieldDescriptor (TX8 k).2.2.1 = some (tyX8 k) := by decide +kernel
abbrev cX8_init : ByteArray := prog_10_method_1_code
def yX8_init : MethodName := ⟨RX8, "<init>", "(LMiddleSpeaks$Standing;)V"⟩
abbrev cX8_canWin : ByteArray := prog_10_method_2_code
def yX8_canWin : MethodName := ⟨RX8, "canWin", "(III)Z"⟩
abbrev cX8_wins : ByteArray := prog_10_method_3_code
def yX8_wins : MethodName := ⟨RX8, "wins", "(IIIIIZ)Z"⟩
abbrev cX8_oddsOfSpeaking : ByteArray := prog_10_method_4_code
def yX8_oddsOfSpeaking : MethodName := ⟨RX8, "oddsOfSpeaking", "(IIZ)J"⟩
abbrev cX8_sharesSpeaking : ByteArray := prog_10_method_5_code
def yX8_sharesSpeaking : MethodName := ⟨RX8, "sharesSpeaking", "(IIIIJ)J"⟩
abbrev cX8_waysOn : ByteArray := prog_10_method_6_code
def yX8_waysOn : MethodName := ⟨RX8, "waysOn", "(I)I"⟩
abbrev cX8_greatestDivisor : ByteArray := prog_10_method_7_code
def yX8_greatestDivisor : MethodName := ⟨RX8, "greatestDivisor", "(JJ)J"⟩
def RX9 : String := "MiddleSpeaks$Walk"
def TX9 : u_T := fun k => match k with
  | 0 => ("MiddleSpeaks$Walk", "standing", "LMiddleSpeaks$Standing;", true)
  | 1 => ("MiddleSpeaks$Walk", "least", "[I", true)
  | 2 => ("MiddleSpeaks$Walk", "next", "[I", true)
  | 3 => ("MiddleSpeaks$Walk", "speakersOf", "[I", true)
  | 4 => ("MiddleSpeaks$Walk", "states", "I", false)
  | 5 => ("MiddleSpeaks$Walk", "gone", "I", false)
  | 6 => ("MiddleSpeaks$Walk", "isSettled", "Z", false)
  | _ => ("MiddleSpeaks$Walk", "isOfCosts", "Z", false)
def tyX9 : Nat → FieldType := fun k => match k with
  | 0 => .object "MiddleSpeaks$Standing"
  | 1 => .array .int
  | 2 => .array .int
  | 3 => .array .int
  | 4 => .int
  | 5 => .int
  | 6 => .boolean
  | _ => .boolean
abbrev wsX90 : List Cond := u_ws RX9 TX9 8
theorem nmX9 : ∀ a, a < 8 → ∀ b, b < 8 → a ≠ b → (TX9 a).2.1 ≠ (TX9 b).2.1 := by decide +kernel
theorem tyX9_ok : ∀ k, k < 8 → parseFieldDescriptor (TX9 k).2.2.1 = some (tyX9 k) := by decide +kernel
abbrev cX9_init : ByteArray := prog_11_method_1_code
def yX9_init : MethodName := ⟨RX9, "<init>", "(LMiddleSpeaks$Standing;)V"⟩
abbrev cX9_fewestComings : ByteArray := prog_11_method_2_code
def yX9_fewestComings : MethodName := ⟨RX9, "fewestComings", "(IIZ)I"⟩
abbrev cX9_leastCost : ByteArray := prog_11_method_3_code
def yX9_leastCost : MethodName := ⟨RX9, "leastCost", "(III)I"⟩
abbrev cX9_whoNeverCan : ByteArray := prog_11_method_4_code
def yX9_whoNeverCan : MethodName := ⟨RX9, "whoNeverCan", "(I)I"⟩
abbrev cX9_begin : ByteArray := prog_11_method_5_code
def yX9_begin : MethodName := ⟨RX9, "begin", "(Z)V"⟩
abbrev cX9_goOn : ByteArray := prog_11_method_6_code
def yX9_goOn : MethodName := ⟨RX9, "goOn", "()V"⟩
abbrev cX9_leave : ByteArray := prog_11_method_7_code
def yX9_leave : MethodName := ⟨RX9, "leave", "(I)V"⟩
abbrev cX9_carried : ByteArray := prog_11_method_8_code
def yX9_carried : MethodName := ⟨RX9, "carried", "(III)I"⟩
abbrev cX9_takeNext : ByteArray := prog_11_method_9_code
def yX9_takeNext : MethodName := ⟨RX9, "takeNext", "()Z"⟩
abbrev cX9_tellSpeakers : ByteArray := prog_11_method_10_code
def yX9_tellSpeakers : MethodName := ⟨RX9, "tellSpeakers", "(I)V"⟩
abbrev cX9_leastWith : ByteArray := prog_11_method_11_code
def yX9_leastWith : MethodName := ⟨RX9, "leastWith", "(II)I"⟩
abbrev cX9_whoCanSpeak : ByteArray := prog_11_method_12_code
def yX9_whoCanSpeak : MethodName := ⟨RX9, "whoCanSpeak", "(I)I"⟩
def RX10 : String := "MiddleSpeaks"
def TX10 : u_T := fun k => match k with
  | 0 => ("MiddleSpeaks", "now", "LMiddleSpeaks$Scene;", true)
  | 1 => ("MiddleSpeaks", "kept", "LMiddleSpeaks$Scene;", true)
  | 2 => ("MiddleSpeaks", "isKept", "Z", false)
  | 3 => ("MiddleSpeaks", "text", "[I", true)
  | 4 => ("MiddleSpeaks", "textLength", "I", false)
  | 5 => ("MiddleSpeaks", "houses", "[LMiddleSpeaks$House;", true)
  | 6 => ("MiddleSpeaks", "houseCount", "I", false)
  | 7 => ("MiddleSpeaks", "bare", "LMiddleSpeaks$House;", true)
  | 8 => ("MiddleSpeaks", "reader", "LMiddleSpeaks$HouseReader;", true)
  | 9 => ("MiddleSpeaks", "standing", "LMiddleSpeaks$Standing;", true)
  | 10 => ("MiddleSpeaks", "walk", "LMiddleSpeaks$Walk;", true)
  | 11 => ("MiddleSpeaks", "hearing", "LMiddleSpeaks$Hearing;", true)
  | 12 => ("MiddleSpeaks", "turns", "LMiddleSpeaks$Turns;", true)
  | 13 => ("MiddleSpeaks", "orders", "LMiddleSpeaks$Orders;", true)
  | 14 => ("MiddleSpeaks", "acts", "LMiddleSpeaks$Acts;", true)
  | _ => ("MiddleSpeaks", "tapes", "[LMiddleSpeaks$Tape;", true)
def tyX10 : Nat → FieldType := fun k => match k with
  | 0 => .object "MiddleSpeaks$Scene"
  | 1 => .object "MiddleSpeaks$Scene"
  | 2 => .boolean
  | 3 => .array .int
  | 4 => .int
  | 5 => .array (.object "MiddleSpeaks$House")
  | 6 => .int
  | 7 => .object "MiddleSpeaks$House"
  | 8 => .object "MiddleSpeaks$HouseReader"
  | 9 => .object "MiddleSpeaks$Standing"
  | 10 => .object "MiddleSpeaks$Walk"
  | 11 => .object "MiddleSpeaks$Hearing"
  | 12 => .object "MiddleSpeaks$Turns"
  | 13 => .object "MiddleSpeaks$Orders"
  | 14 => .object "MiddleSpeaks$Acts"
  | _ => .array (.object "MiddleSpeaks$Tape")
abbrev wsX100 : List Cond := u_ws RX10 TX10 16
theorem nmX10 : ∀ a, a < 16 → ∀ b, b < 16 → a ≠ b → (TX10 a).2.1 ≠ (TX10 b).2.1 := by decide +kernel
theorem tyX10_ok : ∀ k, k < 16 → parseFieldDescriptor (TX10 k).2.2.1 = some (tyX10 k) := by decide +kernel
abbrev cX10_init : ByteArray := prog_1_method_1_code
def yX10_init : MethodName := ⟨RX10, "<init>", "()V"⟩
abbrev cX10_person : ByteArray := prog_1_method_2_code
def yX10_person : MethodName := ⟨RX10, "person", "(III)I"⟩
abbrev cX10_of : ByteArray := prog_1_method_3_code
def yX10_of : MethodName := ⟨RX10, "of", "(II)I"⟩
abbrev cX10_learn : ByteArray := prog_1_method_4_code
def yX10_learn : MethodName := ⟨RX10, "learn", "(II)I"⟩
abbrev cX10_room : ByteArray := prog_1_method_5_code
def yX10_room : MethodName := ⟨RX10, "room", "(III)I"⟩
abbrev cX10_inside : ByteArray := prog_1_method_6_code
def yX10_inside : MethodName := ⟨RX10, "inside", "(II)I"⟩
abbrev cX10_feed : ByteArray := prog_1_method_7_code
def yX10_feed : MethodName := ⟨RX10, "feed", "(I)I"⟩
abbrev cX10_house : ByteArray := prog_1_method_8_code
def yX10_house : MethodName := ⟨RX10, "house", "()I"⟩
abbrev cX10_told : ByteArray := prog_1_method_9_code
def yX10_told : MethodName := ⟨RX10, "told", "(I)I"⟩
abbrev cX10_coming : ByteArray := prog_1_method_10_code
def yX10_coming : MethodName := ⟨RX10, "coming", "(III)I"⟩
abbrev cX10_come : ByteArray := prog_1_method_11_code
def yX10_come : MethodName := ⟨RX10, "come", "(II)I"⟩
abbrev cX10_say : ByteArray := prog_1_method_12_code
def yX10_say : MethodName := ⟨RX10, "say", "(II)I"⟩
abbrev cX10_soonest : ByteArray := prog_1_method_13_code
def yX10_soonest : MethodName := ⟨RX10, "soonest", "(III)I"⟩
abbrev cX10_cheapest : ByteArray := prog_1_method_14_code
def yX10_cheapest : MethodName := ⟨RX10, "cheapest", "(III)I"⟩
abbrev cX10_never : ByteArray := prog_1_method_15_code
def yX10_never : MethodName := ⟨RX10, "never", "(I)I"⟩
abbrev cX10_heard : ByteArray := prog_1_method_16_code
def yX10_heard : MethodName := ⟨RX10, "heard", "(I)I"⟩
abbrev cX10_secret : ByteArray := prog_1_method_17_code
def yX10_secret : MethodName := ⟨RX10, "secret", "(III)I"⟩
abbrev cX10_game : ByteArray := prog_1_method_18_code
def yX10_game : MethodName := ⟨RX10, "game", "(III)I"⟩
abbrev cX10_votes : ByteArray := prog_1_method_19_code
def yX10_votes : MethodName := ⟨RX10, "votes", "(II)I"⟩
abbrev cX10_spoken : ByteArray := prog_1_method_20_code
def yX10_spoken : MethodName := ⟨RX10, "spoken", "(II)I"⟩
abbrev cX10_fits : ByteArray := prog_1_method_21_code
def yX10_fits : MethodName := ⟨RX10, "fits", "()I"⟩
abbrev cX10_lot : ByteArray := prog_1_method_22_code
def yX10_lot : MethodName := ⟨RX10, "lot", "(III)J"⟩
abbrev cX10_book : ByteArray := prog_1_method_23_code
def yX10_book : MethodName := ⟨RX10, "book", "(I)I"⟩
abbrev cX10_readBook : ByteArray := prog_1_method_24_code
def yX10_readBook : MethodName := ⟨RX10, "readBook", "()I"⟩
abbrev cX10_judge : ByteArray := prog_1_method_25_code
def yX10_judge : MethodName := ⟨RX10, "judge", "(II)I"⟩
abbrev cX10_image : ByteArray := prog_1_method_26_code
def yX10_image : MethodName := ⟨RX10, "image", "()I"⟩
abbrev cX10_undo : ByteArray := prog_1_method_27_code
def yX10_undo : MethodName := ⟨RX10, "undo", "()I"⟩
abbrev cX10_act : ByteArray := prog_1_method_28_code
def yX10_act : MethodName := ⟨RX10, "act", "(III)I"⟩
abbrev cX10_trace : ByteArray := prog_1_method_29_code
def yX10_trace : MethodName := ⟨RX10, "trace", "(I)I"⟩
abbrev cX10_taken : ByteArray := prog_1_method_30_code
def yX10_taken : MethodName := ⟨RX10, "taken", "(II)I"⟩
abbrev cX10_count : ByteArray := prog_1_method_31_code
def yX10_count : MethodName := ⟨RX10, "count", "(I)I"⟩
abbrev cX10_tape : ByteArray := prog_1_method_32_code
def yX10_tape : MethodName := ⟨RX10, "tape", "(III)I"⟩
abbrev cX10_item : ByteArray := prog_1_method_33_code
def yX10_item : MethodName := ⟨RX10, "item", "(IIJ)I"⟩
abbrev cX10_read : ByteArray := prog_1_method_34_code
def yX10_read : MethodName := ⟨RX10, "read", "(II)J"⟩
abbrev cX10_shift : ByteArray := prog_1_method_35_code
def yX10_shift : MethodName := ⟨RX10, "shift", "(IIIII)I"⟩
abbrev cX10_isFromTo : ByteArray := prog_1_method_36_code
def yX10_isFromTo : MethodName := ⟨RX10, "isFromTo", "(III)Z"⟩
abbrev cX10_isRoom : ByteArray := prog_1_method_37_code
def yX10_isRoom : MethodName := ⟨RX10, "isRoom", "(I)Z"⟩
abbrev cX10_isPlace : ByteArray := prog_1_method_38_code
def yX10_isPlace : MethodName := ⟨RX10, "isPlace", "(I)Z"⟩
abbrev cX10_isThing : ByteArray := prog_1_method_39_code
def yX10_isThing : MethodName := ⟨RX10, "isThing", "(I)Z"⟩
abbrev cX10_isTape : ByteArray := prog_1_method_40_code
def yX10_isTape : MethodName := ⟨RX10, "isTape", "(I)Z"⟩
abbrev cX10_isPerson : ByteArray := prog_1_method_41_code
def yX10_isPerson : MethodName := ⟨RX10, "isPerson", "(I)Z"⟩
abbrev cX10_isKindOrUnder : ByteArray := prog_1_method_42_code
def yX10_isKindOrUnder : MethodName := ⟨RX10, "isKindOrUnder", "(II)Z"⟩
abbrev cX10_holding : ByteArray := prog_1_method_43_code
def yX10_holding : MethodName := ⟨RX10, "holding", "()LMiddleSpeaks$House;"⟩
abbrev cX10_lookAhead : ByteArray := prog_1_method_44_code
def yX10_lookAhead : MethodName := ⟨RX10, "lookAhead", "()V"⟩
abbrev cX10_speakersNow : ByteArray := prog_1_method_45_code
def yX10_speakersNow : MethodName := ⟨RX10, "speakersNow", "(I)I"⟩
abbrev cX10_maySpeakNow : ByteArray := prog_1_method_46_code
def yX10_maySpeakNow : MethodName := ⟨RX10, "maySpeakNow", "(I)Z"⟩
abbrev cX10_priceNow : ByteArray := prog_1_method_47_code
def yX10_priceNow : MethodName := ⟨RX10, "priceNow", "(II)I"⟩
abbrev cX10_isBarredNow : ByteArray := prog_1_method_48_code
def yX10_isBarredNow : MethodName := ⟨RX10, "isBarredNow", "(II)Z"⟩
abbrev cX10_numberWith : ByteArray := prog_1_method_49_code
def yX10_numberWith : MethodName := ⟨RX10, "numberWith", "(I)I"⟩
abbrev cX10_firstOtherwise : ByteArray := prog_1_method_50_code
def yX10_firstOtherwise : MethodName := ⟨RX10, "firstOtherwise", "(LMiddleSpeaks$Tape;I)I"⟩
def RX11 : String := "MiddleSpeaksModel"
def TX11 : u_T := fun k => match k with
  | 0 => ("MiddleSpeaksModel", "people", "I", false)
  | 1 => ("MiddleSpeaksModel", "where", "I", false)
  | 2 => ("MiddleSpeaksModel", "comings", "I", false)
  | 3 => ("MiddleSpeaksModel", "cost", "I", false)
  | 4 => ("MiddleSpeaksModel", "age", "[I", true)
  | 5 => ("MiddleSpeaksModel", "height", "[I", true)
  | 6 => ("MiddleSpeaksModel", "knows", "[I", true)
  | 7 => ("MiddleSpeaksModel", "kind", "[I", true)
  | 8 => ("MiddleSpeaksModel", "v", "[I", true)
  | 9 => ("MiddleSpeaksModel", "same", "I", false)
  | 10 => ("MiddleSpeaksModel", "houses", "I", false)
  | 11 => ("MiddleSpeaksModel", "the", "I", false)
  | 12 => ("MiddleSpeaksModel", "fed", "I", false)
  | 13 => ("MiddleSpeaksModel", "at", "I", false)
  | 14 => ("MiddleSpeaksModel", "digits", "I", false)
  | 15 => ("MiddleSpeaksModel", "text", "[I", true)
  | 16 => ("MiddleSpeaksModel", "clauses", "[I", true)
  | 17 => ("MiddleSpeaksModel", "word", "[I", true)
  | 18 => ("MiddleSpeaksModel", "number", "[I", true)
  | 19 => ("MiddleSpeaksModel", "from", "[I", true)
  | 20 => ("MiddleSpeaksModel", "to", "[I", true)
  | 21 => ("MiddleSpeaksModel", "sign", "[I", true)
  | 22 => ("MiddleSpeaksModel", "waits", "[I", true)
  | 23 => ("MiddleSpeaksModel", "signs", "I", false)
  | 24 => ("MiddleSpeaksModel", "waiting", "I", false)
  | 25 => ("MiddleSpeaksModel", "open", "I", false)
  | 26 => ("MiddleSpeaksModel", "letters", "[I", true)
  | 27 => ("MiddleSpeaksModel", "pile", "[Z", true)
  | 28 => ("MiddleSpeaksModel", "priceOf", "[I", true)
  | 29 => ("MiddleSpeaksModel", "barredOf", "[Z", true)
  | 30 => ("MiddleSpeaksModel", "now", "[Z", true)
  | 31 => ("MiddleSpeaksModel", "then", "[Z", true)
  | 32 => ("MiddleSpeaksModel", "leastNow", "[I", true)
  | 33 => ("MiddleSpeaksModel", "leastThen", "[I", true)
  | 34 => ("MiddleSpeaksModel", "knownNow", "[Z", true)
  | 35 => ("MiddleSpeaksModel", "knownThen", "[Z", true)
  | 36 => ("MiddleSpeaksModel", "rows", "I", false)
  | 37 => ("MiddleSpeaksModel", "rowSet", "[I", true)
  | 38 => ("MiddleSpeaksModel", "rowWho", "[I", true)
  | 39 => ("MiddleSpeaksModel", "rank", "[I", true)
  | 40 => ("MiddleSpeaksModel", "lotAbove", "J", false)
  | 41 => ("MiddleSpeaksModel", "lotBelow", "J", false)
  | 42 => ("MiddleSpeaksModel", "booked", "I", false)
  | 43 => ("MiddleSpeaksModel", "sayings", "[I", true)
  | 44 => ("MiddleSpeaksModel", "knewThen", "[I", true)
  | 45 => ("MiddleSpeaksModel", "hasImage", "Z", false)
  | 46 => ("MiddleSpeaksModel", "imageThe", "I", false)
  | 47 => ("MiddleSpeaksModel", "imagePeople", "I", false)
  | 48 => ("MiddleSpeaksModel", "imageWhere", "I", false)
  | 49 => ("MiddleSpeaksModel", "imageComings", "I", false)
  | 50 => ("MiddleSpeaksModel", "imageCost", "I", false)
  | 51 => ("MiddleSpeaksModel", "imageRows", "I", false)
  | 52 => ("MiddleSpeaksModel", "imageBooked", "I", false)
  | 53 => ("MiddleSpeaksModel", "imageAge", "[I", true)
  | 54 => ("MiddleSpeaksModel", "imageHeight", "[I", true)
  | 55 => ("MiddleSpeaksModel", "imageKnows", "[I", true)
  | 56 => ("MiddleSpeaksModel", "imageKind", "[I", true)
  | 57 => ("MiddleSpeaksModel", "imageV", "[I", true)
  | 58 => ("MiddleSpeaksModel", "imageSet", "[I", true)
  | 59 => ("MiddleSpeaksModel", "imageWho", "[I", true)
  | 60 => ("MiddleSpeaksModel", "imageSayings", "[I", true)
  | 61 => ("MiddleSpeaksModel", "ran", "I", false)
  | 62 => ("MiddleSpeaksModel", "bodies", "[I", true)
  | 63 => ("MiddleSpeaksModel", "sort", "[I", true)
  | 64 => ("MiddleSpeaksModel", "length", "[I", true)
  | 65 => ("MiddleSpeaksModel", "item", "[J", true)
  | _ => ("MiddleSpeaksModel", "aside", "[J", true)
def tyX11 : Nat → FieldType := fun k => match k with
  | 0 => .int
  | 1 => .int
  | 2 => .int
  | 3 => .int
  | 4 => .array .int
  | 5 => .array .int
  | 6 => .array .int
  | 7 => .array .int
  | 8 => .array .int
  | 9 => .int
  | 10 => .int
  | 11 => .int
  | 12 => .int
  | 13 => .int
  | 14 => .int
  | 15 => .array .int
  | 16 => .array .int
  | 17 => .array .int
  | 18 => .array .int
  | 19 => .array .int
  | 20 => .array .int
  | 21 => .array .int
  | 22 => .array .int
  | 23 => .int
  | 24 => .int
  | 25 => .int
  | 26 => .array .int
  | 27 => .array .boolean
  | 28 => .array .int
  | 29 => .array .boolean
  | 30 => .array .boolean
  | 31 => .array .boolean
  | 32 => .array .int
  | 33 => .array .int
  | 34 => .array .boolean
  | 35 => .array .boolean
  | 36 => .int
  | 37 => .array .int
  | 38 => .array .int
  | 39 => .array .int
  | 40 => .long
  | 41 => .long
  | 42 => .int
  | 43 => .array .int
  | 44 => .array .int
  | 45 => .boolean
  | 46 => .int
  | 47 => .int
  | 48 => .int
  | 49 => .int
  | 50 => .int
  | 51 => .int
  | 52 => .int
  | 53 => .array .int
  | 54 => .array .int
  | 55 => .array .int
  | 56 => .array .int
  | 57 => .array .int
  | 58 => .array .int
  | 59 => .array .int
  | 60 => .array .int
  | 61 => .int
  | 62 => .array .int
  | 63 => .array .int
  | 64 => .array .int
  | 65 => .array .long
  | _ => .array .long
abbrev wsX110 : List Cond := u_ws RX11 TX11 67
theorem nmX11 : ∀ a, a < 67 → ∀ b, b < 67 → a ≠ b → (TX11 a).2.1 ≠ (TX11 b).2.1 := by decide +kernel
theorem tyX11_ok : ∀ k, k < 67 → parseFieldDescriptor (TX11 k).2.2.1 = some (tyX11 k) := by decide +kernel
abbrev cX11_init : ByteArray := prog_13_method_1_code
def yX11_init : MethodName := ⟨RX11, "<init>", "()V"⟩
abbrev cX11_within : ByteArray := prog_13_method_2_code
def yX11_within : MethodName := ⟨RX11, "within", "(III)Z"⟩
abbrev cX11_has : ByteArray := prog_13_method_3_code
def yX11_has : MethodName := ⟨RX11, "has", "(II)Z"⟩
abbrev cX11_ones : ByteArray := prog_13_method_4_code
def yX11_ones : MethodName := ⟨RX11, "ones", "(I)I"⟩
abbrev cX11_isPerson : ByteArray := prog_13_method_5_code
def yX11_isPerson : MethodName := ⟨RX11, "isPerson", "(I)Z"⟩
abbrev cX11_isRoom : ByteArray := prog_13_method_6_code
def yX11_isRoom : MethodName := ⟨RX11, "isRoom", "(I)Z"⟩
abbrev cX11_isPlace : ByteArray := prog_13_method_7_code
def yX11_isPlace : MethodName := ⟨RX11, "isPlace", "(I)Z"⟩
abbrev cX11_isThing : ByteArray := prog_13_method_8_code
def yX11_isThing : MethodName := ⟨RX11, "isThing", "(I)Z"⟩
abbrev cX11_placeOf : ByteArray := prog_13_method_9_code
def yX11_placeOf : MethodName := ⟨RX11, "placeOf", "(II)I"⟩
abbrev cX11_moved : ByteArray := prog_13_method_10_code
def yX11_moved : MethodName := ⟨RX11, "moved", "(III)I"⟩
abbrev cX11_manyIn : ByteArray := prog_13_method_11_code
def yX11_manyIn : MethodName := ⟨RX11, "manyIn", "(II)I"⟩
abbrev cX11_person : ByteArray := prog_13_method_12_code
def yX11_person : MethodName := ⟨RX11, "person", "(III)I"⟩
abbrev cX11_measure : ByteArray := prog_13_method_13_code
def yX11_measure : MethodName := ⟨RX11, "measure", "(II)I"⟩
abbrev cX11_placeInLine : ByteArray := prog_13_method_14_code
def yX11_placeInLine : MethodName := ⟨RX11, "placeInLine", "(III)I"⟩
abbrev cX11_hasLike : ByteArray := prog_13_method_15_code
def yX11_hasLike : MethodName := ⟨RX11, "hasLike", "(IIII)Z"⟩
abbrev cX11_isMiddle : ByteArray := prog_13_method_16_code
def yX11_isMiddle : MethodName := ⟨RX11, "isMiddle", "(IIII)Z"⟩
abbrev cX11_maySpeak : ByteArray := prog_13_method_17_code
def yX11_maySpeak : MethodName := ⟨RX11, "maySpeak", "(III)Z"⟩
abbrev cX11_of : ByteArray := prog_13_method_18_code
def yX11_of : MethodName := ⟨RX11, "of", "(II)I"⟩
abbrev cX11_learn : ByteArray := prog_13_method_19_code
def yX11_learn : MethodName := ⟨RX11, "learn", "(II)I"⟩
abbrev cX11_room : ByteArray := prog_13_method_20_code
def yX11_room : MethodName := ⟨RX11, "room", "(III)I"⟩
abbrev cX11_inside : ByteArray := prog_13_method_21_code
def yX11_inside : MethodName := ⟨RX11, "inside", "(II)I"⟩
abbrev cX11_feed : ByteArray := prog_13_method_22_code
def yX11_feed : MethodName := ⟨RX11, "feed", "(I)I"⟩
abbrev cX11_next : ByteArray := prog_13_method_23_code
def yX11_next : MethodName := ⟨RX11, "next", "()I"⟩
abbrev cX11_takes : ByteArray := prog_13_method_25_code
def yX11_takes : MethodName := ⟨RX11, "takes", "(I)Z"⟩
abbrev cX11_takesWord : ByteArray := prog_13_method_26_code
def yX11_takesWord : MethodName := ⟨RX11, "takesWord", "(II)Z"⟩
abbrev cX11_isDigit : ByteArray := prog_13_method_27_code
def yX11_isDigit : MethodName := ⟨RX11, "isDigit", "()Z"⟩
abbrev cX11_takesNumber : ByteArray := prog_13_method_28_code
def yX11_takesNumber : MethodName := ⟨RX11, "takesNumber", "()Z"⟩
abbrev cX11_put : ByteArray := prog_13_method_29_code
def yX11_put : MethodName := ⟨RX11, "put", "(I)V"⟩
abbrev cX11_whole : ByteArray := prog_13_method_30_code
def yX11_whole : MethodName := ⟨RX11, "whole", "()V"⟩
abbrev cX11_settle : ByteArray := prog_13_method_31_code
def yX11_settle : MethodName := ⟨RX11, "settle", "(I)V"⟩
abbrev cX11_place : ByteArray := prog_13_method_32_code
def yX11_place : MethodName := ⟨RX11, "place", "(I)I"⟩
abbrev cX11_takesTest : ByteArray := prog_13_method_33_code
def yX11_takesTest : MethodName := ⟨RX11, "takesTest", "()Z"⟩
abbrev cX11_takesE : ByteArray := prog_13_method_34_code
def yX11_takesE : MethodName := ⟨RX11, "takesE", "(I)Z"⟩
abbrev cX11_takesHead : ByteArray := prog_13_method_35_code
def yX11_takesHead : MethodName := ⟨RX11, "takesHead", "(I)Z"⟩
abbrev cX11_takesClause : ByteArray := prog_13_method_36_code
def yX11_takesClause : MethodName := ⟨RX11, "takesClause", "(I)Z"⟩
abbrev cX11_goesText : ByteArray := prog_13_method_37_code
def yX11_goesText : MethodName := ⟨RX11, "goesText", "(I)Z"⟩
abbrev cX11_house : ByteArray := prog_13_method_38_code
def yX11_house : MethodName := ⟨RX11, "house", "()I"⟩
abbrev cX11_first : ByteArray := prog_13_method_39_code
def yX11_first : MethodName := ⟨RX11, "first", "()I"⟩
abbrev cX11_behind : ByteArray := prog_13_method_40_code
def yX11_behind : MethodName := ⟨RX11, "behind", "()I"⟩
abbrev cX11_sameNow : ByteArray := prog_13_method_41_code
def yX11_sameNow : MethodName := ⟨RX11, "sameNow", "()I"⟩
abbrev cX11_told : ByteArray := prog_13_method_42_code
def yX11_told : MethodName := ⟨RX11, "told", "(I)I"⟩
abbrev cX11_factOf : ByteArray := prog_13_method_43_code
def yX11_factOf : MethodName := ⟨RX11, "factOf", "(IIIII)I"⟩
abbrev cX11_holds : ByteArray := prog_13_method_44_code
def yX11_holds : MethodName := ⟨RX11, "holds", "(IIIII)Z"⟩
abbrev cX11_sumOf : ByteArray := prog_13_method_45_code
def yX11_sumOf : MethodName := ⟨RX11, "sumOf", "(IIIII)I"⟩
abbrev cX11_isBarred : ByteArray := prog_13_method_46_code
def yX11_isBarred : MethodName := ⟨RX11, "isBarred", "(III)Z"⟩
abbrev cX11_layComings : ByteArray := prog_13_method_47_code
def yX11_layComings : MethodName := ⟨RX11, "layComings", "()V"⟩
abbrev cX11_comingOf : ByteArray := prog_13_method_48_code
def yX11_comingOf : MethodName := ⟨RX11, "comingOf", "(III)I"⟩
abbrev cX11_mayCome : ByteArray := prog_13_method_49_code
def yX11_mayCome : MethodName := ⟨RX11, "mayCome", "(III)Z"⟩
abbrev cX11_coming : ByteArray := prog_13_method_50_code
def yX11_coming : MethodName := ⟨RX11, "coming", "(III)I"⟩
abbrev cX11_come : ByteArray := prog_13_method_51_code
def yX11_come : MethodName := ⟨RX11, "come", "(II)I"⟩
abbrev cX11_said : ByteArray := prog_13_method_52_code
def yX11_said : MethodName := ⟨RX11, "said", "(II)I"⟩
abbrev cX11_say : ByteArray := prog_13_method_53_code
def yX11_say : MethodName := ⟨RX11, "say", "(II)I"⟩
abbrev cX11_places : ByteArray := prog_13_method_54_code
def yX11_places : MethodName := ⟨RX11, "places", "()I"⟩
abbrev cX11_beginAt : ByteArray := prog_13_method_55_code
def yX11_beginAt : MethodName := ⟨RX11, "beginAt", "(I)V"⟩
abbrev cX11_goOn : ByteArray := prog_13_method_56_code
def yX11_goOn : MethodName := ⟨RX11, "goOn", "()V"⟩
abbrev cX11_canSpeak : ByteArray := prog_13_method_57_code
def yX11_canSpeak : MethodName := ⟨RX11, "canSpeak", "(III)Z"⟩
abbrev cX11_soonestOf : ByteArray := prog_13_method_58_code
def yX11_soonestOf : MethodName := ⟨RX11, "soonestOf", "(II)I"⟩
abbrev cX11_leadsBy : ByteArray := prog_13_method_59_code
def yX11_leadsBy : MethodName := ⟨RX11, "leadsBy", "(IIII)Z"⟩
abbrev cX11_soonest : ByteArray := prog_13_method_60_code
def yX11_soonest : MethodName := ⟨RX11, "soonest", "(III)I"⟩
abbrev cX11_goOnCheap : ByteArray := prog_13_method_61_code
def yX11_goOnCheap : MethodName := ⟨RX11, "goOnCheap", "()V"⟩
abbrev cX11_cheapest : ByteArray := prog_13_method_62_code
def yX11_cheapest : MethodName := ⟨RX11, "cheapest", "(III)I"⟩
abbrev cX11_never : ByteArray := prog_13_method_63_code
def yX11_never : MethodName := ⟨RX11, "never", "(I)I"⟩
abbrev cX11_spread : ByteArray := prog_13_method_64_code
def yX11_spread : MethodName := ⟨RX11, "spread", "(III)I"⟩
abbrev cX11_goOnKnown : ByteArray := prog_13_method_65_code
def yX11_goOnKnown : MethodName := ⟨RX11, "goOnKnown", "(I)V"⟩
abbrev cX11_fewestBy : ByteArray := prog_13_method_66_code
def yX11_fewestBy : MethodName := ⟨RX11, "fewestBy", "(III)I"⟩
abbrev cX11_heard : ByteArray := prog_13_method_67_code
def yX11_heard : MethodName := ⟨RX11, "heard", "(I)I"⟩
abbrev cX11_secret : ByteArray := prog_13_method_68_code
def yX11_secret : MethodName := ⟨RX11, "secret", "(III)I"⟩
abbrev cX11_isWon : ByteArray := prog_13_method_69_code
def yX11_isWon : MethodName := ⟨RX11, "isWon", "(IIII)Z"⟩
abbrev cX11_mayTurn : ByteArray := prog_13_method_70_code
def yX11_mayTurn : MethodName := ⟨RX11, "mayTurn", "(II)Z"⟩
abbrev cX11_behindTurn : ByteArray := prog_13_method_71_code
def yX11_behindTurn : MethodName := ⟨RX11, "behindTurn", "(II)I"⟩
abbrev cX11_turns : ByteArray := prog_13_method_72_code
def yX11_turns : MethodName := ⟨RX11, "turns", "()I"⟩
abbrev cX11_winsThird : ByteArray := prog_13_method_73_code
def yX11_winsThird : MethodName := ⟨RX11, "winsThird", "(IIIIZ)Z"⟩
abbrev cX11_winsSecond : ByteArray := prog_13_method_74_code
def yX11_winsSecond : MethodName := ⟨RX11, "winsSecond", "(IIIII)Z"⟩
abbrev cX11_game : ByteArray := prog_13_method_75_code
def yX11_game : MethodName := ⟨RX11, "game", "(III)I"⟩
abbrev cX11_votes : ByteArray := prog_13_method_76_code
def yX11_votes : MethodName := ⟨RX11, "votes", "(II)I"⟩
abbrev cX11_spoken : ByteArray := prog_13_method_77_code
def yX11_spoken : MethodName := ⟨RX11, "spoken", "(II)I"⟩
abbrev cX11_layOrder : ByteArray := prog_13_method_78_code
def yX11_layOrder : MethodName := ⟨RX11, "layOrder", "(I)Z"⟩
abbrev cX11_goesWithRows : ByteArray := prog_13_method_79_code
def yX11_goesWithRows : MethodName := ⟨RX11, "goesWithRows", "()Z"⟩
abbrev cX11_fits : ByteArray := prog_13_method_80_code
def yX11_fits : MethodName := ⟨RX11, "fits", "()I"⟩
abbrev cX11_divisor : ByteArray := prog_13_method_81_code
def yX11_divisor : MethodName := ⟨RX11, "divisor", "(JJ)J"⟩
abbrev cX11_waysFrom : ByteArray := prog_13_method_82_code
def yX11_waysFrom : MethodName := ⟨RX11, "waysFrom", "(I)I"⟩
abbrev cX11_speaksBehind : ByteArray := prog_13_method_83_code
def yX11_speaksBehind : MethodName := ⟨RX11, "speaksBehind", "(III)I"⟩
abbrev cX11_addLot : ByteArray := prog_13_method_84_code
def yX11_addLot : MethodName := ⟨RX11, "addLot", "(JJ)V"⟩
abbrev cX11_addFrom : ByteArray := prog_13_method_85_code
def yX11_addFrom : MethodName := ⟨RX11, "addFrom", "(IIII)V"⟩
abbrev cX11_layLot : ByteArray := prog_13_method_86_code
def yX11_layLot : MethodName := ⟨RX11, "layLot", "(II)V"⟩
abbrev cX11_lot : ByteArray := prog_13_method_87_code
def yX11_lot : MethodName := ⟨RX11, "lot", "(III)J"⟩
abbrev cX11_book : ByteArray := prog_13_method_88_code
def yX11_book : MethodName := ⟨RX11, "book", "(I)I"⟩
abbrev cX11_readBook : ByteArray := prog_13_method_89_code
def yX11_readBook : MethodName := ⟨RX11, "readBook", "()I"⟩
abbrev cX11_judge : ByteArray := prog_13_method_90_code
def yX11_judge : MethodName := ⟨RX11, "judge", "(II)I"⟩
abbrev cX11_image : ByteArray := prog_13_method_91_code
def yX11_image : MethodName := ⟨RX11, "image", "()I"⟩
abbrev cX11_undo : ByteArray := prog_13_method_92_code
def yX11_undo : MethodName := ⟨RX11, "undo", "()I"⟩
abbrev cX11_body : ByteArray := prog_13_method_93_code
def yX11_body : MethodName := ⟨RX11, "body", "(I)V"⟩
abbrev cX11_roomHears : ByteArray := prog_13_method_94_code
def yX11_roomHears : MethodName := ⟨RX11, "roomHears", "(II)I"⟩
abbrev cX11_hearsAct : ByteArray := prog_13_method_95_code
def yX11_hearsAct : MethodName := ⟨RX11, "hearsAct", "(II)I"⟩
abbrev cX11_roomSpeaks : ByteArray := prog_13_method_96_code
def yX11_roomSpeaks : MethodName := ⟨RX11, "roomSpeaks", "(II)I"⟩
abbrev cX11_lowerSpeaks : ByteArray := prog_13_method_97_code
def yX11_lowerSpeaks : MethodName := ⟨RX11, "lowerSpeaks", "(II)I"⟩
abbrev cX11_speaksAct : ByteArray := prog_13_method_98_code
def yX11_speaksAct : MethodName := ⟨RX11, "speaksAct", "(II)I"⟩
abbrev cX11_roomTells : ByteArray := prog_13_method_99_code
def yX11_roomTells : MethodName := ⟨RX11, "roomTells", "(II)I"⟩
abbrev cX11_tellsAct : ByteArray := prog_13_method_100_code
def yX11_tellsAct : MethodName := ⟨RX11, "tellsAct", "(II)I"⟩
abbrev cX11_act : ByteArray := prog_13_method_101_code
def yX11_act : MethodName := ⟨RX11, "act", "(III)I"⟩
abbrev cX11_trace : ByteArray := prog_13_method_102_code
def yX11_trace : MethodName := ⟨RX11, "trace", "(I)I"⟩
abbrev cX11_taken : ByteArray := prog_13_method_103_code
def yX11_taken : MethodName := ⟨RX11, "taken", "(II)I"⟩
abbrev cX11_count : ByteArray := prog_13_method_104_code
def yX11_count : MethodName := ⟨RX11, "count", "(I)I"⟩
abbrev cX11_isTape : ByteArray := prog_13_method_105_code
def yX11_isTape : MethodName := ⟨RX11, "isTape", "(I)Z"⟩
abbrev cX11_tape : ByteArray := prog_13_method_106_code
def yX11_tape : MethodName := ⟨RX11, "tape", "(III)I"⟩
abbrev cX11_narrow : ByteArray := prog_13_method_107_code
def yX11_narrow : MethodName := ⟨RX11, "narrow", "(IJ)J"⟩
abbrev cX11_item : ByteArray := prog_13_method_108_code
def yX11_item : MethodName := ⟨RX11, "item", "(IIJ)I"⟩
abbrev cX11_read : ByteArray := prog_13_method_109_code
def yX11_read : MethodName := ⟨RX11, "read", "(II)J"⟩
abbrev cX11_shift : ByteArray := prog_13_method_110_code
def yX11_shift : MethodName := ⟨RX11, "shift", "(IIIII)I"⟩
def RJx145de : String := "java/io/Serializable"
def RJx9f9b0 : String := "java/lang/CharSequence"
def RJ11 : String := "java/lang/Character"
abbrev cJ11_isValidCodePoint_9a6ad : ByteArray := prog_14_method_11_code
def yJ11_isValidCodePoint_9a6ad : MethodName := ⟨RJ11, "isValidCodePoint", "(I)Z"⟩
abbrev cJ11_highSurrogate_5068e : ByteArray := prog_14_method_28_code
def yJ11_highSurrogate_5068e : MethodName := ⟨RJ11, "highSurrogate", "(I)C"⟩
abbrev cJ11_lowSurrogate_5068e : ByteArray := prog_14_method_29_code
def yJ11_lowSurrogate_5068e : MethodName := ⟨RJ11, "lowSurrogate", "(I)C"⟩
def RJxb160c : String := "java/lang/Comparable"
def RJ6 : String := "java/lang/Integer"
abbrev cJ6_bitCount_0f7a4 : ByteArray := prog_15_method_49_code
def yJ6_bitCount_0f7a4 : MethodName := ⟨RJ6, "bitCount", "(I)I"⟩
def RJ9 : String := "java/lang/Math"
abbrev cJ9_max_7cf53 : ByteArray := prog_16_method_65_code
def yJ9_max_7cf53 : MethodName := ⟨RJ9, "max", "(II)I"⟩
abbrev cJ9_min_7cf53 : ByteArray := prog_16_method_69_code
def yJ9_min_7cf53 : MethodName := ⟨RJ9, "min", "(II)I"⟩
def RJ0 : String := "java/lang/String"
abbrev cJ0_length_8abf5 : ByteArray := prog_17_method_54_code
def yJ0_length_8abf5 : MethodName := ⟨RJ0, "length", "()I"⟩
abbrev cJ0_charAt_5068e : ByteArray := prog_17_method_56_code
def yJ0_charAt_5068e : MethodName := ⟨RJ0, "charAt", "(I)C"⟩
abbrev cJ0_indexOf_0f7a4 : ByteArray := prog_17_method_79_code
def yJ0_indexOf_0f7a4 : MethodName := ⟨RJ0, "indexOf", "(I)I"⟩
abbrev cJ0_indexOf_7cf53 : ByteArray := prog_17_method_80_code
def yJ0_indexOf_7cf53 : MethodName := ⟨RJ0, "indexOf", "(II)I"⟩
abbrev cJ0_coder_7d493 : ByteArray := prog_17_method_152_code
def yJ0_coder_7d493 : MethodName := ⟨RJ0, "coder", "()B"⟩
abbrev cJ0_isLatin1_aae02 : ByteArray := prog_17_method_154_code
def yJ0_isLatin1_aae02 : MethodName := ⟨RJ0, "isLatin1", "()Z"⟩
abbrev cJ0_checkIndex_df160 : ByteArray := prog_17_method_155_code
def yJ0_checkIndex_df160 : MethodName := ⟨RJ0, "checkIndex", "(II)V"⟩
abbrev cJ0_checkBoundsBeginEnd_23922 : ByteArray := prog_17_method_158_code
def yJ0_checkBoundsBeginEnd_23922 : MethodName := ⟨RJ0, "checkBoundsBeginEnd", "(III)V"⟩
def RJ1 : String := "java/lang/StringLatin1"
abbrev cJ1_charAt_3b067 : ByteArray := prog_18_method_2_code
def yJ1_charAt_3b067 : MethodName := ⟨RJ1, "charAt", "([BI)C"⟩
abbrev cJ1_canEncode_9a6ad : ByteArray := prog_18_method_4_code
def yJ1_canEncode_9a6ad : MethodName := ⟨RJ1, "canEncode", "(I)Z"⟩
abbrev cJ1_indexOf_4cfef : ByteArray := prog_18_method_22_code
def yJ1_indexOf_4cfef : MethodName := ⟨RJ1, "indexOf", "([BIII)I"⟩
abbrev cJ1_indexOfChar_4cfef : ByteArray := prog_18_method_23_code
def yJ1_indexOfChar_4cfef : MethodName := ⟨RJ1, "indexOfChar", "([BIII)I"⟩
def RJ2 : String := "java/lang/StringUTF16"
abbrev cJ2_getChar_3b067 : ByteArray := prog_19_method_5_code
def yJ2_getChar_3b067 : MethodName := ⟨RJ2, "getChar", "([BI)C"⟩
abbrev cJ2_length_9d52b : ByteArray := prog_19_method_6_code
def yJ2_length_9d52b : MethodName := ⟨RJ2, "length", "([B)I"⟩
abbrev cJ2_indexOf_4cfef : ByteArray := prog_19_method_40_code
def yJ2_indexOf_4cfef : MethodName := ⟨RJ2, "indexOf", "([BIII)I"⟩
abbrev cJ2_indexOfChar_4cfef : ByteArray := prog_19_method_47_code
def yJ2_indexOfChar_4cfef : MethodName := ⟨RJ2, "indexOfChar", "([BIII)I"⟩
abbrev cJ2_indexOfCharUnsafe_4cfef : ByteArray := prog_19_method_48_code
def yJ2_indexOfCharUnsafe_4cfef : MethodName := ⟨RJ2, "indexOfCharUnsafe", "([BIII)I"⟩
abbrev cJ2_indexOfSupplementary_4cfef : ByteArray := prog_19_method_49_code
def yJ2_indexOfSupplementary_4cfef : MethodName := ⟨RJ2, "indexOfSupplementary", "([BIII)I"⟩
abbrev cJ2_charAt_3b067 : ByteArray := prog_19_method_83_code
def yJ2_charAt_3b067 : MethodName := ⟨RJ2, "charAt", "([BI)C"⟩
abbrev cJ2_checkIndex_2214a : ByteArray := prog_19_method_91_code
def yJ2_checkIndex_2214a : MethodName := ⟨RJ2, "checkIndex", "(I[B)V"⟩
abbrev cJ2_checkBoundsBeginEnd_d044e : ByteArray := prog_19_method_93_code
def yJ2_checkBoundsBeginEnd_d044e : MethodName := ⟨RJ2, "checkBoundsBeginEnd", "(II[B)V"⟩
def RJ10 : String := "java/lang/System"
def RJxfd54e : String := "java/lang/constant/Constable"
def RJx3cf43 : String := "java/lang/constant/ConstantDesc"
def RJ7 : String := "java/util/Arrays"
abbrev cJ7_fill_d0a16 : ByteArray := prog_21_method_101_code
def yJ7_fill_d0a16 : MethodName := ⟨RJ7, "fill", "([JJ)V"⟩
abbrev cJ7_fill_53178 : ByteArray := prog_21_method_103_code
def yJ7_fill_53178 : MethodName := ⟨RJ7, "fill", "([II)V"⟩
def RJ3 : String := "jdk/internal/util/Preconditions"
abbrev cJ3_checkIndex_8e157 : ByteArray := prog_22_method_11_code
def yJ3_checkIndex_8e157 : MethodName := ⟨RJ3, "checkIndex", "(IILjava/util/function/BiFunction;)I"⟩
abbrev cJ3_checkFromToIndex_8c36e : ByteArray := prog_22_method_12_code
def yJ3_checkFromToIndex_8c36e : MethodName := ⟨RJ3, "checkFromToIndex", "(IIILjava/util/function/BiFunction;)I"⟩
def RL : String := "MiddleSpeaksLaw"
abbrev cL_law : ByteArray := code
def yL_law : MethodName := ⟨RL, "law", "([I)Z"⟩
abbrev vwCl : List vw_C := [(RX0, TX0, 5), (RX1, TX1, 7), (RX2, TX2, 7), (RX3, TX3, 4), (RX4, TX4, 2), (RX5, TX5, 15), (RX6, TX6, 7), (RX7, TX7, 3), (RX8, TX8, 1), (RX9, TX9, 8), (RX10, TX10, 16), (RX11, TX11, 67)]
end
section

abbrev zq_M : Type := (Nat → Nat → Int32) × (Nat → Nat → Int64) × (Nat → Nat → Option Nat)
abbrev zq_S : Type := (Nat × List Nat) ⊕ (Nat × Nat)
abbrev zq_H : Type := Nat → Option zq_S
abbrev zq_W : Type := zq_H × Nat × zq_M
abbrev zq_G : Type := Launch × va_G × Nat × (Nat → ClassId) × Nat × Nat × (Nat → Nat) × (Nat → Nat)
abbrev zq_Y : Type := MethodName × ByteArray × Nat × Option FieldType
abbrev zq_L : Type := Nat × Nat × Nat
def zq_ad (G : zq_G) (c : Nat) : Nat := G.2.2.1 + c
def zq_aC (G : zq_G) (k : Nat) : ClassId := G.2.2.2.1 k
def zq_up {α : Type} (f : Nat → Nat → α) (c k : Nat) (v : α) : Nat → Nat → α := fun c' k' => if c' = c ∧ k' = k then v else f c' k'
def zq_u1 (X : zq_M) (c k : Nat) (v : Int32) : zq_M := (zq_up X.1 c k v, X.2.1, X.2.2)
def zq_u2 (X : zq_M) (c k : Nat) (v : Int64) : zq_M := (X.1, zq_up X.2.1 c k v, X.2.2)
def zq_u3 (X : zq_M) (c k : Nat) (v : Option Nat) : zq_M := (X.1, X.2.1, zq_up X.2.2 c k v)
def zq_z (X : zq_M) (c : Nat) : zq_M := (fun c' k => if c' = c then 0 else X.1 c' k, fun c' k => if c' = c then 0 else X.2.1 c' k, fun c' k => if c' = c then none else X.2.2 c' k)
def zq_us (sh : zq_H) (c : Nat) (s : zq_S) : zq_H := fun c' => if c' = c then some s else sh c'
def zq_fv (G : zq_G) (f1 : Nat → Int32) (f2 : Nat → Int64) (f3 : Nat → Option Nat) (k kd : Nat) : Value := match kd with
  | 0 => .int (f1 k)
  | 1 => .long (f2 k)
  | 2 => va_rf ((f3 k).map (zq_ad G))
  | 3 => .null
  | j + 4 => .ref (zq_ad G j)
def zq_fs (G : zq_G) (f1 : Nat → Int32) (f2 : Nat → Int64) (f3 : Nat → Option Nat) (ks : List Nat) : List Value := ks.mapIdx (fun k kd => zq_fv G f1 f2 f3 k kd)
def zq_ar (G : zq_G) (f1 : Nat → Int32) (f2 : Nat → Int64) (f3 : Nat → Option Nat) (kd n : Nat) : vp_A := match kd with
  | 0 => (n, .inl f1)
  | 1 => (n, .inl f1)
  | 2 => (n, .inr (.inl f2))
  | _ => (n, .inr (.inr (.inr (.inr (fun j => (f3 j).map (zq_ad G))))))
def zq_cel (G : zq_G) (f1 : Nat → Int32) (f2 : Nat → Int64) (f3 : Nat → Option Nat) (s : zq_S) : va_E := match s with
  | .inl (ci, ks) => .inr (ci, zq_fs G f1 f2 f3 ks)
  | .inr (kd, n) => .inl (zq_aC G kd, zq_ar G f1 f2 f3 kd n)
def zq_cell (G : zq_G) (X : zq_M) (c : Nat) (s : zq_S) : va_E := zq_cel G (X.1 c) (X.2.1 c) (X.2.2 c) s
def zq_P (G : zq_G) (sh : zq_H) (X : zq_M) (H : Heap) : Prop := ∀ (c : Nat) (s : zq_S), sh c = some s → va_at G.2.1 vwCl (zq_ad G c, zq_cell G X c s) H
def zq_ty (G : zq_G) : List (ClassId × FieldType) := [(zq_aC G 0, .int), (zq_aC G 1, .boolean), (zq_aC G 2, .long), (zq_aC G 3, .object "MiddleSpeaks$House"), (zq_aC G 4, .object "MiddleSpeaks$Tape")]
def zq_T : List Cond := lw_tbl.filter goodWord
theorem zq_mem {w : Cond} (i : Nat) (h : lw_tbl[i]? = some w) (hg : goodWord w = true) : w ∈ zq_T := List.mem_filter.mpr ⟨List.mem_of_getElem? h, hg⟩
def zq_above : List Int32 := [-1, 0, 0, 0, 1, 2, 3]
def zq_own : List Int32 := [10, 11, 12, 0, 20, 0, 30, 0, 0, 0, 0, 40, 50, 51, 0, 0, 0, 60, 71, 70, 0]
def zq_len : List Nat := [5, 3, 5, 4, 10, 6, 3]
def zq_byt : List (List Int32) := [[112, 114, 105, 99, 101], [98, 97, 114], [119, 111, 114, 116, 104], [115, 97, 109, 101], [48, 49, 50, 51, 52, 53, 54, 55, 56, 57], [112, 114, 97, 110, 107, 116], [60, 61, 62]]
def zq_sr : List (Nat × String × Nat) := [(57, "price", 0), (63, "bar", 1), (65, "worth", 2), (67, "same", 3), (94, "0123456789", 4), (82, "prankt", 5), (88, "<=>", 6)]
def zq_nM : List (String × Nat × MethodName × String) := [(RX10, 11, yX5_init, RX10), (RX10, 31, yX2_init, RX10), (RX10, 38, yX3_init, RX10), (RX3, 17, yX2_init, RX10), (RX10, 86, yX0_init, RX10), (RX10, 97, yX7_init, RX10), (RX6, 89, yX10_isRoom, RX10), (RX6, 136, yX10_isFromTo, RX10), (RX0, 25, yX10_isFromTo, RX10)]
def zq_E (G : zq_G) (A : Nat → Prop) (s : State) (H : Heap) : Prop :=
  (∀ q ∈ zq_nM, va_Nw (.methodLinkNest q.1 q.2.1 q.2.2.1 q.2.2.2) s) ∧ va_Nw (.fieldLinkNest "MiddleSpeaks$Acts" 45 "MiddleSpeaks" "ABOVE" "[I" "MiddleSpeaks") s ∧ va_AO "MiddleSpeaks$House" s ∧ va_AO "MiddleSpeaks$Tape" s ∧
  (∀ q ∈ zq_sr, vk_R "MiddleSpeaks$HouseReader" q.1 q.2.1 (G.2.2.2.2.2.2.1 q.2.2) s) ∧
  va_Z "MiddleSpeaks" "ABOVE" "[I" (.ref G.2.2.2.2.1) A s H ∧ va_T .int G.2.2.2.2.1 7 (fun j => .int (zq_above.getD j 0)) A s H ∧
  va_Z "MiddleSpeaks$Acts" "OWN" "[I" (.ref G.2.2.2.2.2.1) A s H ∧ va_T .int G.2.2.2.2.2.1 21 (fun j => .int (zq_own.getD j 0)) A s H ∧
  va_Z "java/lang/String" "COMPACT_STRINGS" "Z" (.int 1) A s H ∧ vk_S 7 zq_len zq_byt G.2.2.2.2.2.2.1 G.2.2.2.2.2.2.2 A s H
theorem zq_E.same {G : zq_G} {A : Nat → Prop} {s U : State} {H : Heap} (hv : s.vm = U.vm) (h : zq_E G A s H) : zq_E G A U H := by
  have hA : s.vm.Alike U.vm := by rw [hv]; exact Vm.Alike.refl _
  obtain ⟨h1, h2, h3, h4, h5, h6, h7, h8, h9, h10, h11⟩ := h
  exact ⟨fun q hq => va_Nw.same rfl hv (h1 q hq), va_Nw.same rfl hv h2, va_AO.moved hA h3, va_AO.moved hA h4, fun q hq => vk_R.same hv.symm (h5 q hq), h6.moved hA, h7.moved hA, h8.moved hA, h9.moved hA, h10.moved hA, h11.moved hA⟩
theorem zq_E.go {G : zq_G} {A A0 : Nat → Prop} {s U : State} {H H1 : Heap} (hW : s.WarmedH U.vm) (hq : ∀ a : Nat, a < H.size → ¬ A a → H1[a]? = H[a]?) (hAB : ∀ q, A0 q → A q) (h : zq_E G A s H) : zq_E G A0 U H1 := by
  have hA : s.vm.Alike U.vm := hW.alike
  obtain ⟨h1, h2, h3, h4, h5, h6, h7, h8, h9, h10, h11⟩ := h
  exact ⟨fun q hq => va_Nw.warmM hW (h1 q hq), va_Nw.warmF hW h2, va_AO.moved hA h3, va_AO.moved hA h4, fun q hq => vk_R.warm hW (h5 q hq), ((h6.moved hA).kept hq).narrow hAB, ((h7.moved hA).kept hq).narrow hAB, ((h8.moved hA).kept hq).narrow hAB, ((h9.moved hA).kept hq).narrow hAB, ((h10.moved hA).kept hq).narrow hAB, ((h11.moved hA).kept hq).narrow hAB⟩
def zq_C (G : zq_G) (Y : zq_Y) (p : Program) (s : State) (m : MethodId) (args : Array Value) (meth : Method) (c : Code) (A : Nat → Prop) : Prop :=
  p.tables.exec = Jvm.exec ∧ c.code = Y.2.1 ∧ meth.sig.returnType = Y.2.2.2 ∧ c.maxLocals = Y.2.2.1 ∧ s.vm.findClass Y.1.cls = some m.cls ∧ (∀ w ∈ zq_T, w.before args s = true) ∧ meth.locks = false ∧ meth.name = Y.1.name ∧ va_K G.2.1 vwCl (zq_ty G) s ∧ zq_E G A s s.heap ∧ (∀ q, s.heap.size ≤ q → A q)
def zq_R (lv : zq_L) : Room := { frames := lv.1, cells := lv.2.1, slots := lv.2.2, locals := 60 * lv.1 }
def zq_Q (G : zq_G) (A : Nat → Prop) (v : Option Value × zq_W) : Array Value → State → Outcome → State → Prop := fun _ st oc t => oc = .returned v.1 ∧ t.heap.size = v.2.2.1 ∧ zq_P G v.2.1 v.2.2.2 t.heap ∧ (∀ c s, v.2.1 c = some s → A (zq_ad G c)) ∧ va_F A st t
def zq_V {ρ : Type} (G : zq_G) (Y : zq_Y) (lv : zq_L) (enc : ρ → Option Value × zq_W) (kc kn pc : Nat) (lo : List (Nat × Value)) (st : List Value) (sh : zq_H) (z : Nat) (X : zq_M) (o : Option ρ) : Prop :=
  ∀ r : ρ, o = some r → ∀ (p : Program) (e : Env) (s : State) (m : MethodId) (args : Array Value) (below : List Frame) (meth : Method) (c : Code) (A : Nat → Prop) (H : Heap) (locs : List Loc) (ls : Array Slot), zq_C G Y p s m args meth c A → H.size = z → va_S A s.heap H locs → (∀ c s, sh c = some s → A (zq_ad G c)) → zq_P G sh X H → lv_has ls Y.2.2.1 lo →
    W p G.1 e (zq_R lv) s m args below meth c H locs kc kn (MQ below (zq_Q G A (enc r)) args s lv.2.1 lv.2.2 A) (F0 m pc ls st)
def zq_b {α β : Type} (a : α) (f : α → β) : β := f a
def zq_ck {ρ : Type} (i : Int32) (n : Nat) (o : Option ρ) : Option ρ := if i < 0 ∨ n ≤ i.toNatClampNeg then none else o
def zq_ix (i : Int32) : Nat := i.toNatClampNeg
def zq_dv {ρ : Type} (y : Int32) (o : Option ρ) : Option ρ := if y = 0 then none else o
def zq_dw {ρ : Type} (y : Int64) (o : Option ρ) : Option ρ := if y = 0 then none else o
def zq_gd {ρ : Type} (b : Bool) (o : Option ρ) : Option ρ := if b = true then o else none
def zq_nn {ρ : Type} (r : Option Nat) (b : Nat → Bool) (f : Nat → Option ρ) : Option ρ := match r with
  | none => none
  | some h => if b h = true then f h else none
def zq_irem (x y : Int32) : Int32 := x - x / y * y
def zq_lrem (x y : Int64) : Int64 := x - x / y * y
def zq_shl (x y : Int32) : Int32 := x <<< (y &&& 31)
def zq_shr (x y : Int32) : Int32 := x >>> (y &&& 31)
def zq_ushr (x y : Int32) : Int32 := (x.toUInt32 >>> (y.toUInt32 &&& Int32.toUInt32 31)).toInt32
def zq_lshl (x : Int64) (y : Int32) : Int64 := x <<< (y.toInt64 &&& 63)
def zq_st (i : Nat) (lo : List (Nat × Value)) : List (Nat × Value) := lo.filter (fun q => !(q.1 == i) && !(q.1 + 1 == i && q.2.category == 2))
def zq_st2 (i : Nat) (lo : List (Nat × Value)) : List (Nat × Value) := lo.filter (fun q => !(q.1 == i) && (!(q.1 == i + 1) && !(q.1 + 1 == i && q.2.category == 2)))
def zq_ei (sh : zq_H) (z : Nat) (X : zq_M) (r : Int32) : Option Value × zq_W := (some (.int r), sh, z, X)
def zq_si (sh : zq_H) (z : Nat) (q : Int32 × zq_M) : Option Value × zq_W := (some (.int q.1), sh, z, q.2)
def zq_el (sh : zq_H) (z : Nat) (X : zq_M) (r : Int64) : Option Value × zq_W := (some (.long r), sh, z, X)
def zq_sl (sh : zq_H) (z : Nat) (q : Int64 × zq_M) : Option Value × zq_W := (some (.long q.1), sh, z, q.2)
def zq_sv (sh : zq_H) (z : Nat) (X : zq_M) : Option Value × zq_W := (none, sh, z, X)
def zq_er (G : zq_G) (sh : zq_H) (z : Nat) (X : zq_M) (r : Nat) : Option Value × zq_W := (some (.ref (zq_ad G r)), sh, z, X)
def zq_kd (sh : zq_H) (c k : Nat) : Option (Nat × Nat) := match sh c with
  | some (.inl (ci, ks)) => (ks[k]?).map (fun kd => (ci, kd))
  | _ => none
def zq_FL (own : String) (idx ci k : Nat) : Prop := ∃ q : vw_C, vwCl[ci]? = some q ∧ k < q.2.2 ∧ Cond.fieldLink own idx (q.2.1 k).1 (q.2.1 k).2.1 (q.2.1 k).2.2.1 ∈ zq_T
def zq_gz {ρ : Type} (v : Int32) (o : Option ρ) : Option ρ := if v = 0 ∨ v = 1 then o else none
def zq_dec (tab : List (Nat × Instr × Nat)) (cc : ByteArray) : Prop := ∀ q ∈ tab, decode cc q.1 = .ok q.2
theorem zq_d {tab : List (Nat × Instr × Nat)} {cc : ByteArray} (h : zq_dec tab cc) {pc : Nat} {x : Instr × Nat} (k : Nat) (hk : tab[k]? = some (pc, x)) : decode cc pc = .ok x := h (pc, x) (List.mem_of_getElem? hk)

section
variable {ρ : Type} {G : zq_G} {Y : zq_Y} {lv : zq_L} {enc : ρ → Option Value × zq_W} {kc kn pc : Nat} {lo : List (Nat × Value)} {st : List Value} {sh : zq_H} {z : Nat} {X : zq_M} {o : Option ρ}
theorem zr_none {pc : Nat} : zq_V G Y lv enc kc kn (pc) lo (st) sh z X none := fun r h => by cases h
theorem zr_iconst {n : Int} {v : Int32} (hd : decode Y.2.1 pc = .ok (.iconst n, 1)) (hv : Int32.ofInt n = v) (K : zq_V G Y lv enc kc kn (pc + 1) lo (.int v :: st) sh z X o) : zq_V G Y lv enc kc kn (pc) lo (st) sh z X o := by
  intro r hr p e s m args below meth c A H locs ls C hz hS hA hP hl
  exact lv_iconst C.1 C.2.1 hd hv (K r hr p e s m args below meth c A H locs ls C hz hS hA hP hl)
theorem zr_bipush {n : Int} {v : Int32} (hd : decode Y.2.1 pc = .ok (.bipush n, 2)) (hv : (Int8.ofInt n).toInt32 = v) (K : zq_V G Y lv enc kc kn (pc + 2) lo (.int v :: st) sh z X o) : zq_V G Y lv enc kc kn (pc) lo (st) sh z X o := by
  intro r hr p e s m args below meth c A H locs ls C hz hS hA hP hl
  exact lv_bipush C.1 C.2.1 hd hv (K r hr p e s m args below meth c A H locs ls C hz hS hA hP hl)
theorem zr_sipush {n : Int} {v : Int32} (hd : decode Y.2.1 pc = .ok (.sipush n, 3)) (hv : (Int16.ofInt n).toInt32 = v) (K : zq_V G Y lv enc kc kn (pc + 3) lo (.int v :: st) sh z X o) : zq_V G Y lv enc kc kn (pc) lo (st) sh z X o := by
  intro r hr p e s m args below meth c A H locs ls C hz hS hA hP hl
  exact lv_sipush C.1 C.2.1 hd hv (K r hr p e s m args below meth c A H locs ls C hz hS hA hP hl)
theorem zr_lconst {n : Fin 2} {v : Int64} (hd : decode Y.2.1 pc = .ok (.lconst n, 1)) (hv : Int64.ofNat (n : Nat) = v) (K : zq_V G Y lv enc kc kn (pc + 1) lo (.long v :: st) sh z X o) : zq_V G Y lv enc kc kn (pc) lo (st) sh z X o := by
  intro r hr p e s m args below meth c A H locs ls C hz hS hA hP hl
  exact lv_lconst C.1 C.2.1 hd hv (K r hr p e s m args below meth c A H locs ls C hz hS hA hP hl)
theorem zr_iload_n {k : Fin 4} {x : Int32} (hd : decode Y.2.1 pc = .ok (.iload_n k, 1)) (j : Nat) {i : Nat} (hi : (k : Nat) = i) (hj : lo[j]? = some (i, .int x)) (K : zq_V G Y lv enc kc kn (pc + 1) lo (.int x :: st) sh z X o) : zq_V G Y lv enc kc kn (pc) lo (st) sh z X o := by
  intro r hr p e s m args below meth c A H locs ls C hz hS hA hP hl
  exact lv_iload_n C.1 C.2.1 hd hi (lv_at hl j hj) (K r hr p e s m args below meth c A H locs ls C hz hS hA hP hl)
theorem zr_iload {i : Nat} {x : Int32} (hd : decode Y.2.1 pc = .ok (.iload i, 2)) (j : Nat) (hj : lo[j]? = some (i, .int x)) (K : zq_V G Y lv enc kc kn (pc + 2) lo (.int x :: st) sh z X o) : zq_V G Y lv enc kc kn (pc) lo (st) sh z X o := by
  intro r hr p e s m args below meth c A H locs ls C hz hS hA hP hl
  exact lv_iload C.1 C.2.1 hd (lv_at hl j hj) (K r hr p e s m args below meth c A H locs ls C hz hS hA hP hl)
theorem zr_lload_n {k : Fin 4} {x : Int64} (hd : decode Y.2.1 pc = .ok (.lload_n k, 1)) (j : Nat) {i : Nat} (hi : (k : Nat) = i) (hj : lo[j]? = some (i, .long x)) (K : zq_V G Y lv enc kc kn (pc + 1) lo (.long x :: st) sh z X o) : zq_V G Y lv enc kc kn (pc) lo (st) sh z X o := by
  intro r hr p e s m args below meth c A H locs ls C hz hS hA hP hl
  exact lv_lload_n C.1 C.2.1 hd hi (lv_at hl j hj) (K r hr p e s m args below meth c A H locs ls C hz hS hA hP hl)
theorem zr_lload {i : Nat} {x : Int64} (hd : decode Y.2.1 pc = .ok (.lload i, 2)) (j : Nat) (hj : lo[j]? = some (i, .long x)) (K : zq_V G Y lv enc kc kn (pc + 2) lo (.long x :: st) sh z X o) : zq_V G Y lv enc kc kn (pc) lo (st) sh z X o := by
  intro r hr p e s m args below meth c A H locs ls C hz hS hA hP hl
  exact lv_lload C.1 C.2.1 hd (lv_at hl j hj) (K r hr p e s m args below meth c A H locs ls C hz hS hA hP hl)
theorem zr_aload_n {k : Fin 4} {x : Nat} (hd : decode Y.2.1 pc = .ok (.aload_n k, 1)) (j : Nat) {i : Nat} (hi : (k : Nat) = i) (hj : lo[j]? = some (i, .ref x)) (K : zq_V G Y lv enc kc kn (pc + 1) lo (.ref x :: st) sh z X o) : zq_V G Y lv enc kc kn (pc) lo (st) sh z X o := by
  intro r hr p e s m args below meth c A H locs ls C hz hS hA hP hl
  exact lv_aload_n C.1 C.2.1 hd hi (lv_at hl j hj) (K r hr p e s m args below meth c A H locs ls C hz hS hA hP hl)
theorem zr_aload {i : Nat} {x : Nat} (hd : decode Y.2.1 pc = .ok (.aload i, 2)) (j : Nat) (hj : lo[j]? = some (i, .ref x)) (K : zq_V G Y lv enc kc kn (pc + 2) lo (.ref x :: st) sh z X o) : zq_V G Y lv enc kc kn (pc) lo (st) sh z X o := by
  intro r hr p e s m args below meth c A H locs ls C hz hS hA hP hl
  exact lv_aload C.1 C.2.1 hd (lv_at hl j hj) (K r hr p e s m args below meth c A H locs ls C hz hS hA hP hl)
theorem zr_istore_n {k : Fin 4} {i : Nat} {x : Int32} {lo2 : List (Nat × Value)} (hd : decode Y.2.1 pc = .ok (.istore_n k, 1)) (hi : (k : Nat) = i) (hn : i < Y.2.2.1) (h2 : (i, .int x) :: zq_st i lo = lo2) (K : zq_V G Y lv enc kc kn (pc + 1) lo2 (st) sh z X o) : zq_V G Y lv enc kc kn (pc) lo (.int x :: st) sh z X o := by
  intro r hr p e s m args below meth c A H locs ls C hz hS hA hP hl
  exact lv_istore_n C.1 C.2.1 hd hi hl hn h2 (fun ls2 hl2 => K r hr p e s m args below meth c A H locs ls2 C hz hS hA hP hl2)
theorem zr_istore {i : Nat} {x : Int32} {lo2 : List (Nat × Value)} (hd : decode Y.2.1 pc = .ok (.istore i, 2)) (hn : i < Y.2.2.1) (h2 : (i, .int x) :: zq_st i lo = lo2) (K : zq_V G Y lv enc kc kn (pc + 2) lo2 (st) sh z X o) : zq_V G Y lv enc kc kn (pc) lo (.int x :: st) sh z X o := by
  intro r hr p e s m args below meth c A H locs ls C hz hS hA hP hl
  exact lv_istore C.1 C.2.1 hd hl hn h2 (fun ls2 hl2 => K r hr p e s m args below meth c A H locs ls2 C hz hS hA hP hl2)
theorem zr_lstore_n {k : Fin 4} {i : Nat} {x : Int64} {lo2 : List (Nat × Value)} (hd : decode Y.2.1 pc = .ok (.lstore_n k, 1)) (hi : (k : Nat) = i) (hn : i + 1 < Y.2.2.1) (h2 : (i, .long x) :: zq_st2 i lo = lo2) (K : zq_V G Y lv enc kc kn (pc + 1) lo2 (st) sh z X o) : zq_V G Y lv enc kc kn (pc) lo (.long x :: st) sh z X o := by
  intro r hr p e s m args below meth c A H locs ls C hz hS hA hP hl
  exact lv_lstore_n C.1 C.2.1 hd hi hl hn h2 (fun ls2 hl2 => K r hr p e s m args below meth c A H locs ls2 C hz hS hA hP hl2)
theorem zr_lstore {i : Nat} {x : Int64} {lo2 : List (Nat × Value)} (hd : decode Y.2.1 pc = .ok (.lstore i, 2)) (hn : i + 1 < Y.2.2.1) (h2 : (i, .long x) :: zq_st2 i lo = lo2) (K : zq_V G Y lv enc kc kn (pc + 2) lo2 (st) sh z X o) : zq_V G Y lv enc kc kn (pc) lo (.long x :: st) sh z X o := by
  intro r hr p e s m args below meth c A H locs ls C hz hS hA hP hl
  exact lv_lstore C.1 C.2.1 hd hl hn h2 (fun ls2 hl2 => K r hr p e s m args below meth c A H locs ls2 C hz hS hA hP hl2)
theorem zr_astore_n {k : Fin 4} {i : Nat} {x : Nat} {lo2 : List (Nat × Value)} (hd : decode Y.2.1 pc = .ok (.astore_n k, 1)) (hi : (k : Nat) = i) (hn : i < Y.2.2.1) (h2 : (i, .ref x) :: zq_st i lo = lo2) (K : zq_V G Y lv enc kc kn (pc + 1) lo2 (st) sh z X o) : zq_V G Y lv enc kc kn (pc) lo (.ref x :: st) sh z X o := by
  intro r hr p e s m args below meth c A H locs ls C hz hS hA hP hl
  exact lv_astore_n C.1 C.2.1 hd hi hl hn h2 (fun ls2 hl2 => K r hr p e s m args below meth c A H locs ls2 C hz hS hA hP hl2)
theorem zr_astore {i : Nat} {x : Nat} {lo2 : List (Nat × Value)} (hd : decode Y.2.1 pc = .ok (.astore i, 2)) (hn : i < Y.2.2.1) (h2 : (i, .ref x) :: zq_st i lo = lo2) (K : zq_V G Y lv enc kc kn (pc + 2) lo2 (st) sh z X o) : zq_V G Y lv enc kc kn (pc) lo (.ref x :: st) sh z X o := by
  intro r hr p e s m args below meth c A H locs ls C hz hS hA hP hl
  exact lv_astore C.1 C.2.1 hd hl hn h2 (fun ls2 hl2 => K r hr p e s m args below meth c A H locs ls2 C hz hS hA hP hl2)
theorem zr_iinc {i j : Nat} {n : Int} {x v : Int32} {lo2 : List (Nat × Value)} (hd : decode Y.2.1 pc = .ok (.iinc i n, 3)) (hj : lo[j]? = some (i, .int x)) (hv : x + Int32.ofInt n = v) (hn : i < Y.2.2.1) (h2 : (i, .int v) :: zq_st i lo = lo2) (K : zq_V G Y lv enc kc kn (pc + 3) lo2 (st) sh z X o) : zq_V G Y lv enc kc kn (pc) lo (st) sh z X o := by
  intro r hr p e s m args below meth c A H locs ls C hz hS hA hP hl
  exact lv_iinc C.1 C.2.1 hd hl (k := j) hj hv hn h2 (fun ls2 hl2 => K r hr p e s m args below meth c A H locs ls2 C hz hS hA hP hl2)
theorem zr_iadd {x y : Int32} (hd : decode Y.2.1 pc = .ok (.iadd, 1))  (K : zq_V G Y lv enc kc kn (pc + 1) lo (.int (x + y) :: st) sh z X o) : zq_V G Y lv enc kc kn (pc) lo (.int y :: .int x :: st) sh z X o := by
  intro r hr p e s m args below meth c A H locs ls C hz hS hA hP hl
  exact lv_iadd C.1 C.2.1 hd  (K r hr p e s m args below meth c A H locs ls C hz hS hA hP hl)
theorem zr_isub {x y : Int32} (hd : decode Y.2.1 pc = .ok (.isub, 1))  (K : zq_V G Y lv enc kc kn (pc + 1) lo (.int (x - y) :: st) sh z X o) : zq_V G Y lv enc kc kn (pc) lo (.int y :: .int x :: st) sh z X o := by
  intro r hr p e s m args below meth c A H locs ls C hz hS hA hP hl
  exact lv_isub C.1 C.2.1 hd  (K r hr p e s m args below meth c A H locs ls C hz hS hA hP hl)
theorem zr_imul {x y : Int32} (hd : decode Y.2.1 pc = .ok (.imul, 1))  (K : zq_V G Y lv enc kc kn (pc + 1) lo (.int (x * y) :: st) sh z X o) : zq_V G Y lv enc kc kn (pc) lo (.int y :: .int x :: st) sh z X o := by
  intro r hr p e s m args below meth c A H locs ls C hz hS hA hP hl
  exact lv_imul C.1 C.2.1 hd  (K r hr p e s m args below meth c A H locs ls C hz hS hA hP hl)
theorem zr_iand {x y : Int32} (hd : decode Y.2.1 pc = .ok (.iand, 1))  (K : zq_V G Y lv enc kc kn (pc + 1) lo (.int (x &&& y) :: st) sh z X o) : zq_V G Y lv enc kc kn (pc) lo (.int y :: .int x :: st) sh z X o := by
  intro r hr p e s m args below meth c A H locs ls C hz hS hA hP hl
  exact lv_iand C.1 C.2.1 hd  (K r hr p e s m args below meth c A H locs ls C hz hS hA hP hl)
theorem zr_ior {x y : Int32} (hd : decode Y.2.1 pc = .ok (.ior, 1))  (K : zq_V G Y lv enc kc kn (pc + 1) lo (.int (x ||| y) :: st) sh z X o) : zq_V G Y lv enc kc kn (pc) lo (.int y :: .int x :: st) sh z X o := by
  intro r hr p e s m args below meth c A H locs ls C hz hS hA hP hl
  exact lv_ior C.1 C.2.1 hd  (K r hr p e s m args below meth c A H locs ls C hz hS hA hP hl)
theorem zr_ixor {x y : Int32} (hd : decode Y.2.1 pc = .ok (.ixor, 1))  (K : zq_V G Y lv enc kc kn (pc + 1) lo (.int (x ^^^ y) :: st) sh z X o) : zq_V G Y lv enc kc kn (pc) lo (.int y :: .int x :: st) sh z X o := by
  intro r hr p e s m args below meth c A H locs ls C hz hS hA hP hl
  exact lv_ixor C.1 C.2.1 hd  (K r hr p e s m args below meth c A H locs ls C hz hS hA hP hl)
theorem zr_ishl {x y : Int32} (hd : decode Y.2.1 pc = .ok (.ishl, 1))  (K : zq_V G Y lv enc kc kn (pc + 1) lo (.int (zq_shl x y) :: st) sh z X o) : zq_V G Y lv enc kc kn (pc) lo (.int y :: .int x :: st) sh z X o := by
  intro r hr p e s m args below meth c A H locs ls C hz hS hA hP hl
  exact lv_ishl C.1 C.2.1 hd  (K r hr p e s m args below meth c A H locs ls C hz hS hA hP hl)
theorem zr_ishr {x y : Int32} (hd : decode Y.2.1 pc = .ok (.ishr, 1))  (K : zq_V G Y lv enc kc kn (pc + 1) lo (.int (zq_shr x y) :: st) sh z X o) : zq_V G Y lv enc kc kn (pc) lo (.int y :: .int x :: st) sh z X o := by
  intro r hr p e s m args below meth c A H locs ls C hz hS hA hP hl
  exact lv_ishr C.1 C.2.1 hd  (K r hr p e s m args below meth c A H locs ls C hz hS hA hP hl)
theorem zr_iushr {x y : Int32} (hd : decode Y.2.1 pc = .ok (.iushr, 1))  (K : zq_V G Y lv enc kc kn (pc + 1) lo (.int (zq_ushr x y) :: st) sh z X o) : zq_V G Y lv enc kc kn (pc) lo (.int y :: .int x :: st) sh z X o := by
  intro r hr p e s m args below meth c A H locs ls C hz hS hA hP hl
  exact lv_iushr C.1 C.2.1 hd rfl (K r hr p e s m args below meth c A H locs ls C hz hS hA hP hl)
theorem zr_ladd {x y : Int64} (hd : decode Y.2.1 pc = .ok (.ladd, 1))  (K : zq_V G Y lv enc kc kn (pc + 1) lo (.long (x + y) :: st) sh z X o) : zq_V G Y lv enc kc kn (pc) lo (.long y :: .long x :: st) sh z X o := by
  intro r hr p e s m args below meth c A H locs ls C hz hS hA hP hl
  exact lv_ladd C.1 C.2.1 hd  (K r hr p e s m args below meth c A H locs ls C hz hS hA hP hl)
theorem zr_lsub {x y : Int64} (hd : decode Y.2.1 pc = .ok (.lsub, 1))  (K : zq_V G Y lv enc kc kn (pc + 1) lo (.long (x - y) :: st) sh z X o) : zq_V G Y lv enc kc kn (pc) lo (.long y :: .long x :: st) sh z X o := by
  intro r hr p e s m args below meth c A H locs ls C hz hS hA hP hl
  exact lv_lsub C.1 C.2.1 hd  (K r hr p e s m args below meth c A H locs ls C hz hS hA hP hl)
theorem zr_lmul {x y : Int64} (hd : decode Y.2.1 pc = .ok (.lmul, 1))  (K : zq_V G Y lv enc kc kn (pc + 1) lo (.long (x * y) :: st) sh z X o) : zq_V G Y lv enc kc kn (pc) lo (.long y :: .long x :: st) sh z X o := by
  intro r hr p e s m args below meth c A H locs ls C hz hS hA hP hl
  exact lv_lmul C.1 C.2.1 hd  (K r hr p e s m args below meth c A H locs ls C hz hS hA hP hl)
theorem zr_land {x y : Int64} (hd : decode Y.2.1 pc = .ok (.land, 1))  (K : zq_V G Y lv enc kc kn (pc + 1) lo (.long (x &&& y) :: st) sh z X o) : zq_V G Y lv enc kc kn (pc) lo (.long y :: .long x :: st) sh z X o := by
  intro r hr p e s m args below meth c A H locs ls C hz hS hA hP hl
  exact lv_land C.1 C.2.1 hd  (K r hr p e s m args below meth c A H locs ls C hz hS hA hP hl)
theorem zr_lor {x y : Int64} (hd : decode Y.2.1 pc = .ok (.lor, 1))  (K : zq_V G Y lv enc kc kn (pc + 1) lo (.long (x ||| y) :: st) sh z X o) : zq_V G Y lv enc kc kn (pc) lo (.long y :: .long x :: st) sh z X o := by
  intro r hr p e s m args below meth c A H locs ls C hz hS hA hP hl
  exact lv_lor C.1 C.2.1 hd  (K r hr p e s m args below meth c A H locs ls C hz hS hA hP hl)
theorem zr_ineg {x : Int32} (hd : decode Y.2.1 pc = .ok (.ineg, 1))  (K : zq_V G Y lv enc kc kn (pc + 1) lo (.int (-x) :: st) sh z X o) : zq_V G Y lv enc kc kn (pc) lo (.int x :: st) sh z X o := by
  intro r hr p e s m args below meth c A H locs ls C hz hS hA hP hl
  exact lv_ineg C.1 C.2.1 hd  (K r hr p e s m args below meth c A H locs ls C hz hS hA hP hl)
theorem zr_lshl {x : Int64} {y : Int32} (hd : decode Y.2.1 pc = .ok (.lshl, 1))  (K : zq_V G Y lv enc kc kn (pc + 1) lo (.long (zq_lshl x y) :: st) sh z X o) : zq_V G Y lv enc kc kn (pc) lo (.int y :: .long x :: st) sh z X o := by
  intro r hr p e s m args below meth c A H locs ls C hz hS hA hP hl
  exact lv_lshl C.1 C.2.1 hd rfl (K r hr p e s m args below meth c A H locs ls C hz hS hA hP hl)
theorem zr_lcmp {x y : Int64} (hd : decode Y.2.1 pc = .ok (.lcmp, 1))  (K : zq_V G Y lv enc kc kn (pc + 1) lo (.int (lg_cmp x y) :: st) sh z X o) : zq_V G Y lv enc kc kn (pc) lo (.long y :: .long x :: st) sh z X o := by
  intro r hr p e s m args below meth c A H locs ls C hz hS hA hP hl
  exact W.lcmp C.1 C.2.1 hd  (K r hr p e s m args below meth c A H locs ls C hz hS hA hP hl)
theorem zr_i2l {x : Int32} (hd : decode Y.2.1 pc = .ok (.i2l, 1))  (K : zq_V G Y lv enc kc kn (pc + 1) lo (.long (x.toInt64) :: st) sh z X o) : zq_V G Y lv enc kc kn (pc) lo (.int x :: st) sh z X o := by
  intro r hr p e s m args below meth c A H locs ls C hz hS hA hP hl
  exact lv_i2l C.1 C.2.1 hd rfl (K r hr p e s m args below meth c A H locs ls C hz hS hA hP hl)
theorem zr_l2i {x : Int64} (hd : decode Y.2.1 pc = .ok (.l2i, 1))  (K : zq_V G Y lv enc kc kn (pc + 1) lo (.int (x.toInt32) :: st) sh z X o) : zq_V G Y lv enc kc kn (pc) lo (.long x :: st) sh z X o := by
  intro r hr p e s m args below meth c A H locs ls C hz hS hA hP hl
  exact lv_l2i C.1 C.2.1 hd rfl (K r hr p e s m args below meth c A H locs ls C hz hS hA hP hl)
theorem zr_i2b {x : Int32} (hd : decode Y.2.1 pc = .ok (.i2b, 1))  (K : zq_V G Y lv enc kc kn (pc + 1) lo (.int (x.toInt8.toInt32) :: st) sh z X o) : zq_V G Y lv enc kc kn (pc) lo (.int x :: st) sh z X o := by
  intro r hr p e s m args below meth c A H locs ls C hz hS hA hP hl
  exact lv_i2b C.1 C.2.1 hd rfl (K r hr p e s m args below meth c A H locs ls C hz hS hA hP hl)
theorem zr_i2s {x : Int32} (hd : decode Y.2.1 pc = .ok (.i2s, 1))  (K : zq_V G Y lv enc kc kn (pc + 1) lo (.int (x.toInt16.toInt32) :: st) sh z X o) : zq_V G Y lv enc kc kn (pc) lo (.int x :: st) sh z X o := by
  intro r hr p e s m args below meth c A H locs ls C hz hS hA hP hl
  exact lv_i2s C.1 C.2.1 hd rfl (K r hr p e s m args below meth c A H locs ls C hz hS hA hP hl)
theorem zr_i2c {x : Int32} (hd : decode Y.2.1 pc = .ok (.i2c, 1))  (K : zq_V G Y lv enc kc kn (pc + 1) lo (.int ((x.toUInt32 % 65536).toInt32) :: st) sh z X o) : zq_V G Y lv enc kc kn (pc) lo (.int x :: st) sh z X o := by
  intro r hr p e s m args below meth c A H locs ls C hz hS hA hP hl
  exact lv_i2c C.1 C.2.1 hd rfl (K r hr p e s m args below meth c A H locs ls C hz hS hA hP hl)
theorem zr_idivk {x y : Int32} (hd : decode Y.2.1 pc = .ok (.idiv, 1)) (hy : ¬ y = 0) (K : zq_V G Y lv enc kc kn (pc + 1) lo (.int (x / y) :: st) sh z X o) : zq_V G Y lv enc kc kn (pc) lo (.int y :: .int x :: st) sh z X o := by
  intro r hr p e s m args below meth c A H locs ls C hz hS hA hP hl
  exact lv_idiv C.1 C.2.1 hd hy (K r hr p e s m args below meth c A H locs ls C hz hS hA hP hl)
theorem zr_iremk {x y : Int32} (hd : decode Y.2.1 pc = .ok (.irem, 1)) (hy : ¬ y = 0) (K : zq_V G Y lv enc kc kn (pc + 1) lo (.int (zq_irem x y) :: st) sh z X o) : zq_V G Y lv enc kc kn (pc) lo (.int y :: .int x :: st) sh z X o := by
  intro r hr p e s m args below meth c A H locs ls C hz hS hA hP hl
  exact lv_irem C.1 C.2.1 hd hy (K r hr p e s m args below meth c A H locs ls C hz hS hA hP hl)
theorem zr_idiv {x y : Int32} (hd : decode Y.2.1 pc = .ok (.idiv, 1)) (K : zq_V G Y lv enc kc kn (pc + 1) lo (.int (x / y) :: st) sh z X o) : zq_V G Y lv enc kc kn (pc) lo (.int y :: .int x :: st) sh z X (zq_dv y o) := by
  intro r hr p e s m args below meth c A H locs ls C hz hS hA hP hl
  unfold zq_dv at hr
  split at hr
  · cases hr
  · rename_i hy
    exact lv_idiv C.1 C.2.1 hd hy (K r hr p e s m args below meth c A H locs ls C hz hS hA hP hl)
theorem zr_irem {x y : Int32} (hd : decode Y.2.1 pc = .ok (.irem, 1)) (K : zq_V G Y lv enc kc kn (pc + 1) lo (.int (zq_irem x y) :: st) sh z X o) : zq_V G Y lv enc kc kn (pc) lo (.int y :: .int x :: st) sh z X (zq_dv y o) := by
  intro r hr p e s m args below meth c A H locs ls C hz hS hA hP hl
  unfold zq_dv at hr
  split at hr
  · cases hr
  · rename_i hy
    exact lv_irem C.1 C.2.1 hd hy (K r hr p e s m args below meth c A H locs ls C hz hS hA hP hl)
theorem zr_ldiv {x y : Int64} (hd : decode Y.2.1 pc = .ok (.ldiv, 1)) (K : zq_V G Y lv enc kc kn (pc + 1) lo (.long (x / y) :: st) sh z X o) : zq_V G Y lv enc kc kn (pc) lo (.long y :: .long x :: st) sh z X (zq_dw y o) := by
  intro r hr p e s m args below meth c A H locs ls C hz hS hA hP hl
  unfold zq_dw at hr
  split at hr
  · cases hr
  · rename_i hy
    exact lv_ldiv C.1 C.2.1 hd hy (K r hr p e s m args below meth c A H locs ls C hz hS hA hP hl)
theorem zr_lrem {x y : Int64} (hd : decode Y.2.1 pc = .ok (.lrem, 1)) (K : zq_V G Y lv enc kc kn (pc + 1) lo (.long (zq_lrem x y) :: st) sh z X o) : zq_V G Y lv enc kc kn (pc) lo (.long y :: .long x :: st) sh z X (zq_dw y o) := by
  intro r hr p e s m args below meth c A H locs ls C hz hS hA hP hl
  unfold zq_dw at hr
  split at hr
  · cases hr
  · rename_i hy
    exact lv_lrem C.1 C.2.1 hd hy (K r hr p e s m args below meth c A H locs ls C hz hS hA hP hl)
theorem zr_dup {v : Value} (hd : decode Y.2.1 pc = .ok (.dup, 1)) (hv : v.category = 1) (K : zq_V G Y lv enc kc kn (pc + 1) lo (v :: v :: st) sh z X o) : zq_V G Y lv enc kc kn (pc) lo (v :: st) sh z X o := by
  intro r hr p e s m args below meth c A H locs ls C hz hS hA hP hl
  exact lv_dup C.1 C.2.1 hd hv (K r hr p e s m args below meth c A H locs ls C hz hS hA hP hl)
theorem zr_pop {v : Value} (hd : decode Y.2.1 pc = .ok (.pop, 1)) (hv : v.category = 1) (K : zq_V G Y lv enc kc kn (pc + 1) lo (st) sh z X o) : zq_V G Y lv enc kc kn (pc) lo (v :: st) sh z X o := by
  intro r hr p e s m args below meth c A H locs ls C hz hS hA hP hl
  exact lv_pop C.1 C.2.1 hd hv (K r hr p e s m args below meth c A H locs ls C hz hS hA hP hl)
theorem zr_dup2 {v u : Value} (hd : decode Y.2.1 pc = .ok (.dup2, 1)) (hv : v.category = 1) (hu : u.category = 1) (K : zq_V G Y lv enc kc kn (pc + 1) lo (v :: u :: v :: u :: st) sh z X o) : zq_V G Y lv enc kc kn (pc) lo (v :: u :: st) sh z X o := by
  intro r hr p e s m args below meth c A H locs ls C hz hS hA hP hl
  exact lv_dup2_11 C.1 C.2.1 hd hv hu (K r hr p e s m args below meth c A H locs ls C hz hS hA hP hl)
theorem zr_goto {off : Int} (tgt : Nat) (hd : decode Y.2.1 pc = .ok (.goto off, 3)) (ht : (pc : Int) + off = (tgt : Int)) (K : zq_V G Y lv enc kc kn (tgt) lo (st) sh z X o) : zq_V G Y lv enc kc kn (pc) lo (st) sh z X o := by
  intro r hr p e s m args below meth c A H locs ls C hz hS hA hP hl
  exact lv_goto C.1 C.2.1 hd ht (K r hr p e s m args below meth c A H locs ls C hz hS hA hP hl)
theorem zr_if_eq {x : Int32} {off : Int} {o1 o2 : Option ρ} {D : Decidable (x = 0)} (tgt : Nat) (hd : decode Y.2.1 pc = .ok (.ifCond .eq off, 3)) (ht : (pc : Int) + off = (tgt : Int)) (KT : x = 0 → zq_V G Y lv enc kc kn (tgt) lo (st) sh z X o1) (KF : ¬ x = 0 → zq_V G Y lv enc kc kn (pc + 3) lo (st) sh z X o2) : zq_V G Y lv enc kc kn (pc) lo (.int x :: st) sh z X (@ite _ (x = 0) D o1 o2) := by
  intro r hr p e s m args below meth c A H locs ls C hz hS hA hP hl
  by_cases hc : x = 0
  · rw [if_pos hc] at hr
    exact lv_if_eq C.1 C.2.1 hd ht (fun _ => KT hc r hr p e s m args below meth c A H locs ls C hz hS hA hP hl) (fun h => absurd hc h)
  · rw [if_neg hc] at hr
    exact lv_if_eq C.1 C.2.1 hd ht (fun h => absurd h hc) (fun h => KF h r hr p e s m args below meth c A H locs ls C hz hS hA hP hl)
theorem zr_if_ne {x : Int32} {off : Int} {o1 o2 : Option ρ} {D : Decidable (¬ x = 0)} (tgt : Nat) (hd : decode Y.2.1 pc = .ok (.ifCond .ne off, 3)) (ht : (pc : Int) + off = (tgt : Int)) (KT : ¬ x = 0 → zq_V G Y lv enc kc kn (tgt) lo (st) sh z X o1) (KF : x = 0 → zq_V G Y lv enc kc kn (pc + 3) lo (st) sh z X o2) : zq_V G Y lv enc kc kn (pc) lo (.int x :: st) sh z X (@ite _ (¬ x = 0) D o1 o2) := by
  intro r hr p e s m args below meth c A H locs ls C hz hS hA hP hl
  by_cases hc : ¬ x = 0
  · rw [if_pos hc] at hr
    exact lv_if_ne C.1 C.2.1 hd ht (fun _ => KT hc r hr p e s m args below meth c A H locs ls C hz hS hA hP hl) (fun h => absurd h hc)
  · rw [if_neg hc] at hr
    exact lv_if_ne C.1 C.2.1 hd ht (fun h => absurd h hc) (fun h => KF h r hr p e s m args below meth c A H locs ls C hz hS hA hP hl)
theorem zr_if_lt {x : Int32} {off : Int} {o1 o2 : Option ρ} {D : Decidable (x < 0)} (tgt : Nat) (hd : decode Y.2.1 pc = .ok (.ifCond .lt off, 3)) (ht : (pc : Int) + off = (tgt : Int)) (KT : x < 0 → zq_V G Y lv enc kc kn (tgt) lo (st) sh z X o1) (KF : ¬ x < 0 → zq_V G Y lv enc kc kn (pc + 3) lo (st) sh z X o2) : zq_V G Y lv enc kc kn (pc) lo (.int x :: st) sh z X (@ite _ (x < 0) D o1 o2) := by
  intro r hr p e s m args below meth c A H locs ls C hz hS hA hP hl
  by_cases hc : x < 0
  · rw [if_pos hc] at hr
    exact lv_if_lt C.1 C.2.1 hd ht (fun _ => KT hc r hr p e s m args below meth c A H locs ls C hz hS hA hP hl) (fun h => absurd hc h)
  · rw [if_neg hc] at hr
    exact lv_if_lt C.1 C.2.1 hd ht (fun h => absurd h hc) (fun h => KF h r hr p e s m args below meth c A H locs ls C hz hS hA hP hl)
theorem zr_if_ge {x : Int32} {off : Int} {o1 o2 : Option ρ} {D : Decidable (0 ≤ x)} (tgt : Nat) (hd : decode Y.2.1 pc = .ok (.ifCond .ge off, 3)) (ht : (pc : Int) + off = (tgt : Int)) (KT : 0 ≤ x → zq_V G Y lv enc kc kn (tgt) lo (st) sh z X o1) (KF : ¬ 0 ≤ x → zq_V G Y lv enc kc kn (pc + 3) lo (st) sh z X o2) : zq_V G Y lv enc kc kn (pc) lo (.int x :: st) sh z X (@ite _ (0 ≤ x) D o1 o2) := by
  intro r hr p e s m args below meth c A H locs ls C hz hS hA hP hl
  by_cases hc : 0 ≤ x
  · rw [if_pos hc] at hr
    exact lv_if_ge C.1 C.2.1 hd ht (fun _ => KT hc r hr p e s m args below meth c A H locs ls C hz hS hA hP hl) (fun h => absurd hc h)
  · rw [if_neg hc] at hr
    exact lv_if_ge C.1 C.2.1 hd ht (fun h => absurd h hc) (fun h => KF h r hr p e s m args below meth c A H locs ls C hz hS hA hP hl)
theorem zr_if_gt {x : Int32} {off : Int} {o1 o2 : Option ρ} {D : Decidable (0 < x)} (tgt : Nat) (hd : decode Y.2.1 pc = .ok (.ifCond .gt off, 3)) (ht : (pc : Int) + off = (tgt : Int)) (KT : 0 < x → zq_V G Y lv enc kc kn (tgt) lo (st) sh z X o1) (KF : ¬ 0 < x → zq_V G Y lv enc kc kn (pc + 3) lo (st) sh z X o2) : zq_V G Y lv enc kc kn (pc) lo (.int x :: st) sh z X (@ite _ (0 < x) D o1 o2) := by
  intro r hr p e s m args below meth c A H locs ls C hz hS hA hP hl
  by_cases hc : 0 < x
  · rw [if_pos hc] at hr
    exact lv_if_gt C.1 C.2.1 hd ht (fun _ => KT hc r hr p e s m args below meth c A H locs ls C hz hS hA hP hl) (fun h => absurd hc h)
  · rw [if_neg hc] at hr
    exact lv_if_gt C.1 C.2.1 hd ht (fun h => absurd h hc) (fun h => KF h r hr p e s m args below meth c A H locs ls C hz hS hA hP hl)
theorem zr_if_le {x : Int32} {off : Int} {o1 o2 : Option ρ} {D : Decidable (x ≤ 0)} (tgt : Nat) (hd : decode Y.2.1 pc = .ok (.ifCond .le off, 3)) (ht : (pc : Int) + off = (tgt : Int)) (KT : x ≤ 0 → zq_V G Y lv enc kc kn (tgt) lo (st) sh z X o1) (KF : ¬ x ≤ 0 → zq_V G Y lv enc kc kn (pc + 3) lo (st) sh z X o2) : zq_V G Y lv enc kc kn (pc) lo (.int x :: st) sh z X (@ite _ (x ≤ 0) D o1 o2) := by
  intro r hr p e s m args below meth c A H locs ls C hz hS hA hP hl
  by_cases hc : x ≤ 0
  · rw [if_pos hc] at hr
    exact lv_if_le C.1 C.2.1 hd ht (fun _ => KT hc r hr p e s m args below meth c A H locs ls C hz hS hA hP hl) (fun h => absurd hc h)
  · rw [if_neg hc] at hr
    exact lv_if_le C.1 C.2.1 hd ht (fun h => absurd h hc) (fun h => KF h r hr p e s m args below meth c A H locs ls C hz hS hA hP hl)
theorem zr_icmp_eq {x y : Int32} {off : Int} {o1 o2 : Option ρ} {D : Decidable (x = y)} (tgt : Nat) (hd : decode Y.2.1 pc = .ok (.if_icmp .eq off, 3)) (ht : (pc : Int) + off = (tgt : Int)) (KT : x = y → zq_V G Y lv enc kc kn (tgt) lo (st) sh z X o1) (KF : ¬ x = y → zq_V G Y lv enc kc kn (pc + 3) lo (st) sh z X o2) : zq_V G Y lv enc kc kn (pc) lo (.int y :: .int x :: st) sh z X (@ite _ (x = y) D o1 o2) := by
  intro r hr p e s m args below meth c A H locs ls C hz hS hA hP hl
  by_cases hc : x = y
  · rw [if_pos hc] at hr
    exact lv_icmp_eq C.1 C.2.1 hd ht (fun _ => KT hc r hr p e s m args below meth c A H locs ls C hz hS hA hP hl) (fun h => absurd hc h)
  · rw [if_neg hc] at hr
    exact lv_icmp_eq C.1 C.2.1 hd ht (fun h => absurd h hc) (fun h => KF h r hr p e s m args below meth c A H locs ls C hz hS hA hP hl)
theorem zr_icmp_ne {x y : Int32} {off : Int} {o1 o2 : Option ρ} {D : Decidable (¬ x = y)} (tgt : Nat) (hd : decode Y.2.1 pc = .ok (.if_icmp .ne off, 3)) (ht : (pc : Int) + off = (tgt : Int)) (KT : ¬ x = y → zq_V G Y lv enc kc kn (tgt) lo (st) sh z X o1) (KF : x = y → zq_V G Y lv enc kc kn (pc + 3) lo (st) sh z X o2) : zq_V G Y lv enc kc kn (pc) lo (.int y :: .int x :: st) sh z X (@ite _ (¬ x = y) D o1 o2) := by
  intro r hr p e s m args below meth c A H locs ls C hz hS hA hP hl
  by_cases hc : ¬ x = y
  · rw [if_pos hc] at hr
    exact lv_icmp_ne C.1 C.2.1 hd ht (fun _ => KT hc r hr p e s m args below meth c A H locs ls C hz hS hA hP hl) (fun h => absurd h hc)
  · rw [if_neg hc] at hr
    exact lv_icmp_ne C.1 C.2.1 hd ht (fun h => absurd h hc) (fun h => KF h r hr p e s m args below meth c A H locs ls C hz hS hA hP hl)
theorem zr_icmp_lt {x y : Int32} {off : Int} {o1 o2 : Option ρ} {D : Decidable (x < y)} (tgt : Nat) (hd : decode Y.2.1 pc = .ok (.if_icmp .lt off, 3)) (ht : (pc : Int) + off = (tgt : Int)) (KT : x < y → zq_V G Y lv enc kc kn (tgt) lo (st) sh z X o1) (KF : ¬ x < y → zq_V G Y lv enc kc kn (pc + 3) lo (st) sh z X o2) : zq_V G Y lv enc kc kn (pc) lo (.int y :: .int x :: st) sh z X (@ite _ (x < y) D o1 o2) := by
  intro r hr p e s m args below meth c A H locs ls C hz hS hA hP hl
  by_cases hc : x < y
  · rw [if_pos hc] at hr
    exact lv_icmp_lt C.1 C.2.1 hd ht (fun _ => KT hc r hr p e s m args below meth c A H locs ls C hz hS hA hP hl) (fun h => absurd hc h)
  · rw [if_neg hc] at hr
    exact lv_icmp_lt C.1 C.2.1 hd ht (fun h => absurd h hc) (fun h => KF h r hr p e s m args below meth c A H locs ls C hz hS hA hP hl)
theorem zr_icmp_ge {x y : Int32} {off : Int} {o1 o2 : Option ρ} {D : Decidable (y ≤ x)} (tgt : Nat) (hd : decode Y.2.1 pc = .ok (.if_icmp .ge off, 3)) (ht : (pc : Int) + off = (tgt : Int)) (KT : y ≤ x → zq_V G Y lv enc kc kn (tgt) lo (st) sh z X o1) (KF : ¬ y ≤ x → zq_V G Y lv enc kc kn (pc + 3) lo (st) sh z X o2) : zq_V G Y lv enc kc kn (pc) lo (.int y :: .int x :: st) sh z X (@ite _ (y ≤ x) D o1 o2) := by
  intro r hr p e s m args below meth c A H locs ls C hz hS hA hP hl
  by_cases hc : y ≤ x
  · rw [if_pos hc] at hr
    exact lv_icmp_ge C.1 C.2.1 hd ht (fun _ => KT hc r hr p e s m args below meth c A H locs ls C hz hS hA hP hl) (fun h => absurd hc h)
  · rw [if_neg hc] at hr
    exact lv_icmp_ge C.1 C.2.1 hd ht (fun h => absurd h hc) (fun h => KF h r hr p e s m args below meth c A H locs ls C hz hS hA hP hl)
theorem zr_icmp_gt {x y : Int32} {off : Int} {o1 o2 : Option ρ} {D : Decidable (y < x)} (tgt : Nat) (hd : decode Y.2.1 pc = .ok (.if_icmp .gt off, 3)) (ht : (pc : Int) + off = (tgt : Int)) (KT : y < x → zq_V G Y lv enc kc kn (tgt) lo (st) sh z X o1) (KF : ¬ y < x → zq_V G Y lv enc kc kn (pc + 3) lo (st) sh z X o2) : zq_V G Y lv enc kc kn (pc) lo (.int y :: .int x :: st) sh z X (@ite _ (y < x) D o1 o2) := by
  intro r hr p e s m args below meth c A H locs ls C hz hS hA hP hl
  by_cases hc : y < x
  · rw [if_pos hc] at hr
    exact lv_icmp_gt C.1 C.2.1 hd ht (fun _ => KT hc r hr p e s m args below meth c A H locs ls C hz hS hA hP hl) (fun h => absurd hc h)
  · rw [if_neg hc] at hr
    exact lv_icmp_gt C.1 C.2.1 hd ht (fun h => absurd h hc) (fun h => KF h r hr p e s m args below meth c A H locs ls C hz hS hA hP hl)
theorem zr_icmp_le {x y : Int32} {off : Int} {o1 o2 : Option ρ} {D : Decidable (x ≤ y)} (tgt : Nat) (hd : decode Y.2.1 pc = .ok (.if_icmp .le off, 3)) (ht : (pc : Int) + off = (tgt : Int)) (KT : x ≤ y → zq_V G Y lv enc kc kn (tgt) lo (st) sh z X o1) (KF : ¬ x ≤ y → zq_V G Y lv enc kc kn (pc + 3) lo (st) sh z X o2) : zq_V G Y lv enc kc kn (pc) lo (.int y :: .int x :: st) sh z X (@ite _ (x ≤ y) D o1 o2) := by
  intro r hr p e s m args below meth c A H locs ls C hz hS hA hP hl
  by_cases hc : x ≤ y
  · rw [if_pos hc] at hr
    exact lv_icmp_le C.1 C.2.1 hd ht (fun _ => KT hc r hr p e s m args below meth c A H locs ls C hz hS hA hP hl) (fun h => absurd hc h)
  · rw [if_neg hc] at hr
    exact lv_icmp_le C.1 C.2.1 hd ht (fun h => absurd h hc) (fun h => KF h r hr p e s m args below meth c A H locs ls C hz hS hA hP hl)
end
end
section
theorem zq_hi0 : ∀ w ∈ u_ws RX0 TX0 5, w ∈ zq_T := by decide +kernel
theorem zq_hi1 : ∀ w ∈ u_ws RX1 TX1 7, w ∈ zq_T := by decide +kernel
theorem zq_hi2 : ∀ w ∈ u_ws RX2 TX2 7, w ∈ zq_T := by decide +kernel
theorem zq_hi3 : ∀ w ∈ u_ws RX3 TX3 4, w ∈ zq_T := by decide +kernel
theorem zq_hi4 : ∀ w ∈ u_ws RX4 TX4 2, w ∈ zq_T := by decide +kernel
theorem zq_hi5 : ∀ w ∈ u_ws RX5 TX5 15, w ∈ zq_T := by decide +kernel
theorem zq_hi6 : ∀ w ∈ u_ws RX6 TX6 7, w ∈ zq_T := by decide +kernel
theorem zq_hi7 : ∀ w ∈ u_ws RX7 TX7 3, w ∈ zq_T := by decide +kernel
theorem zq_hi8 : ∀ w ∈ u_ws RX8 TX8 1, w ∈ zq_T := by decide +kernel
theorem zq_hi9 : ∀ w ∈ u_ws RX9 TX9 8, w ∈ zq_T := by decide +kernel
theorem zq_hi10 : ∀ w ∈ u_ws RX10 TX10 16, w ∈ zq_T := by decide +kernel
theorem zq_hi11 : ∀ w ∈ u_ws RX11 TX11 67, w ∈ zq_T := by decide +kernel
theorem zq_hin : ∀ (ci : Nat) (q : vw_C), vwCl[ci]? = some q → ∀ w ∈ u_ws q.1 q.2.1 q.2.2, w ∈ zq_T := by
  intro ci q h
  match ci, h with
  | 0, h => cases h; exact zq_hi0
  | 1, h => cases h; exact zq_hi1
  | 2, h => cases h; exact zq_hi2
  | 3, h => cases h; exact zq_hi3
  | 4, h => cases h; exact zq_hi4
  | 5, h => cases h; exact zq_hi5
  | 6, h => cases h; exact zq_hi6
  | 7, h => cases h; exact zq_hi7
  | 8, h => cases h; exact zq_hi8
  | 9, h => cases h; exact zq_hi9
  | 10, h => cases h; exact zq_hi10
  | 11, h => cases h; exact zq_hi11
  | k + 12, h => cases h
def zq_tyf (ci : Nat) : Nat → FieldType := match ci with
  | 0 => tyX0
  | 1 => tyX1
  | 2 => tyX2
  | 3 => tyX3
  | 4 => tyX4
  | 5 => tyX5
  | 6 => tyX6
  | 7 => tyX7
  | 8 => tyX8
  | 9 => tyX9
  | 10 => tyX10
  | 11 => tyX11
  | _ => fun _ => .int
theorem zq_tyo : ∀ (ci : Nat) (q : vw_C), vwCl[ci]? = some q → (∀ k, k < q.2.2 → parseFieldDescriptor (q.2.1 k).2.2.1 = some (zq_tyf ci k)) ∧ ∀ a, a < q.2.2 → ∀ b, b < q.2.2 → a ≠ b → (q.2.1 a).2.1 ≠ (q.2.1 b).2.1 := by
  intro ci q h
  match ci, h with
  | 0, h => cases h; exact ⟨tyX0_ok, nmX0⟩
  | 1, h => cases h; exact ⟨tyX1_ok, nmX1⟩
  | 2, h => cases h; exact ⟨tyX2_ok, nmX2⟩
  | 3, h => cases h; exact ⟨tyX3_ok, nmX3⟩
  | 4, h => cases h; exact ⟨tyX4_ok, nmX4⟩
  | 5, h => cases h; exact ⟨tyX5_ok, nmX5⟩
  | 6, h => cases h; exact ⟨tyX6_ok, nmX6⟩
  | 7, h => cases h; exact ⟨tyX7_ok, nmX7⟩
  | 8, h => cases h; exact ⟨tyX8_ok, nmX8⟩
  | 9, h => cases h; exact ⟨tyX9_ok, nmX9⟩
  | 10, h => cases h; exact ⟨tyX10_ok, nmX10⟩
  | 11, h => cases h; exact ⟨tyX11_ok, nmX11⟩
  | k + 12, h => cases h

theorem zq_ad_inj {G : zq_G} {a b : Nat} (h : zq_ad G a = zq_ad G b) : a = b := by unfold zq_ad at h; omega
theorem zq_one {G : zq_G} {sh : zq_H} {X : zq_M} {H : Heap} {c : Nat} {s : zq_S} (hP : zq_P G sh X H) (hs : sh c = some s) : va_P G.2.1 vwCl [(zq_ad G c, zq_cell G X c s)] H := by
  intro k q hq
  match k, hq with
  | 0, hq => cases hq; exact hP c s hs
  | k + 1, hq => simp at hq
theorem zq_P.upd {G : zq_G} {sh sh1 : zq_H} {X X1 : zq_M} {H H1 : Heap} {c : Nat} {s1 : zq_S} (hP : zq_P G sh X H) (hc : va_at G.2.1 vwCl (zq_ad G c, zq_cell G X1 c s1) H1) (hs : sh1 c = some s1) (hsh : ∀ d, d ≠ c → sh1 d = sh d)
    (hX : ∀ d, d ≠ c → X1.1 d = X.1 d ∧ X1.2.1 d = X.2.1 d ∧ X1.2.2 d = X.2.2 d) (hq : ∀ d s, d ≠ c → sh d = some s → H1[zq_ad G d]? = H[zq_ad G d]?) : zq_P G sh1 X1 H1 := by
  intro d s hd
  by_cases h : d = c
  · subst h
    rw [hs] at hd
    cases hd
    exact hc
  · rw [hsh d h] at hd
    obtain ⟨e1, e2, e3⟩ := hX d h
    have h1 := hP d s hd
    have h2 : va_at G.2.1 vwCl (zq_ad G d, zq_cell G X d s) H1 := h1.kept (hq d s h hd)
    unfold zq_cell at h2 ⊢
    rw [e1, e2, e3]
    exact h2
theorem zq_up_ne {α : Type} {f : Nat → Nat → α} {c k d : Nat} {v : α} (h : d ≠ c) : zq_up f c k v d = f d := by
  funext j
  simp [zq_up, h]
theorem zq_up_eq {α : Type} {f : Nat → Nat → α} {c k : Nat} {v : α} : zq_up f c k v c = fun j => if j = k then v else f c j := by
  funext j
  simp [zq_up]
theorem zq_u1_ne {X : zq_M} {c k d : Nat} {v : Int32} (h : d ≠ c) : (zq_u1 X c k v).1 d = X.1 d ∧ (zq_u1 X c k v).2.1 d = X.2.1 d ∧ (zq_u1 X c k v).2.2 d = X.2.2 d := ⟨zq_up_ne h, rfl, rfl⟩
theorem zq_u2_ne {X : zq_M} {c k d : Nat} {v : Int64} (h : d ≠ c) : (zq_u2 X c k v).1 d = X.1 d ∧ (zq_u2 X c k v).2.1 d = X.2.1 d ∧ (zq_u2 X c k v).2.2 d = X.2.2 d := ⟨rfl, zq_up_ne h, rfl⟩
theorem zq_u3_ne {X : zq_M} {c k d : Nat} {v : Option Nat} (h : d ≠ c) : (zq_u3 X c k v).1 d = X.1 d ∧ (zq_u3 X c k v).2.1 d = X.2.1 d ∧ (zq_u3 X c k v).2.2 d = X.2.2 d := ⟨rfl, rfl, zq_up_ne h⟩
theorem zq_z_ne {X : zq_M} {c d : Nat} (h : d ≠ c) : (zq_z X c).1 d = X.1 d ∧ (zq_z X c).2.1 d = X.2.1 d ∧ (zq_z X c).2.2 d = X.2.2 d := by
  refine ⟨?_, ?_, ?_⟩ <;> (funext j; simp [zq_z, h])
theorem zq_fs_get {G : zq_G} {f1 : Nat → Int32} {f2 : Nat → Int64} {f3 : Nat → Option Nat} {ks : List Nat} {k kd : Nat} (h : ks[k]? = some kd) : (zq_fs G f1 f2 f3 ks)[k]? = some (zq_fv G f1 f2 f3 k kd) := by
  unfold zq_fs
  rw [List.getElem?_mapIdx, h]
  rfl
theorem zq_fs_len {G : zq_G} {f1 : Nat → Int32} {f2 : Nat → Int64} {f3 : Nat → Option Nat} {ks : List Nat} : (zq_fs G f1 f2 f3 ks).length = ks.length := by
  unfold zq_fs
  simp
theorem zq_fs_set {G : zq_G} {f1 g1 : Nat → Int32} {f2 g2 : Nat → Int64} {f3 g3 : Nat → Option Nat} {ks : List Nat} {k kd : Nat} {v : Value} (hk : k < ks.length) (hv : zq_fv G g1 g2 g3 k kd = v) (h1 : ∀ j, j ≠ k → g1 j = f1 j) (h2 : ∀ j, j ≠ k → g2 j = f2 j) (h3 : ∀ j, j ≠ k → g3 j = f3 j) : (zq_fs G f1 f2 f3 ks).set k v = zq_fs G g1 g2 g3 (ks.set k kd) := by
  apply List.ext_getElem?
  intro j
  by_cases hj : k = j
  · subst hj
    rw [List.getElem?_set_self (by rw [zq_fs_len]; exact hk)]
    rw [zq_fs_get (kd := kd) (by rw [List.getElem?_set_self hk]), hv]
  · rw [List.getElem?_set_ne hj]
    unfold zq_fs
    rw [List.getElem?_mapIdx, List.getElem?_mapIdx, List.getElem?_set_ne hj]
    cases ks[j]? with
    | none => rfl
    | some d =>
      have hj' : j ≠ k := fun e => hj e.symm
      show some _ = some _
      congr 1
      unfold zq_fv
      rw [h1 j hj', h2 j hj', h3 j hj']
theorem zq_kd_spec {sh : zq_H} {c k ci kd : Nat} (h : zq_kd sh c k = some (ci, kd)) : ∃ ks : List Nat, sh c = some (.inl (ci, ks)) ∧ ks[k]? = some kd := by
  unfold zq_kd at h
  split at h
  · rename_i ci' ks hs
    cases hk : ks[k]? with
    | none => rw [hk] at h; cases h
    | some d =>
      rw [hk] at h
      cases h
      exact ⟨ks, hs, hk⟩
  · cases h
section
variable {ρ : Type} {G : zq_G} {Y : zq_Y} {lv : zq_L} {enc : ρ → Option Value × zq_W} {kc kn pc : Nat} {lo : List (Nat × Value)} {st : List Value} {sh : zq_H} {z : Nat} {X : zq_M} {o : Option ρ}
theorem zr_getG {c k ci kd idx : Nat} (hk : zq_kd sh c k = some (ci, kd)) (hf : zq_FL Y.1.cls idx ci k) (hd : decode Y.2.1 pc = .ok (.getfield idx, 3)) (K : zq_V G Y lv enc kc kn (pc + 3) lo (zq_fv G (X.1 c) (X.2.1 c) (X.2.2 c) k kd :: st) sh z X o) : zq_V G Y lv enc kc kn pc lo (.ref (zq_ad G c) :: st) sh z X o := by
  intro r hr p e s m args below meth c' A H locs ls C hz hS hA hP hl
  obtain ⟨ks, h1, h2⟩ := zq_kd_spec hk
  obtain ⟨q, hq, hk2, hw⟩ := hf
  exact va_get (ci := ci) (C := q.1) (T := q.2.1) (N := q.2.2) C.1 C.2.1 C.2.2.2.2.2.1 (zq_hin ci q hq) C.2.2.2.2.1 C.2.2.2.2.2.2.2.2.1 (zq_one hP h1) 0 rfl hq k hk2 (C.2.2.2.2.2.1 _ hw) (fun x h => h) (zq_fs_get h2) hd (K r hr p e s m args below meth c' A H locs ls C hz hS hA hP hl)
theorem zr_getI {c k ci idx : Nat} (hd : decode Y.2.1 pc = .ok (.getfield idx, 3)) (hf : zq_FL Y.1.cls idx ci k) (hk : zq_kd sh c k = some (ci, 0)) (K : zq_V G Y lv enc kc kn (pc + 3) lo (.int (X.1 c k) :: st) sh z X o) : zq_V G Y lv enc kc kn pc lo (.ref (zq_ad G c) :: st) sh z X o := zr_getG hk hf hd K
theorem zr_getL {c k ci idx : Nat} (hd : decode Y.2.1 pc = .ok (.getfield idx, 3)) (hf : zq_FL Y.1.cls idx ci k) (hk : zq_kd sh c k = some (ci, 1)) (K : zq_V G Y lv enc kc kn (pc + 3) lo (.long (X.2.1 c k) :: st) sh z X o) : zq_V G Y lv enc kc kn pc lo (.ref (zq_ad G c) :: st) sh z X o := zr_getG hk hf hd K
theorem zr_getC {c k ci j idx : Nat} (hd : decode Y.2.1 pc = .ok (.getfield idx, 3)) (hf : zq_FL Y.1.cls idx ci k) (hk : zq_kd sh c k = some (ci, j + 4)) (K : zq_V G Y lv enc kc kn (pc + 3) lo (.ref (zq_ad G j) :: st) sh z X o) : zq_V G Y lv enc kc kn pc lo (.ref (zq_ad G c) :: st) sh z X o := zr_getG hk hf hd K
theorem zr_getR {c k ci idx : Nat} {b : Nat → Bool} {f : Nat → Option ρ} (hd : decode Y.2.1 pc = .ok (.getfield idx, 3)) (hf : zq_FL Y.1.cls idx ci k) (hk : zq_kd sh c k = some (ci, 2)) (K : ∀ h, b h = true → zq_V G Y lv enc kc kn (pc + 3) lo (.ref (zq_ad G h) :: st) sh z X (f h)) : zq_V G Y lv enc kc kn pc lo (.ref (zq_ad G c) :: st) sh z X (zq_nn (X.2.2 c k) b f) := by
  intro r hr
  unfold zq_nn at hr
  cases hX : X.2.2 c k with
  | none => rw [hX] at hr; cases hr
  | some h =>
    rw [hX] at hr
    by_cases hb : b h = true
    · simp only [hb, if_true] at hr
      refine zr_getG (o := some r) hk hf hd ?_ r rfl
      show zq_V G Y lv enc kc kn (pc + 3) lo (va_rf ((X.2.2 c k).map (zq_ad G)) :: st) sh z X (some r)
      rw [hX, ← hr]
      exact K h hb
    · simp only [hb] at hr
      cases hr
theorem zq_putG {c k ci idx : Nat} {ks : List Nat} {X1 : zq_M} {kd1 : Nat} {v : Value} {ty : FieldType} (fin : Bool) (hs : sh c = some (.inl (ci, ks))) (hk : k < ks.length) (hf : zq_FL Y.1.cls idx ci k) (hd : decode Y.2.1 pc = .ok (.putfield idx, 3))
    (hty : zq_tyf ci k = ty) (hn : narrow ty v = v) (hfit : fits ty v = true) (hfin : ∀ q : vw_C, vwCl[ci]? = some q → (q.2.1 k).2.2.2 = fin) (hin : fin = true → Y.1.name = "<init>" ∧ ∀ q : vw_C, vwCl[ci]? = some q → (q.2.1 k).1 = Y.1.cls)
    (hv : zq_fv G (X1.1 c) (X1.2.1 c) (X1.2.2 c) k kd1 = v) (h1 : ∀ j, j ≠ k → X1.1 c j = X.1 c j) (h2 : ∀ j, j ≠ k → X1.2.1 c j = X.2.1 c j) (h3 : ∀ j, j ≠ k → X1.2.2 c j = X.2.2 c j) (hX : ∀ d, d ≠ c → X1.1 d = X.1 d ∧ X1.2.1 d = X.2.1 d ∧ X1.2.2 d = X.2.2 d)
    (K : zq_V G Y lv enc kc kn (pc + 3) lo st (zq_us sh c (.inl (ci, ks.set k kd1))) z X1 o) : zq_V G Y lv enc kc kn pc lo (v :: .ref (zq_ad G c) :: st) sh z X o := by
  intro r hr p e s m args below meth c' A H locs ls C hz hS hA hP hl
  obtain ⟨q, hq, hk2, hw⟩ := hf
  have hts := C.2.2.2.2.2.1
  have hK := C.2.2.2.2.2.2.2.2.1
  have hcl := zq_hin ci q hq
  obtain ⟨hto, hnm⟩ := zq_tyo ci q hq
  have hpd : parseFieldDescriptor (q.2.1 k).2.2.1 = some ty := by rw [← hty]; exact hto k hk2
  have hap := va_apart (own := Y.1.cls) hts hcl (zq_tyf ci) hto hnm hK hq
  obtain ⟨r', g1, cell, q1, q2, q3, q4⟩ := hP c _ hs
  have hr' : r' = q := Option.some.inj (g1.symm.trans hq)
  subst hr'
  obtain ⟨hSl, hfc, kC, hkC, hkind⟩ := hK.1 ci _ hq
  obtain ⟨cf, kf, fi, f, hi, hsl⟩ := hSl k hk2
  have hst := (u_facts hfc hkC (u_lays hts hcl hk2) hi).1
  have hlen : k < (zq_fs G (X.1 c) (X.2.1 c) (X.2.2 c) ks).length := by rw [zq_fs_len]; exact hk
  have hset : (zq_fs G (X.1 c) (X.2.1 c) (X.2.2 c) ks).set k v = zq_fs G (X1.1 c) (X1.2.1 c) (X1.2.2 c) (ks.set k kd1) := zq_fs_set hk hv h1 h2 h3
  have fin2 : ∀ H1 : Heap, H1[zq_ad G c]? = some (cell.setSlot (G.2.1.2 ci k) v) → H1.size = H.size → (∀ q : Nat, q ≠ zq_ad G c → H1[q]? = H[q]?) → W p G.1 e (zq_R lv) s m args below meth c' H1 (locs ++ [⟨zq_ad G c, G.2.1.2 ci k⟩]) kc kn (MQ below (zq_Q G A (enc r)) args s lv.2.1 lv.2.2 A) (F0 m (pc + 3) ls st) := by
    intro H1 e1 e2 e3
    refine K r hr p e s m args below meth c' A H1 _ ls C (e2.trans hz) (hS.put e2 e3 (hA c _ hs)) ?_ ?_ hl
    · intro d s' hd'
      by_cases hdc : d = c
      · subst hdc
        exact hA d _ hs
      · rw [show zq_us sh c (.inl (ci, ks.set k kd1)) d = sh d from if_neg hdc] at hd'
        exact hA d _ hd'
    · refine hP.upd (c := c) (s1 := .inl (ci, ks.set k kd1)) ?_ (if_pos rfl) (fun d hd' => if_neg hd') hX (fun d _ hd' _ => e3 _ (fun e => hd' (zq_ad_inj e)))
      show va_at G.2.1 vwCl (zq_ad G c, .inr (ci, zq_fs G (X1.1 c) (X1.2.1 c) (X1.2.2 c) (ks.set k kd1))) H1
      rw [← hset]
      exact ⟨_, hq, t_OB.to (V := updV (vp_V (zq_fs G (X.1 c) (X.2.1 c) (X.2.2 c) ks)) k v) ⟨_, e1, q2, q3, t_set q4 hap hk2 v⟩ (fun j _ => vp_updV_set hlen v j)⟩
  cases fin with
  | false =>
    have hlay := hts _ (hcl _ (u_in_lay hk2))
    unfold u_lay at hlay
    rw [if_neg (by rw [hfin _ hq]; decide)] at hlay
    have h6 := u_store hfc hkC hkind hlay hi hpd hn hfit
    refine W.putK C.1 C.2.1 (f := f) ⟨C.2.2.2.2.1, hts _ hw, ⟨_, _, _, hi⟩, hst⟩ (by rw [q2]; exact h6) q1 q3 (by rw [hsl]; exact k2_hasslot (q4 k hk2)) rfl rfl hd fun H' e1 e2 e3 => ?_
    rw [hsl] at e1 ⊢
    exact fin2 H' e1 e2 e3
  | true =>
    have hlay := hts _ (hcl _ (u_in_lay hk2))
    unfold u_lay at hlay
    rw [if_pos (hfin _ hq)] at hlay
    obtain ⟨hn1, hn2⟩ := hin rfl
    have hcf : m.cls = cf := by
      obtain ⟨_, _, c2, _, _, _, -, -, hf', -, -, -, hown2, -⟩ := Cond.laysFinal_spec hlay
      have e1 : c2 = cf := by have := hi.symm.trans hf'; simp at this; exact this.1.symm
      rw [hn2 _ hq] at hown2
      rw [← e1]; exact Option.some.inj (C.2.2.2.2.1.symm.trans hown2)
    have h6 := u_fits hfc hkC hkind (Or.inr hlay) hi hpd hn hfit
    refine W.putFinK C.1 C.2.1 C.2.2.2.2.1 (hts _ hw) hi hst hcf (C.2.2.2.2.2.2.2.1.trans hn1) (by rw [q2]; exact h6) q1 q3 (by rw [hsl]; exact k2_hasslot (q4 k hk2)) rfl rfl hd fun H' e1 e2 e3 => ?_
    rw [hsl] at e1 ⊢
    exact fin2 H' e1 e2 e3
theorem zq_us_self {sh : zq_H} {c : Nat} {s : zq_S} (h : sh c = some s) : zq_us sh c s = sh := by
  funext d
  unfold zq_us
  by_cases hd : d = c
  · subst hd; rw [if_pos rfl, h]
  · rw [if_neg hd]
theorem zq_set_self {ks : List Nat} {k kd : Nat} (h : ks[k]? = some kd) : ks.set k kd = ks := by
  apply List.ext_getElem?
  intro j
  by_cases hj : k = j
  · subst hj
    rw [List.getElem?_set_self (List.getElem?_eq_some_iff.mp h).1, h]
  · rw [List.getElem?_set_ne hj]
def zq_nf (ci k : Nat) (fin : Bool) (ty : FieldType) : Prop := zq_tyf ci k = ty ∧ ∀ q : vw_C, vwCl[ci]? = some q → (q.2.1 k).2.2.2 = fin
theorem zr_putI {c k ci idx : Nat} {v : Int32} {f : zq_M → Option ρ} (hd : decode Y.2.1 pc = .ok (.putfield idx, 3)) (hf : zq_FL Y.1.cls idx ci k) (hk : zq_kd sh c k = some (ci, 0)) (ht : zq_nf ci k false .int) (K : ∀ X1, zq_V G Y lv enc kc kn (pc + 3) lo st sh z X1 (f X1)) : zq_V G Y lv enc kc kn pc lo (.int v :: .ref (zq_ad G c) :: st) sh z X (zq_b (zq_u1 X c k v) f) := by
  obtain ⟨ks, h1, h2⟩ := zq_kd_spec hk
  refine zq_putG (X1 := zq_u1 X c k v) (kd1 := 0) false h1 (List.getElem?_eq_some_iff.mp h2).1 hf hd ht.1 rfl rfl ht.2 (fun h => by cases h) ?_ ?_ (fun _ _ => rfl) (fun _ _ => rfl) (fun d hd' => zq_u1_ne hd') ?_
  · show Value.int (zq_up X.1 c k v c k) = _
    simp [zq_up]
  · intro j hj
    show zq_up X.1 c k v c j = X.1 c j
    simp [zq_up, hj]
  · rw [zq_set_self h2, zq_us_self h1]
    exact K _
theorem zr_putL {c k ci idx : Nat} {v : Int64} {f : zq_M → Option ρ} (hd : decode Y.2.1 pc = .ok (.putfield idx, 3)) (hf : zq_FL Y.1.cls idx ci k) (hk : zq_kd sh c k = some (ci, 1)) (ht : zq_nf ci k false .long) (K : ∀ X1, zq_V G Y lv enc kc kn (pc + 3) lo st sh z X1 (f X1)) : zq_V G Y lv enc kc kn pc lo (.long v :: .ref (zq_ad G c) :: st) sh z X (zq_b (zq_u2 X c k v) f) := by
  obtain ⟨ks, h1, h2⟩ := zq_kd_spec hk
  refine zq_putG (X1 := zq_u2 X c k v) (kd1 := 1) false h1 (List.getElem?_eq_some_iff.mp h2).1 hf hd ht.1 rfl rfl ht.2 (fun h => by cases h) ?_ (fun _ _ => rfl) ?_ (fun _ _ => rfl) (fun d hd' => zq_u2_ne hd') ?_
  · show Value.long (zq_up X.2.1 c k v c k) = _
    simp [zq_up]
  · intro j hj
    show zq_up X.2.1 c k v c j = X.2.1 c j
    simp [zq_up, hj]
  · rw [zq_set_self h2, zq_us_self h1]
    exact K _
theorem zr_putZ {c k ci idx : Nat} {v : Int32} {f : zq_M → Option ρ} (hd : decode Y.2.1 pc = .ok (.putfield idx, 3)) (hf : zq_FL Y.1.cls idx ci k) (hk : zq_kd sh c k = some (ci, 0)) (ht : zq_nf ci k false .boolean) (K : ∀ X1, zq_V G Y lv enc kc kn (pc + 3) lo st sh z X1 (f X1)) : zq_V G Y lv enc kc kn pc lo (.int v :: .ref (zq_ad G c) :: st) sh z X (zq_gz v (zq_b (zq_u1 X c k v) f)) := by
  intro r hr
  unfold zq_gz at hr
  by_cases hv : v = 0 ∨ v = 1
  · rw [if_pos hv] at hr
    obtain ⟨ks, h1, h2⟩ := zq_kd_spec hk
    have hn : narrow .boolean (.int v) = .int v := by rcases hv with h | h <;> (subst h; rfl)
    have hfit : fits .boolean (.int v) = true := by rcases hv with h | h <;> (subst h; rfl)
    have key : zq_V G Y lv enc kc kn pc lo (.int v :: .ref (zq_ad G c) :: st) sh z X (zq_b (zq_u1 X c k v) f) := by
      refine zq_putG (X1 := zq_u1 X c k v) (kd1 := 0) false h1 (List.getElem?_eq_some_iff.mp h2).1 hf hd ht.1 hn hfit ht.2 (fun h => by cases h) ?_ ?_ (fun _ _ => rfl) (fun _ _ => rfl) (fun d hd' => zq_u1_ne hd') ?_
      · show Value.int (zq_up X.1 c k v c k) = _
        simp [zq_up]
      · intro j hj
        show zq_up X.1 c k v c j = X.1 c j
        simp [zq_up, hj]
      · rw [zq_set_self h2, zq_us_self h1]
        exact K _
    exact key r hr
  · rw [if_neg hv] at hr
    cases hr
theorem zr_putR {c k ci idx j : Nat} {ty : FieldType} {f : zq_M → Option ρ} (hd : decode Y.2.1 pc = .ok (.putfield idx, 3)) (hf : zq_FL Y.1.cls idx ci k) (hk : zq_kd sh c k = some (ci, 2)) (ht : zq_nf ci k false ty) (hn : narrow ty (.ref (zq_ad G j)) = .ref (zq_ad G j)) (hfit : fits ty (.ref (zq_ad G j)) = true) (K : ∀ X1, zq_V G Y lv enc kc kn (pc + 3) lo st sh z X1 (f X1)) : zq_V G Y lv enc kc kn pc lo (.ref (zq_ad G j) :: .ref (zq_ad G c) :: st) sh z X (zq_b (zq_u3 X c k (some j)) f) := by
  obtain ⟨ks, h1, h2⟩ := zq_kd_spec hk
  refine zq_putG (X1 := zq_u3 X c k (some j)) (kd1 := 2) false h1 (List.getElem?_eq_some_iff.mp h2).1 hf hd ht.1 hn hfit ht.2 (fun h => by cases h) ?_ (fun _ _ => rfl) (fun _ _ => rfl) ?_ (fun d hd' => zq_u3_ne hd') ?_
  · show va_rf ((zq_up X.2.2 c k (some j) c k).map (zq_ad G)) = _
    simp [zq_up, va_rf]
  · intro i hi
    show zq_up X.2.2 c k (some j) c i = X.2.2 c i
    simp [zq_up, hi]
  · rw [zq_set_self h2, zq_us_self h1]
    exact K _
theorem zr_putC {c k ci idx j : Nat} {ty : FieldType} {ks : List Nat} (hd : decode Y.2.1 pc = .ok (.putfield idx, 3)) (hf : zq_FL Y.1.cls idx ci k) (hk : zq_kd sh c k = some (ci, 3)) (hs : sh c = some (.inl (ci, ks))) (ht : zq_nf ci k true ty) (hi : Y.1.name = "<init>") (ho : ∀ q : vw_C, vwCl[ci]? = some q → (q.2.1 k).1 = Y.1.cls) (hn : narrow ty (.ref (zq_ad G j)) = .ref (zq_ad G j)) (hfit : fits ty (.ref (zq_ad G j)) = true) (K : zq_V G Y lv enc kc kn (pc + 3) lo st (zq_us sh c (.inl (ci, ks.set k (j + 4)))) z X o) : zq_V G Y lv enc kc kn pc lo (.ref (zq_ad G j) :: .ref (zq_ad G c) :: st) sh z X o := by
  obtain ⟨ks', h1, h2⟩ := zq_kd_spec hk
  cases h1.symm.trans hs
  exact zq_putG (X1 := X) (kd1 := j + 4) true hs (List.getElem?_eq_some_iff.mp h2).1 hf hd ht.1 hn hfit ht.2 (fun _ => ⟨hi, ho⟩) rfl (fun _ _ => rfl) (fun _ _ => rfl) (fun _ _ => rfl) (fun d _ => ⟨rfl, rfl, rfl⟩) K
end
section
variable {ρ : Type} {G : zq_G} {Y : zq_Y} {lv : zq_L} {enc : ρ → Option Value × zq_W} {kc kn pc : Nat} {lo : List (Nat × Value)} {st : List Value} {sh : zq_H} {z : Nat} {X : zq_M} {o : Option ρ}
def zq_tk (kd : Nat) : FieldType := match kd with
  | 0 => .int
  | 1 => .boolean
  | 2 => .long
  | 3 => .object "MiddleSpeaks$House"
  | _ => .object "MiddleSpeaks$Tape"
theorem zq_ck_some {i : Int32} {n : Nat} {r : ρ} (h : zq_ck i n o = some r) : vp_in i n ∧ o = some r := by
  unfold zq_ck at h
  split at h
  · cases h
  · rename_i g
    exact ⟨g, h⟩
theorem zr_iald {a n : Nat} {i : Int32} (hd : decode Y.2.1 pc = .ok (.iaload, 1)) (ha : sh a = some (.inr (0, n))) (K : zq_V G Y lv enc kc kn (pc + 1) lo (.int (X.1 a (zq_ix i)) :: st) sh z X o) : zq_V G Y lv enc kc kn pc lo (.int i :: .ref (zq_ad G a) :: st) sh z X (zq_ck i n o) := by
  intro r hr p e s m args below meth c A H locs ls C hz hS hA hP hl
  obtain ⟨hi, hr⟩ := zq_ck_some hr
  exact va_iald C.1 C.2.1 C.2.2.2.2.2.2.2.2.1 (zq_one hP ha) 0 0 rfl rfl hi hd (K r hr p e s m args below meth c A H locs ls C hz hS hA hP hl)
theorem zr_zald {a n : Nat} {i : Int32} (hd : decode Y.2.1 pc = .ok (.baload, 1)) (ha : sh a = some (.inr (1, n))) (K : zq_V G Y lv enc kc kn (pc + 1) lo (.int (X.1 a (zq_ix i)) :: st) sh z X o) : zq_V G Y lv enc kc kn pc lo (.int i :: .ref (zq_ad G a) :: st) sh z X (zq_ck i n o) := by
  intro r hr p e s m args below meth c A H locs ls C hz hS hA hP hl
  obtain ⟨hi, hr⟩ := zq_ck_some hr
  exact va_zald C.1 C.2.1 C.2.2.2.2.2.2.2.2.1 (zq_one hP ha) 0 1 rfl rfl hi hd (K r hr p e s m args below meth c A H locs ls C hz hS hA hP hl)
theorem zr_lald {a n : Nat} {i : Int32} (hd : decode Y.2.1 pc = .ok (.laload, 1)) (ha : sh a = some (.inr (2, n))) (K : zq_V G Y lv enc kc kn (pc + 1) lo (.long (X.2.1 a (zq_ix i)) :: st) sh z X o) : zq_V G Y lv enc kc kn pc lo (.int i :: .ref (zq_ad G a) :: st) sh z X (zq_ck i n o) := by
  intro r hr p e s m args below meth c A H locs ls C hz hS hA hP hl
  obtain ⟨hi, hr⟩ := zq_ck_some hr
  exact va_lald C.1 C.2.1 C.2.2.2.2.2.2.2.2.1 (zq_one hP ha) 0 2 rfl rfl hi hd (K r hr p e s m args below meth c A H locs ls C hz hS hA hP hl)
theorem zr_aald {a n kd : Nat} {C0 : String} {i : Int32} {b : Nat → Bool} {f : Nat → Option ρ} (hd : decode Y.2.1 pc = .ok (.aaload, 1)) (ha : sh a = some (.inr (kd, n))) (hk : (zq_ty G)[kd]? = some (zq_aC G kd, .object C0)) (hk3 : ∀ f1 f2 f3, zq_ar G f1 f2 f3 kd n = (n, .inr (.inr (.inr (.inr (fun j => (f3 j).map (zq_ad G))))))) (K : ∀ h, b h = true → zq_V G Y lv enc kc kn (pc + 1) lo (.ref (zq_ad G h) :: st) sh z X (f h)) : zq_V G Y lv enc kc kn pc lo (.int i :: .ref (zq_ad G a) :: st) sh z X (zq_ck i n (zq_nn (X.2.2 a (zq_ix i)) b f)) := by
  intro r hr p e s m args below meth c A H locs ls C hz hS hA hP hl
  obtain ⟨hi, hr⟩ := zq_ck_some hr
  have h1 := zq_one hP ha
  unfold zq_cell zq_cel at h1
  simp only [hk3] at h1
  refine va_aldq C.1 C.2.1 C.2.2.2.2.2.2.2.2.1 h1 0 kd rfl hk hi hd ?_
  unfold zq_nn at hr
  show W p G.1 e (zq_R lv) s m args below meth c H locs kc kn _ (F0 m (pc + 1) ls (va_rf ((X.2.2 a (zq_ix i)).map (zq_ad G)) :: st))
  cases hX : X.2.2 a (zq_ix i) with
  | none => rw [hX] at hr; cases hr
  | some h =>
    rw [hX] at hr
    by_cases hb : b h = true
    · simp only [hb, if_true] at hr
      exact K h hb r hr p e s m args below meth c A H locs ls C hz hS hA hP hl
    · simp only [hb] at hr
      cases hr
theorem zq_arW {c a n kd : Nat} {X1 : zq_M} {H1 : Heap} {p : Program} {e : Env} {s : State} {m : MethodId} {args : Array Value} {below : List Frame} {meth : Method} {c' : Code} {A : Nat → Prop} {H : Heap} {locs : List Loc} {ls : Array Slot} {r : ρ} (hr : o = some r) (ha : sh a = some (.inr (kd, n))) (C : zq_C G Y p s m args meth c' A) (hz : H.size = z) (hS : va_S A s.heap H locs) (hA : ∀ c s, sh c = some s → A (zq_ad G c)) (hP : zq_P G sh X H) (hl : lv_has ls Y.2.2.1 lo) (K : zq_V G Y lv enc kc kn c lo st sh z X1 o) (hX : ∀ d, d ≠ a → X1.1 d = X.1 d ∧ X1.2.1 d = X.2.1 d ∧ X1.2.2 d = X.2.2 d) {k : Nat} (hc : H1[zq_ad G a]? = some (vp_cell (zq_aC G kd) (zq_ar G (X1.1 a) (X1.2.1 a) (X1.2.2 a) kd n))) (e2 : H1.size = H.size) (e3 : ∀ q : Nat, q ≠ zq_ad G a → H1[q]? = H[q]?) : W p G.1 e (zq_R lv) s m args below meth c' H1 (locs ++ [⟨zq_ad G a, k⟩]) kc kn (MQ below (zq_Q G A (enc r)) args s lv.2.1 lv.2.2 A) (F0 m c ls st) :=
  K r hr p e s m args below meth c' A H1 _ ls C (e2.trans hz) (hS.put e2 e3 (hA a _ ha)) hA (hP.upd (c := a) (s1 := .inr (kd, n)) hc ha (fun _ _ => rfl) hX (fun d _ hd' _ => e3 _ (fun e => hd' (zq_ad_inj e)))) hl
theorem zr_iast {a n : Nat} {i v : Int32} {f : zq_M → Option ρ} (hd : decode Y.2.1 pc = .ok (.iastore, 1)) (ha : sh a = some (.inr (0, n))) (K : ∀ X1, zq_V G Y lv enc kc kn (pc + 1) lo st sh z X1 (f X1)) : zq_V G Y lv enc kc kn pc lo (.int v :: .int i :: .ref (zq_ad G a) :: st) sh z X (zq_ck i n (zq_b (zq_u1 X a (zq_ix i) v) f)) := by
  intro r hr p e s m args below meth c A H locs ls C hz hS hA hP hl
  obtain ⟨hi, hr⟩ := zq_ck_some hr
  refine W.iast C.1 C.2.1 (hP a _ ha) ((C.2.2.2.2.2.2.2.2.1.2 0 _ rfl).1 n (fun j => .int (X.1 a j))) (fun q => by cases q) (by show ¬ (i < 0 ∨ (arrV _ _ _).slots.size ≤ _); rw [arrV_size]; exact hi) rfl rfl hd fun H1 e1 e2 e3 => ?_
  refine zq_arW hr ha C hz hS hA hP hl (K (zq_u1 X a (zq_ix i) v)) (fun d hd' => zq_u1_ne hd') ?_ e2 e3
  rw [e1]
  show some ((arrV (zq_aC G 0) n (fun j => .int (X.1 a j))).setSlot _ _) = some (arrV (zq_aC G 0) n (fun j => .int (zq_up X.1 a (zq_ix i) v a j)))
  rw [arrV_store]
  congr 2
  funext q
  by_cases hq : q = i.toNatClampNeg
  · subst hq
    simp [updV, zq_up, zq_ix]
  · simp [updV, zq_up, zq_ix, hq]
theorem zr_zast {a n : Nat} {i v : Int32} {f : zq_M → Option ρ} (hd : decode Y.2.1 pc = .ok (.bastore, 1)) (ha : sh a = some (.inr (1, n))) (K : ∀ X1, zq_V G Y lv enc kc kn (pc + 1) lo st sh z X1 (f X1)) : zq_V G Y lv enc kc kn pc lo (.int v :: .int i :: .ref (zq_ad G a) :: st) sh z X (zq_ck i n (zq_b (zq_u1 X a (zq_ix i) (vp_nar .boolean v)) f)) := by
  intro r hr p e s m args below meth c A H locs ls C hz hS hA hP hl
  obtain ⟨hi, hr⟩ := zq_ck_some hr
  refine W.zast C.1 C.2.1 (hP a _ ha) ((C.2.2.2.2.2.2.2.2.1.2 1 _ rfl).1 n (fun j => .int (X.1 a j))) (fun q => by cases q) (by show ¬ (i < 0 ∨ (arrV _ _ _).slots.size ≤ _); rw [arrV_size]; exact hi) rfl rfl hd fun H1 e1 e2 e3 => ?_
  refine zq_arW hr ha C hz hS hA hP hl (K (zq_u1 X a (zq_ix i) (vp_nar .boolean v))) (fun d hd' => zq_u1_ne hd') ?_ e2 e3
  rw [e1]
  show some ((arrV (zq_aC G 1) n (fun j => .int (X.1 a j))).setSlot _ _) = some (arrV (zq_aC G 1) n (fun j => .int (zq_up X.1 a (zq_ix i) (vp_nar .boolean v) a j)))
  rw [arrV_store]
  congr 2
  funext q
  by_cases hq : q = i.toNatClampNeg
  · subst hq
    simp [updV, zq_up, zq_ix, vp_nar]
    try rfl
  · simp [updV, zq_up, zq_ix, hq]
theorem zr_last {a n : Nat} {i : Int32} {v : Int64} {f : zq_M → Option ρ} (hd : decode Y.2.1 pc = .ok (.lastore, 1)) (ha : sh a = some (.inr (2, n))) (K : ∀ X1, zq_V G Y lv enc kc kn (pc + 1) lo st sh z X1 (f X1)) : zq_V G Y lv enc kc kn pc lo (.long v :: .int i :: .ref (zq_ad G a) :: st) sh z X (zq_ck i n (zq_b (zq_u2 X a (zq_ix i) v) f)) := by
  intro r hr p e s m args below meth c A H locs ls C hz hS hA hP hl
  obtain ⟨hi, hr⟩ := zq_ck_some hr
  refine W.last C.1 C.2.1 (hP a _ ha) ((C.2.2.2.2.2.2.2.2.1.2 2 _ rfl).1 n (fun j => .long (X.2.1 a j))) (fun q => by cases q) (by show ¬ (i < 0 ∨ (arrV _ _ _).slots.size ≤ _); rw [arrV_size]; exact hi) rfl rfl hd fun H1 e1 e2 e3 => ?_
  refine zq_arW hr ha C hz hS hA hP hl (K (zq_u2 X a (zq_ix i) v)) (fun d hd' => zq_u2_ne hd') ?_ e2 e3
  rw [e1]
  show some ((arrV (zq_aC G 2) n (fun j => .long (X.2.1 a j))).setSlot _ _) = some (arrV (zq_aC G 2) n (fun j => .long (zq_up X.2.1 a (zq_ix i) v a j)))
  rw [arrV_store]
  congr 2
  funext q
  by_cases hq : q = i.toNatClampNeg
  · subst hq
    simp [updV, zq_up, zq_ix]
  · simp [updV, zq_up, zq_ix, hq]
theorem zr_alen {a n kd : Nat} {v : Int32} (hd : decode Y.2.1 pc = .ok (.arraylength, 1)) (ha : sh a = some (.inr (kd, n))) (hk : kd < 5) (hv : Int32.ofNat n = v) (K : zq_V G Y lv enc kc kn (pc + 1) lo (.int v :: st) sh z X o) : zq_V G Y lv enc kc kn pc lo (.ref (zq_ad G a) :: st) sh z X o := by
  intro r hr p e s m args below meth c A H locs ls C hz hS hA hP hl
  obtain ⟨ty, hty⟩ : ∃ ty, (zq_ty G)[kd]? = some (zq_aC G kd, ty) := by
    match kd, hk with
    | 0, _ => exact ⟨_, rfl⟩
    | 1, _ => exact ⟨_, rfl⟩
    | 2, _ => exact ⟨_, rfl⟩
    | 3, _ => exact ⟨_, rfl⟩
    | 4, _ => exact ⟨_, rfl⟩
  refine va_alen C.1 C.2.1 C.2.2.2.2.2.2.2.2.1 (zq_one hP ha) 0 kd (cA := zq_aC G kd) (x := zq_ar G (X.1 a) (X.2.1 a) (X.2.2 a) kd n) rfl hty ?_ hd (K r hr p e s m args below meth c A H locs ls C hz hS hA hP hl)
  rw [← hv]
  unfold zq_ar
  split <;> rfl
theorem zr_nm {v : Int32} {f : Int32 → Option ρ} (K : ∀ x, zq_V G Y lv enc kc kn pc lo (.int x :: st) sh z X (f x)) : zq_V G Y lv enc kc kn pc lo (.int v :: st) sh z X (zq_b v f) := K v
theorem zr_nml {v : Int64} {f : Int64 → Option ρ} (K : ∀ x, zq_V G Y lv enc kc kn pc lo (.long x :: st) sh z X (f x)) : zq_V G Y lv enc kc kn pc lo (.long v :: st) sh z X (zq_b v f) := K v
theorem zr_lo {l2 : List (Nat × Value)} (ks : List Nat) (h : lv_pick lo ks = l2) (K : zq_V G Y lv enc kc kn pc l2 st sh z X o) : zq_V G Y lv enc kc kn pc lo st sh z X o := by
  intro r hr p e s m args below meth c A H locs ls C hz hS hA hP hl
  exact K r hr p e s m args below meth c A H locs ls C hz hS hA hP (lv_sub hl ks h)
theorem zq_end {p : Program} {e : Env} {s : State} {m : MethodId} {args : Array Value} {below : List Frame} {meth : Method} {c : Code} {A : Nat → Prop} {H : Heap} {locs : List Loc} {g : JFrame} {w : Option Value × zq_W} {mc ms : Nat} (h1 : kc ≤ mc) (h2 : kn ≤ ms) (K : W p G.1 e (zq_R lv) s m args below meth c H locs mc ms (MQ below (zq_Q G A w) args s mc ms A) g) : W p G.1 e (zq_R lv) s m args below meth c H locs kc kn (MQ below (zq_Q G A w) args s mc ms A) g := W.widen h1 h2 K
theorem zr_ireturn {v : Int32} {q : ρ} (hd : decode Y.2.1 pc = .ok (.ireturn, 1)) (hy : Y.2.2.2 = some .int) (he : enc q = (some (.int v), sh, z, X)) (h1 : kc ≤ lv.2.1) (h2 : kn ≤ lv.2.2) : zq_V G Y lv enc kc kn pc lo [.int v] sh z X (some q) := by
  intro r hr p e s m args below meth c A H locs ls C hz hS hA hP hl
  cases hr
  refine zq_end h1 h2 (W.iret C.1 C.2.1 (C.2.2.1.trans hy) (fun t ht hW => ?_) hS.2.2 hd C.2.2.2.2.2.2.1)
  rw [he]
  exact ⟨rfl, by rw [ht]; exact hz, by rw [ht]; exact hP, hA, hS.F ht⟩
theorem zr_zreturn {v : Int32} {q : ρ} {ty : FieldType} (hd : decode Y.2.1 pc = .ok (.ireturn, 1)) (hy : Y.2.2.2 = some ty) (hn : narrow ty (.int v) = .int v) (he : enc q = (some (.int v), sh, z, X)) (h1 : kc ≤ lv.2.1) (h2 : kn ≤ lv.2.2) : zq_V G Y lv enc kc kn pc lo [.int v] sh z X (some q) := by
  intro r hr p e s m args below meth c A H locs ls C hz hS hA hP hl
  cases hr
  refine zq_end h1 h2 (W.zret C.1 C.2.1 (C.2.2.1.trans hy) hn (fun t ht hW => ?_) hS.2.2 hd C.2.2.2.2.2.2.1)
  rw [he]
  exact ⟨rfl, by rw [ht]; exact hz, by rw [ht]; exact hP, hA, hS.F ht⟩
theorem zr_zreturnG {v : Int32} {q : ρ} (hd : decode Y.2.1 pc = .ok (.ireturn, 1)) (hy : Y.2.2.2 = some .boolean) (he : enc q = (some (.int v), sh, z, X)) (h1 : kc ≤ lv.2.1) (h2 : kn ≤ lv.2.2) : zq_V G Y lv enc kc kn pc lo [.int v] sh z X (zq_gz v (some q)) := by
  intro r hr
  unfold zq_gz at hr
  by_cases hv : v = 0 ∨ v = 1
  · rw [if_pos hv] at hr
    have hn : narrow .boolean (.int v) = .int v := by rcases hv with h | h <;> (subst h; rfl)
    exact zr_zreturn (q := q) hd hy hn he h1 h2 r hr
  · rw [if_neg hv] at hr
    cases hr
theorem zr_lreturn {v : Int64} {q : ρ} (hd : decode Y.2.1 pc = .ok (.lreturn, 1)) (hy : Y.2.2.2 = some .long) (he : enc q = (some (.long v), sh, z, X)) (h1 : kc ≤ lv.2.1) (h2 : kn ≤ lv.2.2) : zq_V G Y lv enc kc kn pc lo [.long v] sh z X (some q) := by
  intro r hr p e s m args below meth c A H locs ls C hz hS hA hP hl
  cases hr
  refine zq_end h1 h2 (W.lret C.1 C.2.1 (C.2.2.1.trans hy) (fun t ht hW => ?_) hS.2.2 hd C.2.2.2.2.2.2.1)
  rw [he]
  exact ⟨rfl, by rw [ht]; exact hz, by rw [ht]; exact hP, hA, hS.F ht⟩
theorem zr_vreturn {q : ρ} (hd : decode Y.2.1 pc = .ok (.return_, 1)) (hy : Y.2.2.2 = none) (he : enc q = (none, sh, z, X)) (h1 : kc ≤ lv.2.1) (h2 : kn ≤ lv.2.2) : zq_V G Y lv enc kc kn pc lo [] sh z X (some q) := by
  intro r hr p e s m args below meth c A H locs ls C hz hS hA hP hl
  cases hr
  refine zq_end h1 h2 (W.vret C.1 C.2.1 (C.2.2.1.trans hy) (fun t ht hW => ?_) hS.2.2 hd C.2.2.2.2.2.2.1)
  rw [he]
  exact ⟨rfl, by rw [ht]; exact hz, by rw [ht]; exact hP, hA, hS.F ht⟩
theorem zr_areturn {j : Nat} {q : ρ} {C0 : String} (hd : decode Y.2.1 pc = .ok (.areturn, 1)) (hy : Y.2.2.2 = some (.object C0)) (he : enc q = (some (.ref (zq_ad G j)), sh, z, X)) (h1 : kc ≤ lv.2.1) (h2 : kn ≤ lv.2.2) : zq_V G Y lv enc kc kn pc lo [.ref (zq_ad G j)] sh z X (some q) := by
  intro r hr p e s m args below meth c A H locs ls C hz hS hA hP hl
  cases hr
  refine zq_end h1 h2 (W.aret C.1 C.2.1 (C.2.2.1.trans hy) (Or.inl ⟨_, rfl⟩) (Or.inr ⟨_, rfl⟩) (fun t ht hW => ?_) hS.2.2 hd C.2.2.2.2.2.2.1)
  rw [he]
  exact ⟨rfl, by rw [ht]; exact hz, by rw [ht]; exact hP, hA, hS.F ht⟩
end
end
section

def zq_A (G : zq_G) (sh : zq_H) (z : Nat) : Nat → Prop := fun q => (∃ (c : Nat) (s : zq_S), sh c = some s ∧ q = zq_ad G c) ∨ z ≤ q
def zq_B (G : zq_G) (sh : zq_H) (z : Nat) (X : zq_M) (U : State) : Prop := U.heap.size = z ∧ zq_P G sh X U.heap ∧ va_K G.2.1 vwCl (zq_ty G) U ∧ zq_E G (zq_A G sh z) U U.heap
def zq_ws (Y : zq_Y) : List Cond := Cond.code Y.1 Y.2.1 Y.2.2.1 Y.2.2.2 :: zq_T
theorem zq_good {ws : List Cond} (h : ∀ w ∈ ws, w ∈ zq_T) : GoodIn zq_T ws := fun w hw => ⟨h w hw, good_of_word (List.mem_filter.mp (h w hw)).2⟩
theorem zq_blind {G : zq_G} {sh : zq_H} {z : Nat} {X : zq_M} {args : List Value} : FrameBlind (va_Pc args (zq_B G sh z X)) := by
  intro a U g mk h
  obtain ⟨h0, h1, h2, h3, h4⟩ := h
  exact ⟨h0, h1, h2, va_K.moved (u := U) (U := U.calling g mk a) (Vm.Alike.refl U.vm) h3, zq_E.same (s := U) (U := U.calling g mk a) rfl h4⟩
theorem zq_met {ρ : Type} {G : zq_G} {Y : zq_Y} {lv : zq_L} {enc : ρ → Option Value × zq_W} {sh : zq_H} {z : Nat} {X : zq_M} {o : Option ρ} {args : List Value} {r : ρ} (hV : zq_V G Y lv enc 0 0 0 (lv_args 0 args) [] sh z X o) (hr : o = some r) (hp : plainName Y.1.cls = true) (hlen : (lg_sl args).length ≤ Y.2.2.1) :
    Met G.1 Y.1 (zq_ws Y) (zq_R lv) (va_Pc args (zq_B G sh z X)) (zq_Q G (zq_A G sh z) (enc r)) lv.2.1 lv.2.2 (zq_A G sh z) := by
  refine Met.ofW (cc := Y.2.1) (maxL := Y.2.2.1) (ret := Y.2.2.2) hp rfl ?_
  intro p e s m args' below meth c s₁ B hml hv
  obtain ⟨rfl, hz, hP, hK, hE⟩ := hv
  have hts := atoms_spec (ws := zq_ws Y) B.pre
  have hl := lv_entry args hlen
  rw [lg_entry_eq]
  exact hV r hr p e s m args.toArray below meth c (zq_A G sh z) s.heap [] _ ⟨B.exec, B.bytes, B.returns, hml, findClass_of_methodNamed B.named, fun w hw => hts w (List.mem_cons_of_mem _ hw), B.notSynchronized, (name_of_methodNamed B.named B.method).1, hK, hE, fun q hq => Or.inr (by rw [← hz]; exact hq)⟩ hz va_S.rf (fun c s hc => Or.inl ⟨c, s, hc, rfl⟩) hP hl
def zq_cd (Y : zq_Y) (n : Nat) : Prop := Cond.code Y.1 Y.2.1 Y.2.2.1 Y.2.2.2 ∈ zq_T ∧ Cond.initialized Y.1.cls ∈ zq_T ∧ (Y.1.cls ≠ "java/lang/invoke/MethodHandle" ∧ Y.1.cls ≠ "java/lang/invoke/VarHandle" ∧ (parseMethodDescriptor Y.1.desc).map (fun d => d.parameters.length) = some n) ∧ plainName Y.1.cls = true ∧ Y.2.2.1 ≤ 40
section
variable {ρ ρ1 : Type} {G : zq_G} {Y Y1 : zq_Y} {lv lv1 : zq_L} {enc : ρ → Option Value × zq_W} {enc1 : ρ1 → Option Value × zq_W} {kc kn pc : Nat} {lo : List (Nat × Value)} {st : List Value} {sh : zq_H} {z : Nat} {X : zq_M} {o1 : Option ρ1} {f : ρ1 → Option ρ}
theorem zq_after {rest : List Value} {r1 : ρ1} {p : Program} {e : Env} {s : State} {m : MethodId} {args a : Array Value} {below : List Frame} {meth : Method} {c : Code} {A : Nat → Prop} {H : Heap} {locs : List Loc} {ls : Array Slot} {r : ρ} {o : Option ρ} (hr : o = some r) (C : zq_C G Y p s m args meth c A) (hz : H.size = z) (hS : va_S A s.heap H locs) (hA : ∀ c s, sh c = some s → A (zq_ad G c)) (hl : lv_has ls Y.2.2.1 lo)
    (hrun : va_Run p G.1 e (zq_R lv) s m args below meth c H locs kc kn lv1.2.1 lv1.2.2 (F0 m pc ls st) rest (zq_Q G (zq_A G sh z) (enc1 r1) a) (zq_A G sh z))
    (K : zq_V G Y lv enc (kc + lv1.2.1) (kn + lv1.2.2) (pc + 3) lo ((enc1 r1).1.toList ++ rest) (enc1 r1).2.1 (enc1 r1).2.2.1 (enc1 r1).2.2.2 o) : W p G.1 e (zq_R lv) s m args below meth c H locs kc kn (MQ below (zq_Q G A (enc r)) args s lv.2.1 lv.2.2 A) (F0 m pc ls st) := by
  have hAA : ∀ q, zq_A G sh z q → A q := by
    intro q hq
    rcases hq with ⟨c, s, hc, rfl⟩ | hq
    · exact hA c s hc
    · exact C.2.2.2.2.2.2.2.2.2.2 q (Nat.le_trans hS.1 (by rw [hz]; exact hq))
  intro T hT X0
  obtain ⟨v, st₀, t, T', L, h0, X', hL, e1, e2, ⟨hv, hsz, hP1, hA1, hF1, hF2⟩, stp⟩ := hrun T hT X0
  cases hv
  rw [h0] at hF1 hF2
  obtain ⟨t2, a1, b1⟩ := K r hr p e s m args below meth c A T'.heap (locs ++ L) ls C (by rw [e1]; exact hsz) ⟨Nat.le_trans hS.1 (by rw [e1]; exact hF1), fun q h1 h2 => by rw [e1, hF2 q (Nat.lt_of_lt_of_le h1 hS.1) (fun y => h2 (hAA q y))]; exact hS.2.1 q h1 h2, fun q hq => by
      rcases List.mem_append.mp hq with h | h
      · exact hS.2.2 q h
      · exact hAA _ (hL q h)⟩ (fun c s hc => hAA _ (hA1 c s hc)) (by rw [e1]; exact hP1) hl T' rfl X'
  exact ⟨t2, stp t2 a1, b1⟩
theorem zq_preS {args : List Value} {p : Program} {s : State} {m : MethodId} {a : Array Value} {meth : Method} {c : Code} {A : Nat → Prop} {H : Heap} {locs : List Loc} (C : zq_C G Y p s m a meth c A) (hz : H.size = z) (hS : va_S A s.heap H locs) (hA : ∀ c s, sh c = some s → A (zq_ad G c)) (hP : zq_P G sh X H) : ∀ U : State, U.heap = H → s.WarmedH U.vm → va_Pc args (zq_B G sh z X) args.toArray U := by
  intro U hU hW
  refine ⟨rfl, by rw [hU]; exact hz, by rw [hU]; exact hP, va_K.moved hW.alike C.2.2.2.2.2.2.2.2.1, ?_⟩
  rw [hU]
  refine zq_E.go hW (fun q h1 h2 => hS.2.1 q h1 h2) (fun q hq => ?_) C.2.2.2.2.2.2.2.2.2.1
  rcases hq with ⟨c, s, hc, rfl⟩ | hq
  · exact hA c s hc
  · exact C.2.2.2.2.2.2.2.2.2.2 q (Nat.le_trans hS.1 (by rw [hz]; exact hq))
theorem zq_rm {lv lv1 : zq_L} {mL : Nat} (h : lv1.1 + 1 ≤ lv.1) (hm : mL ≤ 40) : (zq_R lv1).frames + 1 ≤ (zq_R lv).frames ∧ 8 + (mL + 11) + (zq_R lv1).locals ≤ (zq_R lv).locals := by
  refine ⟨h, ?_⟩
  show 8 + (mL + 11) + 60 * lv1.1 ≤ 60 * lv.1
  omega
theorem zr_callV {c ci n idx : Nat} {q : vw_C} {ks : List Nat} {As rest : List Value} (hd : decode Y.2.1 pc = .ok (.invokevirtual idx, 3)) (hV : zq_V G Y1 lv1 enc1 0 0 0 (lv_args 0 (.ref (zq_ad G c) :: As)) [] sh z X o1) (hcd : zq_cd Y1 n) (hin : Cond.instanceMethod Y1.1 ∈ zq_T) (hse : Cond.selects Y1.1.cls Y1.1 Y1.1 ∈ zq_T) (hlk : Cond.methodLink Y.1.cls idx Y1.1 ∈ zq_T) (hs : sh c = some (.inl (ci, ks))) (hci : vwCl[ci]? = some q) (hq : q.1 = Y1.1.cls) (hn : As.length = n) (hst : st = As.reverse ++ .ref (zq_ad G c) :: rest) (hcat : (rest.map fun v => v.category).sum ≤ 8) (hlen : (lg_sl (.ref (zq_ad G c) :: As)).length ≤ Y1.2.2.1) (hlv : lv1.1 + 1 ≤ lv.1) (hf : kc + lv1.2.1 ≤ lv.2.1 ∧ kn + lv1.2.2 ≤ lv.2.2)
    (K : ∀ r1, o1 = some r1 → zq_V G Y lv enc (kc + lv1.2.1) (kn + lv1.2.2) (pc + 3) lo ((enc1 r1).1.toList ++ rest) (enc1 r1).2.1 (enc1 r1).2.2.1 (enc1 r1).2.2.2 (f r1)) : zq_V G Y lv enc kc kn pc lo st sh z X (o1.bind f) := by
  intro r hr p e s m args below meth c' A H locs ls C hz hS hA hP hl
  cases ho : o1 with
  | none => rw [ho] at hr; cases hr
  | some r1 =>
    rw [ho] at hr
    obtain ⟨k1, k2, k3, k4, k5⟩ := hcd
    have hG : GoodIn zq_T (wsV Y.1.cls idx Y1.1.cls Y1.1 (zq_ws Y1)) := by
      refine zq_good (fun w hw => ?_)
      rcases List.mem_append.mp hw with h | h
      · simp only [List.mem_cons, List.not_mem_nil, or_false] at h
        rcases h with rfl | rfl | rfl | rfl <;> assumption
      · rcases List.mem_cons.mp h with rfl | h
        · exact k1
        · exact h
    refine zq_after hr C hz hS hA hl (va_runV (As := As) (rest := rest) ⟨C.1, C.2.1, C.2.2.2.1, C.2.2.2.2.1, C.2.2.2.2.2.1⟩ (zq_met hV ho k4 hlen) (cwV n C.2.2.2.2.2.1 hG rfl rfl rfl ⟨rfl, k3⟩ (zq_rm hlv k5)) ⟨zq_blind, ?_, zq_preS C hz hS hA hP⟩ rfl hn hl.1 hst (lv_room hcat) hd hf) (K r1 ho)
    obtain ⟨cell, g1, g2, g3⟩ := va_recv C.2.2.2.2.2.2.2.2.1 (zq_one hP hs) hci (q0 := 0) rfl
    exact ⟨cell, g1, g2, by rw [← hq]; exact g3⟩
theorem zr_callS {n idx : Nat} {As rest : List Value} (hd : decode Y.2.1 pc = .ok (.invokestatic idx, 3)) (hV : zq_V G Y1 lv1 enc1 0 0 0 (lv_args 0 As) [] sh z X o1) (hcd : zq_cd Y1 n) (hin : Cond.static Y1.1 ∈ zq_T) (hlk : Cond.methodLink Y.1.cls idx Y1.1 ∈ zq_T) (hn : As.length = n) (hst : st = As.reverse ++ rest) (hcat : (rest.map fun v => v.category).sum ≤ 8) (hlen : (lg_sl As).length ≤ Y1.2.2.1) (hlv : lv1.1 + 1 ≤ lv.1) (hf : kc + lv1.2.1 ≤ lv.2.1 ∧ kn + lv1.2.2 ≤ lv.2.2)
    (K : ∀ r1, o1 = some r1 → zq_V G Y lv enc (kc + lv1.2.1) (kn + lv1.2.2) (pc + 3) lo ((enc1 r1).1.toList ++ rest) (enc1 r1).2.1 (enc1 r1).2.2.1 (enc1 r1).2.2.2 (f r1)) : zq_V G Y lv enc kc kn pc lo st sh z X (o1.bind f) := by
  intro r hr p e s m args below meth c' A H locs ls C hz hS hA hP hl
  cases ho : o1 with
  | none => rw [ho] at hr; cases hr
  | some r1 =>
    rw [ho] at hr
    obtain ⟨k1, k2, k3, k4, k5⟩ := hcd
    have hG : GoodIn zq_T (va_wsS Y.1.cls idx Y1.1 (zq_ws Y1)) := by
      refine zq_good (fun w hw => ?_)
      rcases List.mem_append.mp hw with h | h
      · simp only [List.mem_cons, List.not_mem_nil, or_false] at h
        rcases h with rfl | rfl | rfl <;> assumption
      · rcases List.mem_cons.mp h with rfl | h
        · exact k1
        · exact h
    exact zq_after hr C hz hS hA hl (va_runS (As := As) (rest := rest) ⟨C.1, C.2.1, C.2.2.2.1, C.2.2.2.2.1, C.2.2.2.2.2.1⟩ (zq_met hV ho k4 hlen) (va_cwS n C.2.2.2.2.2.1 hG rfl rfl rfl k3 (zq_rm hlv k5)) ⟨zq_blind, zq_preS C hz hS hA hP⟩ rfl hn hl.1 hst (lv_room hcat) hd hf) (K r1 ho)
theorem zr_callI {c n idx : Nat} {As rest : List Value} (hd : decode Y.2.1 pc = .ok (.invokespecial idx, 3)) (hV : zq_V G Y1 lv1 enc1 0 0 0 (lv_args 0 (.ref (zq_ad G c) :: As)) [] sh z X o1) (hcd : zq_cd Y1 n) (hin : Cond.instanceMethod Y1.1 ∈ zq_T) (hi : Y1.1.name = "<init>") (hre : Y1.2.2.2 = none) (hlk : Cond.methodLink Y.1.cls idx Y1.1 ∈ zq_T) (hn : As.length = n) (hst : st = As.reverse ++ .ref (zq_ad G c) :: rest) (hcat : (rest.map fun v => v.category).sum ≤ 8) (hlen : (lg_sl (.ref (zq_ad G c) :: As)).length ≤ Y1.2.2.1) (hlv : lv1.1 + 1 ≤ lv.1) (hf : kc + lv1.2.1 ≤ lv.2.1 ∧ kn + lv1.2.2 ≤ lv.2.2)
    (K : ∀ r1, o1 = some r1 → zq_V G Y lv enc (kc + lv1.2.1) (kn + lv1.2.2) (pc + 3) lo ((enc1 r1).1.toList ++ rest) (enc1 r1).2.1 (enc1 r1).2.2.1 (enc1 r1).2.2.2 (f r1)) : zq_V G Y lv enc kc kn pc lo st sh z X (o1.bind f) := by
  intro r hr p e s m args below meth c' A H locs ls C hz hS hA hP hl
  cases ho : o1 with
  | none => rw [ho] at hr; cases hr
  | some r1 =>
    rw [ho] at hr
    obtain ⟨k1, k2, k3, k4, k5⟩ := hcd
    have hG : GoodIn zq_T (zq_ws Y1) := zq_good (fun w hw => by
      rcases List.mem_cons.mp hw with rfl | h
      · exact k1
      · exact h)
    exact zq_after hr C hz hS hA hl (va_runI (As := As) (rest := rest) ⟨C.1, C.2.1, C.2.2.2.1, C.2.2.2.2.1, C.2.2.2.2.2.1⟩ (zq_met hV ho k4 hlen) (cwI n C.2.2.2.2.2.1 hG (by unfold zq_ws; rw [hre]) rfl rfl (C.2.2.2.2.2.1 _ k2) (C.2.2.2.2.2.1 _ hlk) (C.2.2.2.2.2.1 _ hin) hi k3 (zq_rm hlv k5)) ⟨zq_blind, zq_preS C hz hS hA hP⟩ rfl hn hl.1 hst (lv_room hcat) hd hf) (K r1 ho)
theorem zr_callSN {n idx : Nat} {host : String} {As rest : List Value} (hd : decode Y.2.1 pc = .ok (.invokestatic idx, 3)) (hV : zq_V G Y1 lv1 enc1 0 0 0 (lv_args 0 As) [] sh z X o1) (hcd : zq_cd Y1 n) (hin : Cond.static Y1.1 ∈ zq_T) (hlk : (Y.1.cls, idx, Y1.1, host) ∈ zq_nM) (hn : As.length = n) (hst : st = As.reverse ++ rest) (hcat : (rest.map fun v => v.category).sum ≤ 8) (hlen : (lg_sl As).length ≤ Y1.2.2.1) (hlv : lv1.1 + 1 ≤ lv.1) (hf : kc + lv1.2.1 ≤ lv.2.1 ∧ kn + lv1.2.2 ≤ lv.2.2)
    (K : ∀ r1, o1 = some r1 → zq_V G Y lv enc (kc + lv1.2.1) (kn + lv1.2.2) (pc + 3) lo ((enc1 r1).1.toList ++ rest) (enc1 r1).2.1 (enc1 r1).2.2.1 (enc1 r1).2.2.2 (f r1)) : zq_V G Y lv enc kc kn pc lo st sh z X (o1.bind f) := by
  intro r hr p e s m args below meth c' A H locs ls C hz hS hA hP hl
  cases ho : o1 with
  | none => rw [ho] at hr; cases hr
  | some r1 =>
    rw [ho] at hr
    obtain ⟨k1, k2, k3, k4, k5⟩ := hcd
    have hG : GoodIn zq_T (zq_ws Y1) := zq_good (fun w hw => by
      rcases List.mem_cons.mp hw with rfl | h
      · exact k1
      · exact h)
    exact zq_after hr C hz hS hA hl (va_runSN (host := host) (As := As) (rest := rest) ⟨C.1, C.2.1, C.2.2.2.1, C.2.2.2.2.1, C.2.2.2.2.2.1⟩ (zq_met hV ho k4 hlen) ⟨va_cnB n C.2.2.2.2.2.1 hG rfl rfl rfl (C.2.2.2.2.2.2.2.2.2.1.1 _ hlk) (C.2.2.2.2.2.1 _ k2) k3 (zq_rm hlv k5), C.2.2.2.2.2.1 _ hin, trivial⟩ ⟨zq_blind, zq_preS C hz hS hA hP⟩ rfl hn hl.1 hst (lv_room hcat) hd hf) (K r1 ho)
theorem zr_callIN {c n idx : Nat} {host : String} {As rest : List Value} (hd : decode Y.2.1 pc = .ok (.invokespecial idx, 3)) (hV : zq_V G Y1 lv1 enc1 0 0 0 (lv_args 0 (.ref (zq_ad G c) :: As)) [] sh z X o1) (hcd : zq_cd Y1 n) (hin : Cond.instanceMethod Y1.1 ∈ zq_T) (hi : Y1.1.name = "<init>") (hre : Y1.2.2.2 = none) (hlk : (Y.1.cls, idx, Y1.1, host) ∈ zq_nM) (hn : As.length = n) (hst : st = As.reverse ++ .ref (zq_ad G c) :: rest) (hcat : (rest.map fun v => v.category).sum ≤ 8) (hlen : (lg_sl (.ref (zq_ad G c) :: As)).length ≤ Y1.2.2.1) (hlv : lv1.1 + 1 ≤ lv.1) (hf : kc + lv1.2.1 ≤ lv.2.1 ∧ kn + lv1.2.2 ≤ lv.2.2)
    (K : ∀ r1, o1 = some r1 → zq_V G Y lv enc (kc + lv1.2.1) (kn + lv1.2.2) (pc + 3) lo ((enc1 r1).1.toList ++ rest) (enc1 r1).2.1 (enc1 r1).2.2.1 (enc1 r1).2.2.2 (f r1)) : zq_V G Y lv enc kc kn pc lo st sh z X (o1.bind f) := by
  intro r hr p e s m args below meth c' A H locs ls C hz hS hA hP hl
  cases ho : o1 with
  | none => rw [ho] at hr; cases hr
  | some r1 =>
    rw [ho] at hr
    obtain ⟨k1, k2, k3, k4, k5⟩ := hcd
    have hG : GoodIn zq_T (zq_ws Y1) := zq_good (fun w hw => by
      rcases List.mem_cons.mp hw with rfl | h
      · exact k1
      · exact h)
    exact zq_after hr C hz hS hA hl (va_runIN (host := host) (As := As) (rest := rest) ⟨C.1, C.2.1, C.2.2.2.1, C.2.2.2.2.1, C.2.2.2.2.2.1⟩ (zq_met hV ho k4 hlen) ⟨va_cnB n C.2.2.2.2.2.1 hG (by unfold zq_ws; rw [hre]) rfl rfl (C.2.2.2.2.2.2.2.2.2.1.1 _ hlk) (C.2.2.2.2.2.1 _ k2) k3 (zq_rm hlv k5), hi, C.2.2.2.2.2.1 _ hin⟩ ⟨zq_blind, zq_preS C hz hS hA hP⟩ rfl hn hl.1 hst (lv_room hcat) hd hf) (K r1 ho)
end
section
variable {ρ : Type} {G : zq_G} {Y Y1 : zq_Y} {lv : zq_L} {l1 : Nat} {enc : ρ → Option Value × zq_W} {kc kn pc : Nat} {lo : List (Nat × Value)} {st : List Value} {sh : zq_H} {z : Nat} {X : zq_M}
theorem zr_Vi {o1 : Option (Int32)} {f : (Int32) → Option ρ} {c ci n idx : Nat} {q : vw_C} {ks : List Nat} {rest : List Value} (As : List Value) (hd : decode Y.2.1 pc = .ok (.invokevirtual idx, 3)) (hV : zq_V G Y1 (l1, 0, 0) (zq_ei sh z X) 0 0 0 (lv_args 0 (.ref (zq_ad G c) :: As)) [] sh z X o1) (hcd : zq_cd Y1 n ∧ Cond.instanceMethod Y1.1 ∈ zq_T ∧ Cond.selects Y1.1.cls Y1.1 Y1.1 ∈ zq_T) (hlk : Cond.methodLink Y.1.cls idx Y1.1 ∈ zq_T) (hs : sh c = some (.inl (ci, ks))) (hci : vwCl[ci]? = some q) (hq : q.1 = Y1.1.cls) (hn : As.length = n) (hst : st = As.reverse ++ .ref (zq_ad G c) :: rest) (hcat : (rest.map fun v => v.category).sum ≤ 8) (hlen : (lg_sl (.ref (zq_ad G c) :: As)).length ≤ Y1.2.2.1) (hlv : l1 + 1 ≤ lv.1) (hf : kc ≤ lv.2.1 ∧ kn ≤ lv.2.2) (K : ∀ r1, zq_V G Y lv enc kc kn (pc + 3) lo (.int r1 :: rest) sh z X (f r1)) : zq_V G Y lv enc kc kn pc lo st sh z X (o1.bind f) := zr_callV (enc1 := zq_ei sh z X) hd hV hcd.1 hcd.2.1 hcd.2.2 hlk hs hci hq hn hst hcat hlen hlv hf (fun r1 _ => K r1)
theorem zr_Si {o1 : Option (Int32)} {f : (Int32) → Option ρ} {n idx : Nat} {rest : List Value} (As : List Value) (hd : decode Y.2.1 pc = .ok (.invokestatic idx, 3)) (hV : zq_V G Y1 (l1, 0, 0) (zq_ei sh z X) 0 0 0 (lv_args 0 As) [] sh z X o1) (hcd : zq_cd Y1 n ∧ Cond.static Y1.1 ∈ zq_T) (hlk : Cond.methodLink Y.1.cls idx Y1.1 ∈ zq_T) (hn : As.length = n) (hst : st = As.reverse ++ rest) (hcat : (rest.map fun v => v.category).sum ≤ 8) (hlen : (lg_sl As).length ≤ Y1.2.2.1) (hlv : l1 + 1 ≤ lv.1) (hf : kc ≤ lv.2.1 ∧ kn ≤ lv.2.2) (K : ∀ r1, zq_V G Y lv enc kc kn (pc + 3) lo (.int r1 :: rest) sh z X (f r1)) : zq_V G Y lv enc kc kn pc lo st sh z X (o1.bind f) := zr_callS (enc1 := zq_ei sh z X) hd hV hcd.1 hcd.2 hlk hn hst hcat hlen hlv hf (fun r1 _ => K r1)
theorem zr_Ni {o1 : Option (Int32)} {f : (Int32) → Option ρ} {n idx : Nat} {rest : List Value} (host : String) (As : List Value) (hd : decode Y.2.1 pc = .ok (.invokestatic idx, 3)) (hV : zq_V G Y1 (l1, 0, 0) (zq_ei sh z X) 0 0 0 (lv_args 0 As) [] sh z X o1) (hcd : zq_cd Y1 n ∧ Cond.static Y1.1 ∈ zq_T) (hlk : (Y.1.cls, idx, Y1.1, host) ∈ zq_nM) (hn : As.length = n) (hst : st = As.reverse ++ rest) (hcat : (rest.map fun v => v.category).sum ≤ 8) (hlen : (lg_sl As).length ≤ Y1.2.2.1) (hlv : l1 + 1 ≤ lv.1) (hf : kc ≤ lv.2.1 ∧ kn ≤ lv.2.2) (K : ∀ r1, zq_V G Y lv enc kc kn (pc + 3) lo (.int r1 :: rest) sh z X (f r1)) : zq_V G Y lv enc kc kn pc lo st sh z X (o1.bind f) := zr_callSN (enc1 := zq_ei sh z X) hd hV hcd.1 hcd.2 hlk hn hst hcat hlen hlv hf (fun r1 _ => K r1)
theorem zr_Vsi {o1 : Option (Int32 × zq_M)} {f : (Int32 × zq_M) → Option ρ} {c ci n idx : Nat} {q : vw_C} {ks : List Nat} {rest : List Value} (As : List Value) (hd : decode Y.2.1 pc = .ok (.invokevirtual idx, 3)) (hV : zq_V G Y1 (l1, 0, 0) (zq_si sh z) 0 0 0 (lv_args 0 (.ref (zq_ad G c) :: As)) [] sh z X o1) (hcd : zq_cd Y1 n ∧ Cond.instanceMethod Y1.1 ∈ zq_T ∧ Cond.selects Y1.1.cls Y1.1 Y1.1 ∈ zq_T) (hlk : Cond.methodLink Y.1.cls idx Y1.1 ∈ zq_T) (hs : sh c = some (.inl (ci, ks))) (hci : vwCl[ci]? = some q) (hq : q.1 = Y1.1.cls) (hn : As.length = n) (hst : st = As.reverse ++ .ref (zq_ad G c) :: rest) (hcat : (rest.map fun v => v.category).sum ≤ 8) (hlen : (lg_sl (.ref (zq_ad G c) :: As)).length ≤ Y1.2.2.1) (hlv : l1 + 1 ≤ lv.1) (hf : kc ≤ lv.2.1 ∧ kn ≤ lv.2.2) (K : ∀ r1 X1, zq_V G Y lv enc kc kn (pc + 3) lo (.int r1 :: rest) sh z X1 (f (r1, X1))) : zq_V G Y lv enc kc kn pc lo st sh z X (o1.bind f) := zr_callV (enc1 := zq_si sh z) hd hV hcd.1 hcd.2.1 hcd.2.2 hlk hs hci hq hn hst hcat hlen hlv hf (fun r1 _ => K r1.1 r1.2)
theorem zr_Ssi {o1 : Option (Int32 × zq_M)} {f : (Int32 × zq_M) → Option ρ} {n idx : Nat} {rest : List Value} (As : List Value) (hd : decode Y.2.1 pc = .ok (.invokestatic idx, 3)) (hV : zq_V G Y1 (l1, 0, 0) (zq_si sh z) 0 0 0 (lv_args 0 As) [] sh z X o1) (hcd : zq_cd Y1 n ∧ Cond.static Y1.1 ∈ zq_T) (hlk : Cond.methodLink Y.1.cls idx Y1.1 ∈ zq_T) (hn : As.length = n) (hst : st = As.reverse ++ rest) (hcat : (rest.map fun v => v.category).sum ≤ 8) (hlen : (lg_sl As).length ≤ Y1.2.2.1) (hlv : l1 + 1 ≤ lv.1) (hf : kc ≤ lv.2.1 ∧ kn ≤ lv.2.2) (K : ∀ r1 X1, zq_V G Y lv enc kc kn (pc + 3) lo (.int r1 :: rest) sh z X1 (f (r1, X1))) : zq_V G Y lv enc kc kn pc lo st sh z X (o1.bind f) := zr_callS (enc1 := zq_si sh z) hd hV hcd.1 hcd.2 hlk hn hst hcat hlen hlv hf (fun r1 _ => K r1.1 r1.2)
theorem zr_Vl {o1 : Option (Int64)} {f : (Int64) → Option ρ} {c ci n idx : Nat} {q : vw_C} {ks : List Nat} {rest : List Value} (As : List Value) (hd : decode Y.2.1 pc = .ok (.invokevirtual idx, 3)) (hV : zq_V G Y1 (l1, 0, 0) (zq_el sh z X) 0 0 0 (lv_args 0 (.ref (zq_ad G c) :: As)) [] sh z X o1) (hcd : zq_cd Y1 n ∧ Cond.instanceMethod Y1.1 ∈ zq_T ∧ Cond.selects Y1.1.cls Y1.1 Y1.1 ∈ zq_T) (hlk : Cond.methodLink Y.1.cls idx Y1.1 ∈ zq_T) (hs : sh c = some (.inl (ci, ks))) (hci : vwCl[ci]? = some q) (hq : q.1 = Y1.1.cls) (hn : As.length = n) (hst : st = As.reverse ++ .ref (zq_ad G c) :: rest) (hcat : (rest.map fun v => v.category).sum ≤ 8) (hlen : (lg_sl (.ref (zq_ad G c) :: As)).length ≤ Y1.2.2.1) (hlv : l1 + 1 ≤ lv.1) (hf : kc ≤ lv.2.1 ∧ kn ≤ lv.2.2) (K : ∀ r1, zq_V G Y lv enc kc kn (pc + 3) lo (.long r1 :: rest) sh z X (f r1)) : zq_V G Y lv enc kc kn pc lo st sh z X (o1.bind f) := zr_callV (enc1 := zq_el sh z X) hd hV hcd.1 hcd.2.1 hcd.2.2 hlk hs hci hq hn hst hcat hlen hlv hf (fun r1 _ => K r1)
theorem zr_Sl {o1 : Option (Int64)} {f : (Int64) → Option ρ} {n idx : Nat} {rest : List Value} (As : List Value) (hd : decode Y.2.1 pc = .ok (.invokestatic idx, 3)) (hV : zq_V G Y1 (l1, 0, 0) (zq_el sh z X) 0 0 0 (lv_args 0 As) [] sh z X o1) (hcd : zq_cd Y1 n ∧ Cond.static Y1.1 ∈ zq_T) (hlk : Cond.methodLink Y.1.cls idx Y1.1 ∈ zq_T) (hn : As.length = n) (hst : st = As.reverse ++ rest) (hcat : (rest.map fun v => v.category).sum ≤ 8) (hlen : (lg_sl As).length ≤ Y1.2.2.1) (hlv : l1 + 1 ≤ lv.1) (hf : kc ≤ lv.2.1 ∧ kn ≤ lv.2.2) (K : ∀ r1, zq_V G Y lv enc kc kn (pc + 3) lo (.long r1 :: rest) sh z X (f r1)) : zq_V G Y lv enc kc kn pc lo st sh z X (o1.bind f) := zr_callS (enc1 := zq_el sh z X) hd hV hcd.1 hcd.2 hlk hn hst hcat hlen hlv hf (fun r1 _ => K r1)
theorem zr_Vsl {o1 : Option (Int64 × zq_M)} {f : (Int64 × zq_M) → Option ρ} {c ci n idx : Nat} {q : vw_C} {ks : List Nat} {rest : List Value} (As : List Value) (hd : decode Y.2.1 pc = .ok (.invokevirtual idx, 3)) (hV : zq_V G Y1 (l1, 0, 0) (zq_sl sh z) 0 0 0 (lv_args 0 (.ref (zq_ad G c) :: As)) [] sh z X o1) (hcd : zq_cd Y1 n ∧ Cond.instanceMethod Y1.1 ∈ zq_T ∧ Cond.selects Y1.1.cls Y1.1 Y1.1 ∈ zq_T) (hlk : Cond.methodLink Y.1.cls idx Y1.1 ∈ zq_T) (hs : sh c = some (.inl (ci, ks))) (hci : vwCl[ci]? = some q) (hq : q.1 = Y1.1.cls) (hn : As.length = n) (hst : st = As.reverse ++ .ref (zq_ad G c) :: rest) (hcat : (rest.map fun v => v.category).sum ≤ 8) (hlen : (lg_sl (.ref (zq_ad G c) :: As)).length ≤ Y1.2.2.1) (hlv : l1 + 1 ≤ lv.1) (hf : kc ≤ lv.2.1 ∧ kn ≤ lv.2.2) (K : ∀ r1 X1, zq_V G Y lv enc kc kn (pc + 3) lo (.long r1 :: rest) sh z X1 (f (r1, X1))) : zq_V G Y lv enc kc kn pc lo st sh z X (o1.bind f) := zr_callV (enc1 := zq_sl sh z) hd hV hcd.1 hcd.2.1 hcd.2.2 hlk hs hci hq hn hst hcat hlen hlv hf (fun r1 _ => K r1.1 r1.2)
theorem zr_Ssl {o1 : Option (Int64 × zq_M)} {f : (Int64 × zq_M) → Option ρ} {n idx : Nat} {rest : List Value} (As : List Value) (hd : decode Y.2.1 pc = .ok (.invokestatic idx, 3)) (hV : zq_V G Y1 (l1, 0, 0) (zq_sl sh z) 0 0 0 (lv_args 0 As) [] sh z X o1) (hcd : zq_cd Y1 n ∧ Cond.static Y1.1 ∈ zq_T) (hlk : Cond.methodLink Y.1.cls idx Y1.1 ∈ zq_T) (hn : As.length = n) (hst : st = As.reverse ++ rest) (hcat : (rest.map fun v => v.category).sum ≤ 8) (hlen : (lg_sl As).length ≤ Y1.2.2.1) (hlv : l1 + 1 ≤ lv.1) (hf : kc ≤ lv.2.1 ∧ kn ≤ lv.2.2) (K : ∀ r1 X1, zq_V G Y lv enc kc kn (pc + 3) lo (.long r1 :: rest) sh z X1 (f (r1, X1))) : zq_V G Y lv enc kc kn pc lo st sh z X (o1.bind f) := zr_callS (enc1 := zq_sl sh z) hd hV hcd.1 hcd.2 hlk hn hst hcat hlen hlv hf (fun r1 _ => K r1.1 r1.2)
theorem zr_Vv {o1 : Option (zq_M)} {f : (zq_M) → Option ρ} {c ci n idx : Nat} {q : vw_C} {ks : List Nat} {rest : List Value} (As : List Value) (hd : decode Y.2.1 pc = .ok (.invokevirtual idx, 3)) (hV : zq_V G Y1 (l1, 0, 0) (zq_sv sh z) 0 0 0 (lv_args 0 (.ref (zq_ad G c) :: As)) [] sh z X o1) (hcd : zq_cd Y1 n ∧ Cond.instanceMethod Y1.1 ∈ zq_T ∧ Cond.selects Y1.1.cls Y1.1 Y1.1 ∈ zq_T) (hlk : Cond.methodLink Y.1.cls idx Y1.1 ∈ zq_T) (hs : sh c = some (.inl (ci, ks))) (hci : vwCl[ci]? = some q) (hq : q.1 = Y1.1.cls) (hn : As.length = n) (hst : st = As.reverse ++ .ref (zq_ad G c) :: rest) (hcat : (rest.map fun v => v.category).sum ≤ 8) (hlen : (lg_sl (.ref (zq_ad G c) :: As)).length ≤ Y1.2.2.1) (hlv : l1 + 1 ≤ lv.1) (hf : kc ≤ lv.2.1 ∧ kn ≤ lv.2.2) (K : ∀ X1, zq_V G Y lv enc kc kn (pc + 3) lo rest sh z X1 (f X1)) : zq_V G Y lv enc kc kn pc lo st sh z X (o1.bind f) := zr_callV (enc1 := zq_sv sh z) hd hV hcd.1 hcd.2.1 hcd.2.2 hlk hs hci hq hn hst hcat hlen hlv hf (fun r1 _ => K r1)
theorem zr_Sv {o1 : Option (zq_M)} {f : (zq_M) → Option ρ} {n idx : Nat} {rest : List Value} (As : List Value) (hd : decode Y.2.1 pc = .ok (.invokestatic idx, 3)) (hV : zq_V G Y1 (l1, 0, 0) (zq_sv sh z) 0 0 0 (lv_args 0 As) [] sh z X o1) (hcd : zq_cd Y1 n ∧ Cond.static Y1.1 ∈ zq_T) (hlk : Cond.methodLink Y.1.cls idx Y1.1 ∈ zq_T) (hn : As.length = n) (hst : st = As.reverse ++ rest) (hcat : (rest.map fun v => v.category).sum ≤ 8) (hlen : (lg_sl As).length ≤ Y1.2.2.1) (hlv : l1 + 1 ≤ lv.1) (hf : kc ≤ lv.2.1 ∧ kn ≤ lv.2.2) (K : ∀ X1, zq_V G Y lv enc kc kn (pc + 3) lo rest sh z X1 (f X1)) : zq_V G Y lv enc kc kn pc lo st sh z X (o1.bind f) := zr_callS (enc1 := zq_sv sh z) hd hV hcd.1 hcd.2 hlk hn hst hcat hlen hlv hf (fun r1 _ => K r1)
theorem zr_Vr {o1 : Option (Nat)} {f : (Nat) → Option ρ} {c ci n idx : Nat} {q : vw_C} {ks : List Nat} {rest : List Value} (As : List Value) (hd : decode Y.2.1 pc = .ok (.invokevirtual idx, 3)) (hV : zq_V G Y1 (l1, 0, 0) (zq_er G sh z X) 0 0 0 (lv_args 0 (.ref (zq_ad G c) :: As)) [] sh z X o1) (hcd : zq_cd Y1 n ∧ Cond.instanceMethod Y1.1 ∈ zq_T ∧ Cond.selects Y1.1.cls Y1.1 Y1.1 ∈ zq_T) (hlk : Cond.methodLink Y.1.cls idx Y1.1 ∈ zq_T) (hs : sh c = some (.inl (ci, ks))) (hci : vwCl[ci]? = some q) (hq : q.1 = Y1.1.cls) (hn : As.length = n) (hst : st = As.reverse ++ .ref (zq_ad G c) :: rest) (hcat : (rest.map fun v => v.category).sum ≤ 8) (hlen : (lg_sl (.ref (zq_ad G c) :: As)).length ≤ Y1.2.2.1) (hlv : l1 + 1 ≤ lv.1) (hf : kc ≤ lv.2.1 ∧ kn ≤ lv.2.2) (K : ∀ r1, zq_V G Y lv enc kc kn (pc + 3) lo (.ref (zq_ad G r1) :: rest) sh z X (f r1)) : zq_V G Y lv enc kc kn pc lo st sh z X (o1.bind f) := zr_callV (enc1 := zq_er G sh z X) hd hV hcd.1 hcd.2.1 hcd.2.2 hlk hs hci hq hn hst hcat hlen hlv hf (fun r1 _ => K r1)
theorem zr_Sr {o1 : Option (Nat)} {f : (Nat) → Option ρ} {n idx : Nat} {rest : List Value} (As : List Value) (hd : decode Y.2.1 pc = .ok (.invokestatic idx, 3)) (hV : zq_V G Y1 (l1, 0, 0) (zq_er G sh z X) 0 0 0 (lv_args 0 As) [] sh z X o1) (hcd : zq_cd Y1 n ∧ Cond.static Y1.1 ∈ zq_T) (hlk : Cond.methodLink Y.1.cls idx Y1.1 ∈ zq_T) (hn : As.length = n) (hst : st = As.reverse ++ rest) (hcat : (rest.map fun v => v.category).sum ≤ 8) (hlen : (lg_sl As).length ≤ Y1.2.2.1) (hlv : l1 + 1 ≤ lv.1) (hf : kc ≤ lv.2.1 ∧ kn ≤ lv.2.2) (K : ∀ r1, zq_V G Y lv enc kc kn (pc + 3) lo (.ref (zq_ad G r1) :: rest) sh z X (f r1)) : zq_V G Y lv enc kc kn pc lo st sh z X (o1.bind f) := zr_callS (enc1 := zq_er G sh z X) hd hV hcd.1 hcd.2 hlk hn hst hcat hlen hlv hf (fun r1 _ => K r1)

theorem zr_gd {b : Bool} {o : Option ρ} (K : b = true → zq_V G Y lv enc kc kn pc lo st sh z X o) : zq_V G Y lv enc kc kn pc lo st sh z X (zq_gd b o) := by
  intro r hr
  unfold zq_gd at hr
  by_cases hb : b = true
  · rw [if_pos hb] at hr
    exact K hb r hr
  · rw [if_neg hb] at hr
    cases hr
theorem zr_min {idx : Nat} {x y : Int32} {o : Option ρ} {rest : List Value} (hd : decode Y.2.1 pc = .ok (.invokestatic idx, 3)) (hlk : Cond.methodLink Y.1.cls idx Lib.Math.min.name ∈ zq_T) (h1 : Cond.static Lib.Math.min.name ∈ zq_T) (h2 : Cond.initialized "java/lang/Math" ∈ zq_T) (h3 : Cond.code Lib.Math.min.name Lib.Math.min.code 2 (some .int) ∈ zq_T) (hlv : 1 ≤ lv.1) (hcat : (rest.map fun v => v.category).sum ≤ 8) (hf : kc ≤ lv.2.1 ∧ kn ≤ lv.2.2) (K : zq_V G Y lv enc kc kn (pc + 3) lo (.int (if y < x then y else x) :: rest) sh z X o) : zq_V G Y lv enc kc kn pc lo (.int y :: .int x :: rest) sh z X o := by
  intro r hr p e s m args below meth c A H locs ls C hz hS hA hP hl
  have hts := C.2.2.2.2.2.1
  exact va_mmin C.1 C.2.1 (C.2.2.2.1.trans hl.1.symm) C.2.2.2.2.1 (hts _ hlk) (hts _ h1) (hts _ h2) (hts _ h3) hlv (by show _ + 13 ≤ 60 * lv.1; omega) hf.1 hf.2 hd (K r hr p e s m args below meth c A H locs ls C hz hS hA hP hl)
theorem zr_oinit {idx c : Nat} {o : Option ρ} {rest : List Value} (hd : decode Y.2.1 pc = .ok (.invokespecial idx, 3)) (hlk : Cond.methodLink Y.1.cls idx Lib.objectInit ∈ zq_T) (h1 : Cond.instanceMethod Lib.objectInit ∈ zq_T) (h3 : Cond.code Lib.objectInit ⟨#[0xb1]⟩ 1 none ∈ zq_T) (hlv : 1 ≤ lv.1) (hcat : (rest.map fun v => v.category).sum ≤ 8) (K : zq_V G Y lv enc kc kn (pc + 3) lo rest sh z X o) : zq_V G Y lv enc kc kn pc lo (.ref (zq_ad G c) :: rest) sh z X o := by
  intro r hr p e s m args below meth c' A H locs ls C hz hS hA hP hl
  have hts := C.2.2.2.2.2.1
  exact W.objInit C.1 C.2.1 C.2.2.2.2.1 (hts _ hlk) (hts _ h1) (hts _ h3) rfl (hl.1.trans C.2.2.2.1.symm) rfl hd hlv (by have := lv_room (m := m) (pc := pc) (ls := ls) (rest := [Value.ref (zq_ad G c)]) hcat; show _ + 12 ≤ 60 * lv.1; revert this; show 2 * 0 + _ ≤ 8 → 2 * 0 + _ + 12 ≤ _; omega) (K r hr p e s m args below meth c' A H locs ls C hz hS hA hP hl)
end
end
