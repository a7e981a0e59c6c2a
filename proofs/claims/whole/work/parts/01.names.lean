-- ===== PART A: goes FIRST, ahead of the names: the tables' words, and 'selects' of the private methods out of them =====
/-- a private method of a class that the tables say can be made, by its rows of tables_1 -/
def lw_okq (q : MethodName × Nat) : Prop := (q.1.cls ≠ "java/lang/invoke/MethodHandle" ∧ q.1.cls ≠ "java/lang/invoke/VarHandle") ∧ Cond.instantiable q.1.cls q.2 ∈ tables_1 ∧ Cond.privateMethod q.1 ∈ tables_1 ∧ Cond.instanceMethod q.1 ∈ tables_1
theorem lw_p0 : lw_okq (⟨"TwelveCars$Tape", "readEntries", "(Ljava/lang/String;CI)I"⟩, 5) := ⟨⟨by decide +kernel, by decide +kernel⟩, List.mem_of_getElem? (i := 71) (by decide +kernel), List.mem_of_getElem? (i := 368) (by decide +kernel), List.mem_of_getElem? (i := 369) (by decide +kernel)⟩
theorem lw_p1 : lw_okq (⟨"TwelveCars$Tape", "readLetter", "(Ljava/lang/String;I)I"⟩, 5) := ⟨⟨by decide +kernel, by decide +kernel⟩, List.mem_of_getElem? (i := 71) (by decide +kernel), List.mem_of_getElem? (i := 372) (by decide +kernel), List.mem_of_getElem? (i := 373) (by decide +kernel)⟩
theorem lw_p2 : lw_okq (⟨"TwelveCars$Tape", "next", "()I"⟩, 5) := ⟨⟨by decide +kernel, by decide +kernel⟩, List.mem_of_getElem? (i := 71) (by decide +kernel), List.mem_of_getElem? (i := 376) (by decide +kernel), List.mem_of_getElem? (i := 377) (by decide +kernel)⟩
theorem lw_p3 : lw_okq (⟨"TwelveCars$Tape", "readNumber", "(III)I"⟩, 5) := ⟨⟨by decide +kernel, by decide +kernel⟩, List.mem_of_getElem? (i := 71) (by decide +kernel), List.mem_of_getElem? (i := 469) (by decide +kernel), List.mem_of_getElem? (i := 470) (by decide +kernel)⟩
theorem lw_p4 : lw_okq (⟨"TwelveCars$Tape", "readWhatFollows", "(I)I"⟩, 5) := ⟨⟨by decide +kernel, by decide +kernel⟩, List.mem_of_getElem? (i := 71) (by decide +kernel), List.mem_of_getElem? (i := 477) (by decide +kernel), List.mem_of_getElem? (i := 478) (by decide +kernel)⟩
theorem lw_p5 : lw_okq (⟨"TwelveCars$Tape", "readDigit", "(I)I"⟩, 5) := ⟨⟨by decide +kernel, by decide +kernel⟩, List.mem_of_getElem? (i := 71) (by decide +kernel), List.mem_of_getElem? (i := 481) (by decide +kernel), List.mem_of_getElem? (i := 482) (by decide +kernel)⟩
theorem lw_p6 : lw_okq (⟨"TwelveCars", "happens", "(II)Z"⟩, 10) := ⟨⟨by decide +kernel, by decide +kernel⟩, List.mem_of_getElem? (i := 19) (by decide +kernel), List.mem_of_getElem? (i := 495) (by decide +kernel), List.mem_of_getElem? (i := 496) (by decide +kernel)⟩
theorem lw_p7 : lw_okq (⟨"TwelveCars", "canBeAskedFor", "(II)Z"⟩, 10) := ⟨⟨by decide +kernel, by decide +kernel⟩, List.mem_of_getElem? (i := 19) (by decide +kernel), List.mem_of_getElem? (i := 576) (by decide +kernel), List.mem_of_getElem? (i := 577) (by decide +kernel)⟩
theorem lw_p8 : lw_okq (⟨"TwelveCars$AllIn", "goOn", "(III)V"⟩, 5) := ⟨⟨by decide +kernel, by decide +kernel⟩, List.mem_of_getElem? (i := 97) (by decide +kernel), List.mem_of_getElem? (i := 592) (by decide +kernel), List.mem_of_getElem? (i := 593) (by decide +kernel)⟩
theorem lw_p9 : lw_okq (⟨"TwelveCars$AllIn", "mayGoTogether", "(II)Z"⟩, 5) := ⟨⟨by decide +kernel, by decide +kernel⟩, List.mem_of_getElem? (i := 97) (by decide +kernel), List.mem_of_getElem? (i := 598) (by decide +kernel), List.mem_of_getElem? (i := 599) (by decide +kernel)⟩
theorem lw_p10 : lw_okq (⟨"TwelveCars$AllIn", "putIn", "(IIII)V"⟩, 5) := ⟨⟨by decide +kernel, by decide +kernel⟩, List.mem_of_getElem? (i := 97) (by decide +kernel), List.mem_of_getElem? (i := 603) (by decide +kernel), List.mem_of_getElem? (i := 604) (by decide +kernel)⟩
theorem lw_p11 : lw_okq (⟨"TwelveCars$AllIn", "rowOf", "(II)I"⟩, 5) := ⟨⟨by decide +kernel, by decide +kernel⟩, List.mem_of_getElem? (i := 97) (by decide +kernel), List.mem_of_getElem? (i := 610) (by decide +kernel), List.mem_of_getElem? (i := 611) (by decide +kernel)⟩
theorem lw_p12 : lw_okq (⟨"TwelveCars$AllIn", "shiftOf", "(I)I"⟩, 5) := ⟨⟨by decide +kernel, by decide +kernel⟩, List.mem_of_getElem? (i := 97) (by decide +kernel), List.mem_of_getElem? (i := 614) (by decide +kernel), List.mem_of_getElem? (i := 615) (by decide +kernel)⟩
theorem lw_p13 : lw_okq (⟨"TwelveCars$AllOut", "stepAt", "(II)V"⟩, 4) := ⟨⟨by decide +kernel, by decide +kernel⟩, List.mem_of_getElem? (i := 142) (by decide +kernel), List.mem_of_getElem? (i := 643) (by decide +kernel), List.mem_of_getElem? (i := 644) (by decide +kernel)⟩
theorem lw_p14 : lw_okq (⟨"TwelveCars$AllOut", "letOut", "(II)V"⟩, 4) := ⟨⟨by decide +kernel, by decide +kernel⟩, List.mem_of_getElem? (i := 142) (by decide +kernel), List.mem_of_getElem? (i := 648) (by decide +kernel), List.mem_of_getElem? (i := 649) (by decide +kernel)⟩
theorem lw_p15 : lw_okq (⟨"TwelveCars$AllOut", "mayRide", "(II)Z"⟩, 4) := ⟨⟨by decide +kernel, by decide +kernel⟩, List.mem_of_getElem? (i := 142) (by decide +kernel), List.mem_of_getElem? (i := 652) (by decide +kernel), List.mem_of_getElem? (i := 653) (by decide +kernel)⟩
def lw_privs_1 : List (MethodName × Nat) := [(⟨"TwelveCars$Tape", "readEntries", "(Ljava/lang/String;CI)I"⟩, 5), (⟨"TwelveCars$Tape", "readLetter", "(Ljava/lang/String;I)I"⟩, 5), (⟨"TwelveCars$Tape", "next", "()I"⟩, 5), (⟨"TwelveCars$Tape", "readNumber", "(III)I"⟩, 5), (⟨"TwelveCars$Tape", "readWhatFollows", "(I)I"⟩, 5), (⟨"TwelveCars$Tape", "readDigit", "(I)I"⟩, 5), (⟨"TwelveCars", "happens", "(II)Z"⟩, 10), (⟨"TwelveCars", "canBeAskedFor", "(II)Z"⟩, 10), (⟨"TwelveCars$AllIn", "goOn", "(III)V"⟩, 5), (⟨"TwelveCars$AllIn", "mayGoTogether", "(II)Z"⟩, 5), (⟨"TwelveCars$AllIn", "putIn", "(IIII)V"⟩, 5), (⟨"TwelveCars$AllIn", "rowOf", "(II)I"⟩, 5), (⟨"TwelveCars$AllIn", "shiftOf", "(I)I"⟩, 5), (⟨"TwelveCars$AllOut", "stepAt", "(II)V"⟩, 4), (⟨"TwelveCars$AllOut", "letOut", "(II)V"⟩, 4), (⟨"TwelveCars$AllOut", "mayRide", "(II)Z"⟩, 4)]
theorem lw_r1 : ∀ q ∈ lw_privs_1, lw_okq q := List.forall_mem_cons.mpr ⟨lw_p0, List.forall_mem_cons.mpr ⟨lw_p1, List.forall_mem_cons.mpr ⟨lw_p2, List.forall_mem_cons.mpr ⟨lw_p3, List.forall_mem_cons.mpr ⟨lw_p4, List.forall_mem_cons.mpr ⟨lw_p5, List.forall_mem_cons.mpr ⟨lw_p6, List.forall_mem_cons.mpr ⟨lw_p7, List.forall_mem_cons.mpr ⟨lw_p8, List.forall_mem_cons.mpr ⟨lw_p9, List.forall_mem_cons.mpr ⟨lw_p10, List.forall_mem_cons.mpr ⟨lw_p11, List.forall_mem_cons.mpr ⟨lw_p12, List.forall_mem_cons.mpr ⟨lw_p13, List.forall_mem_cons.mpr ⟨lw_p14, List.forall_mem_cons.mpr ⟨lw_p15, fun _ h => absurd h List.not_mem_nil⟩⟩⟩⟩⟩⟩⟩⟩⟩⟩⟩⟩⟩⟩⟩⟩
theorem lw_p16 : lw_okq (⟨"TwelveCars", "helpsBySand", "(II)Z"⟩, 10) := ⟨⟨by decide +kernel, by decide +kernel⟩, List.mem_of_getElem? (i := 19) (by decide +kernel), List.mem_of_getElem? (i := 669) (by decide +kernel), List.mem_of_getElem? (i := 670) (by decide +kernel)⟩
theorem lw_p17 : lw_okq (⟨"TwelveCars$Slips", "listRiders", "()I"⟩, 5) := ⟨⟨by decide +kernel, by decide +kernel⟩, List.mem_of_getElem? (i := 163) (by decide +kernel), List.mem_of_getElem? (i := 681) (by decide +kernel), List.mem_of_getElem? (i := 682) (by decide +kernel)⟩
theorem lw_p18 : lw_okq (⟨"TwelveCars", "refusalOfRow", "(IIII)I"⟩, 10) := ⟨⟨by decide +kernel, by decide +kernel⟩, List.mem_of_getElem? (i := 19) (by decide +kernel), List.mem_of_getElem? (i := 719) (by decide +kernel), List.mem_of_getElem? (i := 720) (by decide +kernel)⟩
theorem lw_p19 : lw_okq (⟨"TwelveCarsModel", "add", "(II)V"⟩, 35) := ⟨⟨by decide +kernel, by decide +kernel⟩, List.mem_of_getElem? (i := 763) (by decide +kernel), List.mem_of_getElem? (i := 885) (by decide +kernel), List.mem_of_getElem? (i := 886) (by decide +kernel)⟩
theorem lw_p20 : lw_okq (⟨"TwelveCarsModel", "isOne", "(I)Z"⟩, 35) := ⟨⟨by decide +kernel, by decide +kernel⟩, List.mem_of_getElem? (i := 763) (by decide +kernel), List.mem_of_getElem? (i := 893) (by decide +kernel), List.mem_of_getElem? (i := 894) (by decide +kernel)⟩
theorem lw_p21 : lw_okq (⟨"TwelveCarsModel", "whoIn", "(I)I"⟩, 35) := ⟨⟨by decide +kernel, by decide +kernel⟩, List.mem_of_getElem? (i := 763) (by decide +kernel), List.mem_of_getElem? (i := 905) (by decide +kernel), List.mem_of_getElem? (i := 906) (by decide +kernel)⟩
theorem lw_p22 : lw_okq (⟨"TwelveCarsModel", "weightOf", "(I)I"⟩, 35) := ⟨⟨by decide +kernel, by decide +kernel⟩, List.mem_of_getElem? (i := 763) (by decide +kernel), List.mem_of_getElem? (i := 909) (by decide +kernel), List.mem_of_getElem? (i := 910) (by decide +kernel)⟩
theorem lw_p23 : lw_okq (⟨"TwelveCarsModel", "seatsOf", "(I)I"⟩, 35) := ⟨⟨by decide +kernel, by decide +kernel⟩, List.mem_of_getElem? (i := 763) (by decide +kernel), List.mem_of_getElem? (i := 916) (by decide +kernel), List.mem_of_getElem? (i := 917) (by decide +kernel)⟩
theorem lw_p24 : lw_okq (⟨"TwelveCarsModel", "isEven", "()Z"⟩, 35) := ⟨⟨by decide +kernel, by decide +kernel⟩, List.mem_of_getElem? (i := 763) (by decide +kernel), List.mem_of_getElem? (i := 925) (by decide +kernel), List.mem_of_getElem? (i := 926) (by decide +kernel)⟩
theorem lw_p25 : lw_okq (⟨"TwelveCarsModel", "findLoads", "()V"⟩, 35) := ⟨⟨by decide +kernel, by decide +kernel⟩, List.mem_of_getElem? (i := 763) (by decide +kernel), List.mem_of_getElem? (i := 929) (by decide +kernel), List.mem_of_getElem? (i := 930) (by decide +kernel)⟩
theorem lw_p26 : lw_okq (⟨"TwelveCarsModel", "isEvenNow", "()Z"⟩, 35) := ⟨⟨by decide +kernel, by decide +kernel⟩, List.mem_of_getElem? (i := 763) (by decide +kernel), List.mem_of_getElem? (i := 933) (by decide +kernel), List.mem_of_getElem? (i := 934) (by decide +kernel)⟩
theorem lw_p27 : lw_okq (⟨"TwelveCarsModel", "findSquare", "()V"⟩, 35) := ⟨⟨by decide +kernel, by decide +kernel⟩, List.mem_of_getElem? (i := 763) (by decide +kernel), List.mem_of_getElem? (i := 937) (by decide +kernel), List.mem_of_getElem? (i := 938) (by decide +kernel)⟩
theorem lw_p28 : lw_okq (⟨"TwelveCarsModel", "readPeople", "()Z"⟩, 35) := ⟨⟨by decide +kernel, by decide +kernel⟩, List.mem_of_getElem? (i := 763) (by decide +kernel), List.mem_of_getElem? (i := 971) (by decide +kernel), List.mem_of_getElem? (i := 972) (by decide +kernel)⟩
theorem lw_p29 : lw_okq (⟨"TwelveCarsModel", "readOne", "(I)Z"⟩, 35) := ⟨⟨by decide +kernel, by decide +kernel⟩, List.mem_of_getElem? (i := 763) (by decide +kernel), List.mem_of_getElem? (i := 975) (by decide +kernel), List.mem_of_getElem? (i := 976) (by decide +kernel)⟩
theorem lw_p30 : lw_okq (⟨"TwelveCarsModel", "nextByte", "()I"⟩, 35) := ⟨⟨by decide +kernel, by decide +kernel⟩, List.mem_of_getElem? (i := 763) (by decide +kernel), List.mem_of_getElem? (i := 979) (by decide +kernel), List.mem_of_getElem? (i := 980) (by decide +kernel)⟩
theorem lw_p31 : lw_okq (⟨"TwelveCarsModel", "readNumber", "(II)I"⟩, 35) := ⟨⟨by decide +kernel, by decide +kernel⟩, List.mem_of_getElem? (i := 763) (by decide +kernel), List.mem_of_getElem? (i := 983) (by decide +kernel), List.mem_of_getElem? (i := 984) (by decide +kernel)⟩
def lw_privs_2 : List (MethodName × Nat) := [(⟨"TwelveCars", "helpsBySand", "(II)Z"⟩, 10), (⟨"TwelveCars$Slips", "listRiders", "()I"⟩, 5), (⟨"TwelveCars", "refusalOfRow", "(IIII)I"⟩, 10), (⟨"TwelveCarsModel", "add", "(II)V"⟩, 35), (⟨"TwelveCarsModel", "isOne", "(I)Z"⟩, 35), (⟨"TwelveCarsModel", "whoIn", "(I)I"⟩, 35), (⟨"TwelveCarsModel", "weightOf", "(I)I"⟩, 35), (⟨"TwelveCarsModel", "seatsOf", "(I)I"⟩, 35), (⟨"TwelveCarsModel", "isEven", "()Z"⟩, 35), (⟨"TwelveCarsModel", "findLoads", "()V"⟩, 35), (⟨"TwelveCarsModel", "isEvenNow", "()Z"⟩, 35), (⟨"TwelveCarsModel", "findSquare", "()V"⟩, 35), (⟨"TwelveCarsModel", "readPeople", "()Z"⟩, 35), (⟨"TwelveCarsModel", "readOne", "(I)Z"⟩, 35), (⟨"TwelveCarsModel", "nextByte", "()I"⟩, 35), (⟨"TwelveCarsModel", "readNumber", "(II)I"⟩, 35)]
theorem lw_r2 : ∀ q ∈ lw_privs_2, lw_okq q := List.forall_mem_cons.mpr ⟨lw_p16, List.forall_mem_cons.mpr ⟨lw_p17, List.forall_mem_cons.mpr ⟨lw_p18, List.forall_mem_cons.mpr ⟨lw_p19, List.forall_mem_cons.mpr ⟨lw_p20, List.forall_mem_cons.mpr ⟨lw_p21, List.forall_mem_cons.mpr ⟨lw_p22, List.forall_mem_cons.mpr ⟨lw_p23, List.forall_mem_cons.mpr ⟨lw_p24, List.forall_mem_cons.mpr ⟨lw_p25, List.forall_mem_cons.mpr ⟨lw_p26, List.forall_mem_cons.mpr ⟨lw_p27, List.forall_mem_cons.mpr ⟨lw_p28, List.forall_mem_cons.mpr ⟨lw_p29, List.forall_mem_cons.mpr ⟨lw_p30, List.forall_mem_cons.mpr ⟨lw_p31, fun _ h => absurd h List.not_mem_nil⟩⟩⟩⟩⟩⟩⟩⟩⟩⟩⟩⟩⟩⟩⟩⟩
theorem lw_p32 : lw_okq (⟨"TwelveCarsModel", "readEvening", "()Z"⟩, 35) := ⟨⟨by decide +kernel, by decide +kernel⟩, List.mem_of_getElem? (i := 763) (by decide +kernel), List.mem_of_getElem? (i := 993) (by decide +kernel), List.mem_of_getElem? (i := 994) (by decide +kernel)⟩
theorem lw_p33 : lw_okq (⟨"TwelveCarsModel", "readAct", "(I)Z"⟩, 35) := ⟨⟨by decide +kernel, by decide +kernel⟩, List.mem_of_getElem? (i := 763) (by decide +kernel), List.mem_of_getElem? (i := 997) (by decide +kernel), List.mem_of_getElem? (i := 998) (by decide +kernel)⟩
theorem lw_p34 : lw_okq (⟨"TwelveCarsModel", "does", "(I)Z"⟩, 35) := ⟨⟨by decide +kernel, by decide +kernel⟩, List.mem_of_getElem? (i := 763) (by decide +kernel), List.mem_of_getElem? (i := 1002) (by decide +kernel), List.mem_of_getElem? (i := 1003) (by decide +kernel)⟩
theorem lw_p35 : lw_okq (⟨"TwelveCarsModel", "mayBoard", "(I)Z"⟩, 35) := ⟨⟨by decide +kernel, by decide +kernel⟩, List.mem_of_getElem? (i := 763) (by decide +kernel), List.mem_of_getElem? (i := 1010) (by decide +kernel), List.mem_of_getElem? (i := 1011) (by decide +kernel)⟩
theorem lw_p36 : lw_okq (⟨"TwelveCarsModel", "fits", "(I)Z"⟩, 35) := ⟨⟨by decide +kernel, by decide +kernel⟩, List.mem_of_getElem? (i := 763) (by decide +kernel), List.mem_of_getElem? (i := 1014) (by decide +kernel), List.mem_of_getElem? (i := 1015) (by decide +kernel)⟩
theorem lw_p37 : lw_okq (⟨"TwelveCarsModel", "mayLeave", "(I)Z"⟩, 35) := ⟨⟨by decide +kernel, by decide +kernel⟩, List.mem_of_getElem? (i := 763) (by decide +kernel), List.mem_of_getElem? (i := 1022) (by decide +kernel), List.mem_of_getElem? (i := 1023) (by decide +kernel)⟩
theorem lw_p38 : lw_okq (⟨"TwelveCarsModel", "isAllIn", "(II)Z"⟩, 35) := ⟨⟨by decide +kernel, by decide +kernel⟩, List.mem_of_getElem? (i := 763) (by decide +kernel), List.mem_of_getElem? (i := 1047) (by decide +kernel), List.mem_of_getElem? (i := 1048) (by decide +kernel)⟩
theorem lw_p39 : lw_okq (⟨"TwelveCarsModel", "findSoonest", "(II)I"⟩, 35) := ⟨⟨by decide +kernel, by decide +kernel⟩, List.mem_of_getElem? (i := 763) (by decide +kernel), List.mem_of_getElem? (i := 1054) (by decide +kernel), List.mem_of_getElem? (i := 1055) (by decide +kernel)⟩
theorem lw_p40 : lw_okq (⟨"TwelveCarsModel", "areSo", "(I)Z"⟩, 35) := ⟨⟨by decide +kernel, by decide +kernel⟩, List.mem_of_getElem? (i := 763) (by decide +kernel), List.mem_of_getElem? (i := 1058) (by decide +kernel), List.mem_of_getElem? (i := 1059) (by decide +kernel)⟩
theorem lw_p41 : lw_okq (⟨"TwelveCarsModel", "canBoard", "()Z"⟩, 35) := ⟨⟨by decide +kernel, by decide +kernel⟩, List.mem_of_getElem? (i := 763) (by decide +kernel), List.mem_of_getElem? (i := 1062) (by decide +kernel), List.mem_of_getElem? (i := 1063) (by decide +kernel)⟩
theorem lw_p42 : lw_okq (⟨"TwelveCarsModel", "nextTimes", "()Z"⟩, 35) := ⟨⟨by decide +kernel, by decide +kernel⟩, List.mem_of_getElem? (i := 763) (by decide +kernel), List.mem_of_getElem? (i := 1066) (by decide +kernel), List.mem_of_getElem? (i := 1067) (by decide +kernel)⟩
theorem lw_p43 : lw_okq (⟨"TwelveCarsModel", "getOut", "(I)V"⟩, 35) := ⟨⟨by decide +kernel, by decide +kernel⟩, List.mem_of_getElem? (i := 763) (by decide +kernel), List.mem_of_getElem? (i := 1079) (by decide +kernel), List.mem_of_getElem? (i := 1080) (by decide +kernel)⟩
theorem lw_p44 : lw_okq (⟨"TwelveCarsModel", "isEvenWith", "(I)Z"⟩, 35) := ⟨⟨by decide +kernel, by decide +kernel⟩, List.mem_of_getElem? (i := 763) (by decide +kernel), List.mem_of_getElem? (i := 1083) (by decide +kernel), List.mem_of_getElem? (i := 1084) (by decide +kernel)⟩
theorem lw_p45 : lw_okq (⟨"TwelveCarsModel", "findWorst", "(I)V"⟩, 35) := ⟨⟨by decide +kernel, by decide +kernel⟩, List.mem_of_getElem? (i := 763) (by decide +kernel), List.mem_of_getElem? (i := 1095) (by decide +kernel), List.mem_of_getElem? (i := 1096) (by decide +kernel)⟩
theorem lw_p46 : lw_okq (⟨"TwelveCarsModel", "carried", "(IIZ)I"⟩, 35) := ⟨⟨by decide +kernel, by decide +kernel⟩, List.mem_of_getElem? (i := 763) (by decide +kernel), List.mem_of_getElem? (i := 1109) (by decide +kernel), List.mem_of_getElem? (i := 1110) (by decide +kernel)⟩
theorem lw_p47 : lw_okq (⟨"TwelveCarsModel", "lacksRow", "(IIII)I"⟩, 35) := ⟨⟨by decide +kernel, by decide +kernel⟩, List.mem_of_getElem? (i := 763) (by decide +kernel), List.mem_of_getElem? (i := 1132) (by decide +kernel), List.mem_of_getElem? (i := 1133) (by decide +kernel)⟩
def lw_privs_3 : List (MethodName × Nat) := [(⟨"TwelveCarsModel", "readEvening", "()Z"⟩, 35), (⟨"TwelveCarsModel", "readAct", "(I)Z"⟩, 35), (⟨"TwelveCarsModel", "does", "(I)Z"⟩, 35), (⟨"TwelveCarsModel", "mayBoard", "(I)Z"⟩, 35), (⟨"TwelveCarsModel", "fits", "(I)Z"⟩, 35), (⟨"TwelveCarsModel", "mayLeave", "(I)Z"⟩, 35), (⟨"TwelveCarsModel", "isAllIn", "(II)Z"⟩, 35), (⟨"TwelveCarsModel", "findSoonest", "(II)I"⟩, 35), (⟨"TwelveCarsModel", "areSo", "(I)Z"⟩, 35), (⟨"TwelveCarsModel", "canBoard", "()Z"⟩, 35), (⟨"TwelveCarsModel", "nextTimes", "()Z"⟩, 35), (⟨"TwelveCarsModel", "getOut", "(I)V"⟩, 35), (⟨"TwelveCarsModel", "isEvenWith", "(I)Z"⟩, 35), (⟨"TwelveCarsModel", "findWorst", "(I)V"⟩, 35), (⟨"TwelveCarsModel", "carried", "(IIZ)I"⟩, 35), (⟨"TwelveCarsModel", "lacksRow", "(IIII)I"⟩, 35)]
theorem lw_r3 : ∀ q ∈ lw_privs_3, lw_okq q := List.forall_mem_cons.mpr ⟨lw_p32, List.forall_mem_cons.mpr ⟨lw_p33, List.forall_mem_cons.mpr ⟨lw_p34, List.forall_mem_cons.mpr ⟨lw_p35, List.forall_mem_cons.mpr ⟨lw_p36, List.forall_mem_cons.mpr ⟨lw_p37, List.forall_mem_cons.mpr ⟨lw_p38, List.forall_mem_cons.mpr ⟨lw_p39, List.forall_mem_cons.mpr ⟨lw_p40, List.forall_mem_cons.mpr ⟨lw_p41, List.forall_mem_cons.mpr ⟨lw_p42, List.forall_mem_cons.mpr ⟨lw_p43, List.forall_mem_cons.mpr ⟨lw_p44, List.forall_mem_cons.mpr ⟨lw_p45, List.forall_mem_cons.mpr ⟨lw_p46, List.forall_mem_cons.mpr ⟨lw_p47, fun _ h => absurd h List.not_mem_nil⟩⟩⟩⟩⟩⟩⟩⟩⟩⟩⟩⟩⟩⟩⟩⟩
def lw_privs : List (MethodName × Nat) := lw_privs_1 ++ (lw_privs_2 ++ (lw_privs_3))
def lw_tbl : List Cond := k2_sels lw_privs ++ tables_1
theorem lw_privs_ok : ∀ q ∈ lw_privs, lw_okq q := by
  show ∀ q ∈ lw_privs_1 ++ (lw_privs_2 ++ (lw_privs_3)), lw_okq q
  exact List.forall_mem_append.mpr ⟨lw_r1, List.forall_mem_append.mpr ⟨lw_r2, lw_r3⟩⟩


def RX0 : String := "TwelveCars$AllIn"
def TX0 : u_T := fun k => match k with
  | 0 => ("TwelveCars$AllIn", "wheel", "LTwelveCars$Wheel;", true)
  | 1 => ("TwelveCars$AllIn", "now", "LTwelveCars$Balance;", true)
  | 2 => ("TwelveCars$AllIn", "asked", "I", false)
  | 3 => ("TwelveCars$AllIn", "how", "I", false)
  | _ => ("TwelveCars$AllIn", "best", "I", false)
def tyX0 : Nat → FieldType := fun k => match k with
  | 0 => .object "TwelveCars$Wheel"
  | 1 => .object "TwelveCars$Balance"
  | 2 => .int
  | 3 => .int
  | _ => .int
abbrev wsX00 : List Cond := u_ws RX0 TX0 5
theorem nmX0 : ∀ a, a < 5 → ∀ b, b < 5 → a ≠ b → (TX0 a).2.1 ≠ (TX0 b).2.1 := by decide +kernel
theorem tyX0_ok : ∀ k, k < 5 → parseFieldDescriptor (TX0 k).2.2.1 = some (tyX0 k) := by decide +kernel
abbrev cX0_init : ByteArray := prog_2_method_1_code
def yX0_init : MethodName := ⟨RX0, "<init>", "(LTwelveCars$Wheel;)V"⟩
abbrev cX0_search : ByteArray := prog_2_method_2_code
def yX0_search : MethodName := ⟨RX0, "search", "(II)Z"⟩
abbrev cX0_soonestMinute : ByteArray := prog_2_method_3_code
def yX0_soonestMinute : MethodName := ⟨RX0, "soonestMinute", "()I"⟩
abbrev cX0_minuteOf : ByteArray := prog_2_method_4_code
def yX0_minuteOf : MethodName := ⟨RX0, "minuteOf", "(I)I"⟩
abbrev cX0_shiftOf : ByteArray := prog_2_method_5_code
def yX0_shiftOf : MethodName := ⟨RX0, "shiftOf", "(I)I"⟩
abbrev cX0_goOn : ByteArray := prog_2_method_6_code
def yX0_goOn : MethodName := ⟨RX0, "goOn", "(III)V"⟩
abbrev cX0_mayGoTogether : ByteArray := prog_2_method_7_code
def yX0_mayGoTogether : MethodName := ⟨RX0, "mayGoTogether", "(II)Z"⟩
abbrev cX0_putIn : ByteArray := prog_2_method_8_code
def yX0_putIn : MethodName := ⟨RX0, "putIn", "(IIII)V"⟩
abbrev cX0_rowOf : ByteArray := prog_2_method_9_code
def yX0_rowOf : MethodName := ⟨RX0, "rowOf", "(II)I"⟩
def RX1 : String := "TwelveCars$AllOut"
def TX1 : u_T := fun k => match k with
  | 0 => ("TwelveCars$AllOut", "wheel", "LTwelveCars$Wheel;", true)
  | 1 => ("TwelveCars$AllOut", "sandAlone", "LTwelveCars$Balance;", true)
  | 2 => ("TwelveCars$AllOut", "scratch", "LTwelveCars$Balance;", true)
  | _ => ("TwelveCars$AllOut", "states", "[I", true)
def tyX1 : Nat → FieldType := fun k => match k with
  | 0 => .object "TwelveCars$Wheel"
  | 1 => .object "TwelveCars$Balance"
  | 2 => .object "TwelveCars$Balance"
  | _ => .array .int
abbrev wsX10 : List Cond := u_ws RX1 TX1 4
theorem nmX1 : ∀ a, a < 4 → ∀ b, b < 4 → a ≠ b → (TX1 a).2.1 ≠ (TX1 b).2.1 := by decide +kernel
theorem tyX1_ok : ∀ k, k < 4 → parseFieldDescriptor (TX1 k).2.2.1 = some (tyX1 k) := by decide +kernel
abbrev cX1_init : ByteArray := prog_3_method_1_code
def yX1_init : MethodName := ⟨RX1, "<init>", "(LTwelveCars$Wheel;)V"⟩
abbrev cX1_fewestMinutes : ByteArray := prog_3_method_2_code
def yX1_fewestMinutes : MethodName := ⟨RX1, "fewestMinutes", "()I"⟩
abbrev cX1_stepAt : ByteArray := prog_3_method_3_code
def yX1_stepAt : MethodName := ⟨RX1, "stepAt", "(II)V"⟩
abbrev cX1_letOut : ByteArray := prog_3_method_4_code
def yX1_letOut : MethodName := ⟨RX1, "letOut", "(II)V"⟩
abbrev cX1_mayRide : ByteArray := prog_3_method_5_code
def yX1_mayRide : MethodName := ⟨RX1, "mayRide", "(II)Z"⟩
def RX2 : String := "TwelveCars$Balance"
def TX2 : u_T := fun k => match k with
  | 0 => ("TwelveCars$Balance", "p", "I", false)
  | 1 => ("TwelveCars$Balance", "q", "I", false)
  | 2 => ("TwelveCars$Balance", "s", "I", false)
  | _ => ("TwelveCars$Balance", "t", "I", false)
def tyX2 : Nat → FieldType := fun k => match k with
  | 0 => .int
  | 1 => .int
  | 2 => .int
  | _ => .int
abbrev wsX20 : List Cond := u_ws RX2 TX2 4
theorem nmX2 : ∀ a, a < 4 → ∀ b, b < 4 → a ≠ b → (TX2 a).2.1 ≠ (TX2 b).2.1 := by decide +kernel
theorem tyX2_ok : ∀ k, k < 4 → parseFieldDescriptor (TX2 k).2.2.1 = some (tyX2 k) := by decide +kernel
abbrev cX2_init : ByteArray := prog_4_method_1_code
def yX2_init : MethodName := ⟨RX2, "<init>", "()V"⟩
abbrev cX2_clear : ByteArray := prog_4_method_2_code
def yX2_clear : MethodName := ⟨RX2, "clear", "()V"⟩
abbrev cX2_become : ByteArray := prog_4_method_3_code
def yX2_become : MethodName := ⟨RX2, "become", "(LTwelveCars$Balance;)V"⟩
abbrev cX2_hang : ByteArray := prog_4_method_4_code
def yX2_hang : MethodName := ⟨RX2, "hang", "(II)V"⟩
abbrev cX2_wholePart : ByteArray := prog_4_method_5_code
def yX2_wholePart : MethodName := ⟨RX2, "wholePart", "()J"⟩
abbrev cX2_rootPart : ByteArray := prog_4_method_6_code
def yX2_rootPart : MethodName := ⟨RX2, "rootPart", "()J"⟩
abbrev cX2_isEvenWithin : ByteArray := prog_4_method_7_code
def yX2_isEvenWithin : MethodName := ⟨RX2, "isEvenWithin", "(I)Z"⟩
abbrev cX2_isWorseThan : ByteArray := prog_4_method_8_code
def yX2_isWorseThan : MethodName := ⟨RX2, "isWorseThan", "(LTwelveCars$Balance;)Z"⟩
abbrev cX2_isAboveZero : ByteArray := prog_4_method_9_code
def yX2_isAboveZero : MethodName := ⟨RX2, "isAboveZero", "(JJ)Z"⟩
def RX3 : String := "TwelveCars$Sheet"
def TX3 : u_T := fun k => match k with
  | 0 => ("TwelveCars$Sheet", "items", "[I", true)
  | 1 => ("TwelveCars$Sheet", "isHeld", "Z", false)
  | 2 => ("TwelveCars$Sheet", "lane", "I", false)
  | _ => ("TwelveCars$Sheet", "length", "I", false)
def tyX3 : Nat → FieldType := fun k => match k with
  | 0 => .array .int
  | 1 => .boolean
  | 2 => .int
  | _ => .int
abbrev wsX30 : List Cond := u_ws RX3 TX3 4
theorem nmX3 : ∀ a, a < 4 → ∀ b, b < 4 → a ≠ b → (TX3 a).2.1 ≠ (TX3 b).2.1 := by decide +kernel
theorem tyX3_ok : ∀ k, k < 4 → parseFieldDescriptor (TX3 k).2.2.1 = some (tyX3 k) := by decide +kernel
abbrev cX3_init : ByteArray := prog_5_method_1_code
def yX3_init : MethodName := ⟨RX3, "<init>", "()V"⟩
abbrev cX3_renew : ByteArray := prog_5_method_2_code
def yX3_renew : MethodName := ⟨RX3, "renew", "(II)V"⟩
abbrev cX3_hasPart : ByteArray := prog_5_method_3_code
def yX3_hasPart : MethodName := ⟨RX3, "hasPart", "(II)Z"⟩
abbrev cX3_write : ByteArray := prog_5_method_4_code
def yX3_write : MethodName := ⟨RX3, "write", "(II)V"⟩
def RX4 : String := "TwelveCars$Slips"
def TX4 : u_T := fun k => match k with
  | 0 => ("TwelveCars$Slips", "wheel", "LTwelveCars$Wheel;", true)
  | 1 => ("TwelveCars$Slips", "sandAlone", "LTwelveCars$Balance;", true)
  | 2 => ("TwelveCars$Slips", "scratch", "LTwelveCars$Balance;", true)
  | 3 => ("TwelveCars$Slips", "riders", "[I", true)
  | _ => ("TwelveCars$Slips", "worst", "LTwelveCars$Balance;", true)
def tyX4 : Nat → FieldType := fun k => match k with
  | 0 => .object "TwelveCars$Wheel"
  | 1 => .object "TwelveCars$Balance"
  | 2 => .object "TwelveCars$Balance"
  | 3 => .array .int
  | _ => .object "TwelveCars$Balance"
abbrev wsX40 : List Cond := u_ws RX4 TX4 5
theorem nmX4 : ∀ a, a < 5 → ∀ b, b < 5 → a ≠ b → (TX4 a).2.1 ≠ (TX4 b).2.1 := by decide +kernel
theorem tyX4_ok : ∀ k, k < 5 → parseFieldDescriptor (TX4 k).2.2.1 = some (tyX4 k) := by decide +kernel
abbrev cX4_init : ByteArray := prog_6_method_1_code
def yX4_init : MethodName := ⟨RX4, "<init>", "(LTwelveCars$Wheel;)V"⟩
abbrev cX4_findWorst : ByteArray := prog_6_method_2_code
def yX4_findWorst : MethodName := ⟨RX4, "findWorst", "(I)V"⟩
abbrev cX4_listRiders : ByteArray := prog_6_method_3_code
def yX4_listRiders : MethodName := ⟨RX4, "listRiders", "()I"⟩
def RX5 : String := "TwelveCars$Tape"
def TX5 : u_T := fun k => match k with
  | 0 => ("TwelveCars$Tape", "bytes", "[B", true)
  | 1 => ("TwelveCars$Tape", "at", "I", false)
  | 2 => ("TwelveCars$Tape", "length", "I", false)
  | 3 => ("TwelveCars$Tape", "letters", "[I", true)
  | _ => ("TwelveCars$Tape", "numbers", "[I", true)
def tyX5 : Nat → FieldType := fun k => match k with
  | 0 => .array .byte
  | 1 => .int
  | 2 => .int
  | 3 => .array .int
  | _ => .array .int
abbrev wsX50 : List Cond := u_ws RX5 TX5 5
theorem nmX5 : ∀ a, a < 5 → ∀ b, b < 5 → a ≠ b → (TX5 a).2.1 ≠ (TX5 b).2.1 := by decide +kernel
theorem tyX5_ok : ∀ k, k < 5 → parseFieldDescriptor (TX5 k).2.2.1 = some (tyX5 k) := by decide +kernel
abbrev cX5_init : ByteArray := prog_7_method_1_code
def yX5_init : MethodName := ⟨RX5, "<init>", "()V"⟩
abbrev cX5_isTypable : ByteArray := prog_7_method_2_code
def yX5_isTypable : MethodName := ⟨RX5, "isTypable", "(I)Z"⟩
abbrev cX5_append : ByteArray := prog_7_method_3_code
def yX5_append : MethodName := ⟨RX5, "append", "(I)V"⟩
abbrev cX5_readPeople : ByteArray := prog_7_method_4_code
def yX5_readPeople : MethodName := ⟨RX5, "readPeople", "()I"⟩
abbrev cX5_readEvening : ByteArray := prog_7_method_5_code
def yX5_readEvening : MethodName := ⟨RX5, "readEvening", "()I"⟩
abbrev cX5_readEntries : ByteArray := prog_7_method_6_code
def yX5_readEntries : MethodName := ⟨RX5, "readEntries", "(Ljava/lang/String;CI)I"⟩
abbrev cX5_faultAt : ByteArray := prog_7_method_7_code
def yX5_faultAt : MethodName := ⟨RX5, "faultAt", "(I)I"⟩
abbrev cX5_isDigit : ByteArray := prog_7_method_8_code
def yX5_isDigit : MethodName := ⟨RX5, "isDigit", "(I)Z"⟩
abbrev cX5_next : ByteArray := prog_7_method_9_code
def yX5_next : MethodName := ⟨RX5, "next", "()I"⟩
abbrev cX5_readLetter : ByteArray := prog_7_method_10_code
def yX5_readLetter : MethodName := ⟨RX5, "readLetter", "(Ljava/lang/String;I)I"⟩
abbrev cX5_readWhatFollows : ByteArray := prog_7_method_11_code
def yX5_readWhatFollows : MethodName := ⟨RX5, "readWhatFollows", "(I)I"⟩
abbrev cX5_readDigit : ByteArray := prog_7_method_12_code
def yX5_readDigit : MethodName := ⟨RX5, "readDigit", "(I)I"⟩
abbrev cX5_readNumber : ByteArray := prog_7_method_13_code
def yX5_readNumber : MethodName := ⟨RX5, "readNumber", "(III)I"⟩
def RX6 : String := "TwelveCars$Wheel"
def TX6 : u_T := fun k => match k with
  | 0 => ("TwelveCars$Wheel", "kinds", "[I", true)
  | 1 => ("TwelveCars$Wheel", "weights", "[I", true)
  | 2 => ("TwelveCars$Wheel", "places", "[I", true)
  | 3 => ("TwelveCars$Wheel", "since", "[I", true)
  | 4 => ("TwelveCars$Wheel", "sands", "[I", true)
  | 5 => ("TwelveCars$Wheel", "people", "I", false)
  | 6 => ("TwelveCars$Wheel", "minute", "I", false)
  | _ => ("TwelveCars$Wheel", "limit", "I", false)
def tyX6 : Nat → FieldType := fun k => match k with
  | 0 => .array .int
  | 1 => .array .int
  | 2 => .array .int
  | 3 => .array .int
  | 4 => .array .int
  | 5 => .int
  | 6 => .int
  | _ => .int
abbrev wsX60 : List Cond := u_ws RX6 TX6 8
theorem nmX6 : ∀ a, a < 8 → ∀ b, b < 8 → a ≠ b → (TX6 a).2.1 ≠ (TX6 b).2.1 := by decide +kernel
theorem tyX6_ok : ∀ k, k < 8 → parseFieldDescriptor (TX6 k).2.2.1 = some (tyX6 k) := by decide +kernel
abbrev cX6_init : ByteArray := prog_8_method_1_code
def yX6_init : MethodName := ⟨RX6, "<init>", "()V"⟩
abbrev cX6_become : ByteArray := prog_8_method_2_code
def yX6_become : MethodName := ⟨RX6, "become", "(LTwelveCars$Wheel;)V"⟩
abbrev cX6_addOne : ByteArray := prog_8_method_3_code
def yX6_addOne : MethodName := ⟨RX6, "addOne", "(II)I"⟩
abbrev cX6_has : ByteArray := prog_8_method_4_code
def yX6_has : MethodName := ⟨RX6, "has", "(I)Z"⟩
abbrev cX6_waits : ByteArray := prog_8_method_5_code
def yX6_waits : MethodName := ⟨RX6, "waits", "(I)Z"⟩
abbrev cX6_ridesAtFoot : ByteArray := prog_8_method_6_code
def yX6_ridesAtFoot : MethodName := ⟨RX6, "ridesAtFoot", "(I)Z"⟩
abbrev cX6_foot : ByteArray := prog_8_method_7_code
def yX6_foot : MethodName := ⟨RX6, "foot", "()I"⟩
abbrev cX6_whoIsAt : ByteArray := prog_8_method_8_code
def yX6_whoIsAt : MethodName := ⟨RX6, "whoIsAt", "(I)I"⟩
abbrev cX6_whoRides : ByteArray := prog_8_method_9_code
def yX6_whoRides : MethodName := ⟨RX6, "whoRides", "()I"⟩
abbrev cX6_weightOf : ByteArray := prog_8_method_10_code
def yX6_weightOf : MethodName := ⟨RX6, "weightOf", "(I)I"⟩
abbrev cX6_loadOf : ByteArray := prog_8_method_11_code
def yX6_loadOf : MethodName := ⟨RX6, "loadOf", "(I)I"⟩
abbrev cX6_sandTogether : ByteArray := prog_8_method_12_code
def yX6_sandTogether : MethodName := ⟨RX6, "sandTogether", "()I"⟩
abbrev cX6_seatsOf : ByteArray := prog_8_method_13_code
def yX6_seatsOf : MethodName := ⟨RX6, "seatsOf", "(I)I"⟩
abbrev cX6_fitTogether : ByteArray := prog_8_method_14_code
def yX6_fitTogether : MethodName := ⟨RX6, "fitTogether", "(I)Z"⟩
abbrev cX6_weighSand : ByteArray := prog_8_method_15_code
def yX6_weighSand : MethodName := ⟨RX6, "weighSand", "(LTwelveCars$Balance;)V"⟩
abbrev cX6_weighRiders : ByteArray := prog_8_method_16_code
def yX6_weighRiders : MethodName := ⟨RX6, "weighRiders", "(LTwelveCars$Balance;)V"⟩
abbrev cX6_weighAll : ByteArray := prog_8_method_17_code
def yX6_weighAll : MethodName := ⟨RX6, "weighAll", "(LTwelveCars$Balance;)V"⟩
abbrev cX6_hangThese : ByteArray := prog_8_method_18_code
def yX6_hangThese : MethodName := ⟨RX6, "hangThese", "(ILTwelveCars$Balance;)V"⟩
abbrev cX6_mayGetIn : ByteArray := prog_8_method_19_code
def yX6_mayGetIn : MethodName := ⟨RX6, "mayGetIn", "(ILTwelveCars$Balance;)Z"⟩
abbrev cX6_mayGetOut : ByteArray := prog_8_method_20_code
def yX6_mayGetOut : MethodName := ⟨RX6, "mayGetOut", "(ILTwelveCars$Balance;)Z"⟩
abbrev cX6_mayHaveSand : ByteArray := prog_8_method_21_code
def yX6_mayHaveSand : MethodName := ⟨RX6, "mayHaveSand", "(ILTwelveCars$Balance;)Z"⟩
abbrev cX6_getIn : ByteArray := prog_8_method_22_code
def yX6_getIn : MethodName := ⟨RX6, "getIn", "(I)V"⟩
abbrev cX6_getOut : ByteArray := prog_8_method_23_code
def yX6_getOut : MethodName := ⟨RX6, "getOut", "(I)V"⟩
def RX7 : String := "TwelveCars"
def TX7 : u_T := fun k => match k with
  | 0 => ("TwelveCars", "wheel", "LTwelveCars$Wheel;", true)
  | 1 => ("TwelveCars", "kept", "LTwelveCars$Wheel;", true)
  | 2 => ("TwelveCars", "tape", "LTwelveCars$Tape;", true)
  | 3 => ("TwelveCars", "allIn", "LTwelveCars$AllIn;", true)
  | 4 => ("TwelveCars", "allOut", "LTwelveCars$AllOut;", true)
  | 5 => ("TwelveCars", "slips", "LTwelveCars$Slips;", true)
  | 6 => ("TwelveCars", "trial", "LTwelveCars$Balance;", true)
  | 7 => ("TwelveCars", "sheets", "[LTwelveCars$Sheet;", true)
  | 8 => ("TwelveCars", "poured", "[I", true)
  | _ => ("TwelveCars", "hasImage", "Z", false)
def tyX7 : Nat → FieldType := fun k => match k with
  | 0 => .object "TwelveCars$Wheel"
  | 1 => .object "TwelveCars$Wheel"
  | 2 => .object "TwelveCars$Tape"
  | 3 => .object "TwelveCars$AllIn"
  | 4 => .object "TwelveCars$AllOut"
  | 5 => .object "TwelveCars$Slips"
  | 6 => .object "TwelveCars$Balance"
  | 7 => .array (.object "TwelveCars$Sheet")
  | 8 => .array .int
  | _ => .boolean
abbrev wsX70 : List Cond := u_ws RX7 TX7 10
theorem nmX7 : ∀ a, a < 10 → ∀ b, b < 10 → a ≠ b → (TX7 a).2.1 ≠ (TX7 b).2.1 := by decide +kernel
theorem tyX7_ok : ∀ k, k < 10 → parseFieldDescriptor (TX7 k).2.2.1 = some (tyX7 k) := by decide +kernel
abbrev cX7_init : ByteArray := prog_1_method_1_code
def yX7_init : MethodName := ⟨RX7, "<init>", "()V"⟩
abbrev cX7_person : ByteArray := prog_1_method_2_code
def yX7_person : MethodName := ⟨RX7, "person", "(II)I"⟩
abbrev cX7_told : ByteArray := prog_1_method_3_code
def yX7_told : MethodName := ⟨RX7, "told", "(II)I"⟩
abbrev cX7_car : ByteArray := prog_1_method_4_code
def yX7_car : MethodName := ⟨RX7, "car", "(II)I"⟩
abbrev cX7_limit : ByteArray := prog_1_method_5_code
def yX7_limit : MethodName := ⟨RX7, "limit", "(I)I"⟩
abbrev cX7_out : ByteArray := prog_1_method_6_code
def yX7_out : MethodName := ⟨RX7, "out", "(I)I"⟩
abbrev cX7_type : ByteArray := prog_1_method_7_code
def yX7_type : MethodName := ⟨RX7, "type", "(JI)I"⟩
abbrev cX7_people : ByteArray := prog_1_method_8_code
def yX7_people : MethodName := ⟨RX7, "people", "()I"⟩
abbrev cX7_evening : ByteArray := prog_1_method_9_code
def yX7_evening : MethodName := ⟨RX7, "evening", "()I"⟩
abbrev cX7_count : ByteArray := prog_1_method_10_code
def yX7_count : MethodName := ⟨RX7, "count", "(I)I"⟩
abbrev cX7_board : ByteArray := prog_1_method_11_code
def yX7_board : MethodName := ⟨RX7, "board", "(I)I"⟩
abbrev cX7_leave : ByteArray := prog_1_method_12_code
def yX7_leave : MethodName := ⟨RX7, "leave", "(I)I"⟩
abbrev cX7_sand : ByteArray := prog_1_method_13_code
def yX7_sand : MethodName := ⟨RX7, "sand", "(I)I"⟩
abbrev cX7_turn : ByteArray := prog_1_method_14_code
def yX7_turn : MethodName := ⟨RX7, "turn", "(I)I"⟩
abbrev cX7_may : ByteArray := prog_1_method_15_code
def yX7_may : MethodName := ⟨RX7, "may", "(I)I"⟩
abbrev cX7_soonest : ByteArray := prog_1_method_16_code
def yX7_soonest : MethodName := ⟨RX7, "soonest", "(II)I"⟩
abbrev cX7_when : ByteArray := prog_1_method_17_code
def yX7_when : MethodName := ⟨RX7, "when", "(III)I"⟩
abbrev cX7_empty : ByteArray := prog_1_method_18_code
def yX7_empty : MethodName := ⟨RX7, "empty", "()I"⟩
abbrev cX7_least : ByteArray := prog_1_method_19_code
def yX7_least : MethodName := ⟨RX7, "least", "(II)I"⟩
abbrev cX7_sure : ByteArray := prog_1_method_20_code
def yX7_sure : MethodName := ⟨RX7, "sure", "(I)I"⟩
abbrev cX7_worst : ByteArray := prog_1_method_21_code
def yX7_worst : MethodName := ⟨RX7, "worst", "(II)I"⟩
abbrev cX7_image : ByteArray := prog_1_method_22_code
def yX7_image : MethodName := ⟨RX7, "image", "()I"⟩
abbrev cX7_restore : ByteArray := prog_1_method_23_code
def yX7_restore : MethodName := ⟨RX7, "restore", "()I"⟩
abbrev cX7_pour : ByteArray := prog_1_method_24_code
def yX7_pour : MethodName := ⟨RX7, "pour", "(III)I"⟩
abbrev cX7_film : ByteArray := prog_1_method_25_code
def yX7_film : MethodName := ⟨RX7, "film", "(III)I"⟩
abbrev cX7_sheet : ByteArray := prog_1_method_26_code
def yX7_sheet : MethodName := ⟨RX7, "sheet", "(III)I"⟩
abbrev cX7_drop : ByteArray := prog_1_method_27_code
def yX7_drop : MethodName := ⟨RX7, "drop", "(I)I"⟩
abbrev cX7_item : ByteArray := prog_1_method_28_code
def yX7_item : MethodName := ⟨RX7, "item", "(IIII)I"⟩
abbrev cX7_copy : ByteArray := prog_1_method_29_code
def yX7_copy : MethodName := ⟨RX7, "copy", "(IIIII)I"⟩
abbrev cX7_byteOf : ByteArray := prog_1_method_30_code
def yX7_byteOf : MethodName := ⟨RX7, "byteOf", "(JI)I"⟩
abbrev cX7_happens : ByteArray := prog_1_method_31_code
def yX7_happens : MethodName := ⟨RX7, "happens", "(II)Z"⟩
abbrev cX7_canBeAskedFor : ByteArray := prog_1_method_32_code
def yX7_canBeAskedFor : MethodName := ⟨RX7, "canBeAskedFor", "(II)Z"⟩
abbrev cX7_helpsBySand : ByteArray := prog_1_method_33_code
def yX7_helpsBySand : MethodName := ⟨RX7, "helpsBySand", "(II)Z"⟩
abbrev cX7_isSheet : ByteArray := prog_1_method_34_code
def yX7_isSheet : MethodName := ⟨RX7, "isSheet", "(I)Z"⟩
abbrev cX7_refusalOfRow : ByteArray := prog_1_method_35_code
def yX7_refusalOfRow : MethodName := ⟨RX7, "refusalOfRow", "(IIII)I"⟩
def RX8 : String := "TwelveCarsModel"
def TX8 : u_T := fun k => match k with
  | 0 => ("TwelveCarsModel", "kinds", "[I", true)
  | 1 => ("TwelveCarsModel", "weights", "[I", true)
  | 2 => ("TwelveCarsModel", "cars", "[I", true)
  | 3 => ("TwelveCarsModel", "since", "[I", true)
  | 4 => ("TwelveCarsModel", "many", "I", false)
  | 5 => ("TwelveCarsModel", "sand", "[I", true)
  | 6 => ("TwelveCarsModel", "limit", "I", false)
  | 7 => ("TwelveCarsModel", "minute", "I", false)
  | 8 => ("TwelveCarsModel", "foot", "I", false)
  | 9 => ("TwelveCarsModel", "loads", "[I", true)
  | 10 => ("TwelveCarsModel", "p", "I", false)
  | 11 => ("TwelveCarsModel", "q", "I", false)
  | 12 => ("TwelveCarsModel", "s", "I", false)
  | 13 => ("TwelveCarsModel", "t", "I", false)
  | 14 => ("TwelveCarsModel", "squareA", "J", false)
  | 15 => ("TwelveCarsModel", "squareB", "J", false)
  | 16 => ("TwelveCarsModel", "tape", "[I", true)
  | 17 => ("TwelveCarsModel", "taped", "I", false)
  | 18 => ("TwelveCarsModel", "place", "I", false)
  | 19 => ("TwelveCarsModel", "reads", "I", false)
  | 20 => ("TwelveCarsModel", "read", "[I", true)
  | 21 => ("TwelveCarsModel", "who", "[I", true)
  | 22 => ("TwelveCarsModel", "times", "[I", true)
  | 23 => ("TwelveCarsModel", "first", "[I", true)
  | 24 => ("TwelveCarsModel", "whoMany", "I", false)
  | 25 => ("TwelveCarsModel", "can", "[Z", true)
  | 26 => ("TwelveCarsModel", "then", "[Z", true)
  | 27 => ("TwelveCarsModel", "worstA", "J", false)
  | 28 => ("TwelveCarsModel", "worstB", "J", false)
  | 29 => ("TwelveCarsModel", "isKept", "Z", false)
  | 30 => ("TwelveCarsModel", "kept", "[I", true)
  | 31 => ("TwelveCarsModel", "lanes", "[I", true)
  | 32 => ("TwelveCarsModel", "rowSizes", "[I", true)
  | 33 => ("TwelveCarsModel", "items", "[I", true)
  | _ => ("TwelveCarsModel", "moved", "[I", true)
def tyX8 : Nat → FieldType := fun k => match k with
  | 0 => .array .int
  | 1 => .array .int
  | 2 => .array .int
  | 3 => .array .int
  | 4 => .int
  | 5 => .array .int
  | 6 => .int
  | 7 => .int
  | 8 => .int
  | 9 => .array .int
  | 10 => .int
  | 11 => .int
  | 12 => .int
  | 13 => .int
  | 14 => .long
  | 15 => .long
  | 16 => .array .int
  | 17 => .int
  | 18 => .int
  | 19 => .int
  | 20 => .array .int
  | 21 => .array .int
  | 22 => .array .int
  | 23 => .array .int
  | 24 => .int
  | 25 => .array .boolean
  | 26 => .array .boolean
  | 27 => .long
  | 28 => .long
  | 29 => .boolean
  | 30 => .array .int
  | 31 => .array .int
  | 32 => .array .int
  | 33 => .array .int
  | _ => .array .int
abbrev wsX80 : List Cond := u_ws RX8 TX8 35
theorem nmX8 : ∀ a, a < 35 → ∀ b, b < 35 → a ≠ b → (TX8 a).2.1 ≠ (TX8 b).2.1 := by decide +kernel
theorem tyX8_ok : ∀ k, k < 35 → parseFieldDescriptor (TX8 k).2.2.1 = some (tyX8 k) := by decide +kernel
abbrev cX8_init : ByteArray := prog_10_method_1_code
def yX8_init : MethodName := ⟨RX8, "<init>", "()V"⟩
abbrev cX8_in : ByteArray := prog_10_method_2_code
def yX8_in : MethodName := ⟨RX8, "in", "(JJJ)Z"⟩
abbrev cX8_has : ByteArray := prog_10_method_3_code
def yX8_has : MethodName := ⟨RX8, "has", "(II)Z"⟩
abbrev cX8_isOne : ByteArray := prog_10_method_4_code
def yX8_isOne : MethodName := ⟨RX8, "isOne", "(I)Z"⟩
abbrev cX8_isCar : ByteArray := prog_10_method_5_code
def yX8_isCar : MethodName := ⟨RX8, "isCar", "(I)Z"⟩
abbrev cX8_add : ByteArray := prog_10_method_6_code
def yX8_add : MethodName := ⟨RX8, "add", "(II)V"⟩
abbrev cX8_person : ByteArray := prog_10_method_7_code
def yX8_person : MethodName := ⟨RX8, "person", "(II)I"⟩
abbrev cX8_told : ByteArray := prog_10_method_8_code
def yX8_told : MethodName := ⟨RX8, "told", "(II)I"⟩
abbrev cX8_whoIn : ByteArray := prog_10_method_9_code
def yX8_whoIn : MethodName := ⟨RX8, "whoIn", "(I)I"⟩
abbrev cX8_seatsOf : ByteArray := prog_10_method_10_code
def yX8_seatsOf : MethodName := ⟨RX8, "seatsOf", "(I)I"⟩
abbrev cX8_weightOf : ByteArray := prog_10_method_11_code
def yX8_weightOf : MethodName := ⟨RX8, "weightOf", "(I)I"⟩
abbrev cX8_fits : ByteArray := prog_10_method_12_code
def yX8_fits : MethodName := ⟨RX8, "fits", "(I)Z"⟩
abbrev cX8_car : ByteArray := prog_10_method_13_code
def yX8_car : MethodName := ⟨RX8, "car", "(II)I"⟩
abbrev cX8_findLoads : ByteArray := prog_10_method_14_code
def yX8_findLoads : MethodName := ⟨RX8, "findLoads", "()V"⟩
abbrev cX8_cosine : ByteArray := prog_10_method_15_code
def yX8_cosine : MethodName := ⟨RX8, "cosine", "(II)I"⟩
abbrev cX8_findSquare : ByteArray := prog_10_method_16_code
def yX8_findSquare : MethodName := ⟨RX8, "findSquare", "()V"⟩
abbrev cX8_isNoMore : ByteArray := prog_10_method_17_code
def yX8_isNoMore : MethodName := ⟨RX8, "isNoMore", "(JJ)Z"⟩
abbrev cX8_isEvenNow : ByteArray := prog_10_method_18_code
def yX8_isEvenNow : MethodName := ⟨RX8, "isEvenNow", "()Z"⟩
abbrev cX8_isEven : ByteArray := prog_10_method_19_code
def yX8_isEven : MethodName := ⟨RX8, "isEven", "()Z"⟩
abbrev cX8_limit : ByteArray := prog_10_method_20_code
def yX8_limit : MethodName := ⟨RX8, "limit", "(I)I"⟩
abbrev cX8_out : ByteArray := prog_10_method_21_code
def yX8_out : MethodName := ⟨RX8, "out", "(I)I"⟩
abbrev cX8_count : ByteArray := prog_10_method_22_code
def yX8_count : MethodName := ⟨RX8, "count", "(I)I"⟩
abbrev cX8_type : ByteArray := prog_10_method_23_code
def yX8_type : MethodName := ⟨RX8, "type", "(JI)I"⟩
abbrev cX8_nextByte : ByteArray := prog_10_method_24_code
def yX8_nextByte : MethodName := ⟨RX8, "nextByte", "()I"⟩
abbrev cX8_readNumber : ByteArray := prog_10_method_25_code
def yX8_readNumber : MethodName := ⟨RX8, "readNumber", "(II)I"⟩
abbrev cX8_readOne : ByteArray := prog_10_method_26_code
def yX8_readOne : MethodName := ⟨RX8, "readOne", "(I)Z"⟩
abbrev cX8_readPeople : ByteArray := prog_10_method_27_code
def yX8_readPeople : MethodName := ⟨RX8, "readPeople", "()Z"⟩
abbrev cX8_people : ByteArray := prog_10_method_28_code
def yX8_people : MethodName := ⟨RX8, "people", "()I"⟩
abbrev cX8_readAct : ByteArray := prog_10_method_29_code
def yX8_readAct : MethodName := ⟨RX8, "readAct", "(I)Z"⟩
abbrev cX8_readEvening : ByteArray := prog_10_method_30_code
def yX8_readEvening : MethodName := ⟨RX8, "readEvening", "()Z"⟩
abbrev cX8_does : ByteArray := prog_10_method_31_code
def yX8_does : MethodName := ⟨RX8, "does", "(I)Z"⟩
abbrev cX8_evening : ByteArray := prog_10_method_32_code
def yX8_evening : MethodName := ⟨RX8, "evening", "()I"⟩
abbrev cX8_mayBoard : ByteArray := prog_10_method_33_code
def yX8_mayBoard : MethodName := ⟨RX8, "mayBoard", "(I)Z"⟩
abbrev cX8_mayLeave : ByteArray := prog_10_method_34_code
def yX8_mayLeave : MethodName := ⟨RX8, "mayLeave", "(I)Z"⟩
abbrev cX8_board : ByteArray := prog_10_method_35_code
def yX8_board : MethodName := ⟨RX8, "board", "(I)I"⟩
abbrev cX8_leave : ByteArray := prog_10_method_36_code
def yX8_leave : MethodName := ⟨RX8, "leave", "(I)I"⟩
abbrev cX8_sand : ByteArray := prog_10_method_37_code
def yX8_sand : MethodName := ⟨RX8, "sand", "(I)I"⟩
abbrev cX8_turn : ByteArray := prog_10_method_38_code
def yX8_turn : MethodName := ⟨RX8, "turn", "(I)I"⟩
abbrev cX8_may : ByteArray := prog_10_method_39_code
def yX8_may : MethodName := ⟨RX8, "may", "(I)I"⟩
abbrev cX8_ones : ByteArray := prog_10_method_40_code
def yX8_ones : MethodName := ⟨RX8, "ones", "(I)I"⟩
abbrev cX8_isAllIn : ByteArray := prog_10_method_41_code
def yX8_isAllIn : MethodName := ⟨RX8, "isAllIn", "(II)Z"⟩
abbrev cX8_areSo : ByteArray := prog_10_method_42_code
def yX8_areSo : MethodName := ⟨RX8, "areSo", "(I)Z"⟩
abbrev cX8_canBoard : ByteArray := prog_10_method_43_code
def yX8_canBoard : MethodName := ⟨RX8, "canBoard", "()Z"⟩
abbrev cX8_nextTimes : ByteArray := prog_10_method_44_code
def yX8_nextTimes : MethodName := ⟨RX8, "nextTimes", "()Z"⟩
abbrev cX8_findSoonest : ByteArray := prog_10_method_45_code
def yX8_findSoonest : MethodName := ⟨RX8, "findSoonest", "(II)I"⟩
abbrev cX8_soonest : ByteArray := prog_10_method_46_code
def yX8_soonest : MethodName := ⟨RX8, "soonest", "(II)I"⟩
abbrev cX8_when : ByteArray := prog_10_method_47_code
def yX8_when : MethodName := ⟨RX8, "when", "(III)I"⟩
abbrev cX8_isEvenWith : ByteArray := prog_10_method_48_code
def yX8_isEvenWith : MethodName := ⟨RX8, "isEvenWith", "(I)Z"⟩
abbrev cX8_empty : ByteArray := prog_10_method_49_code
def yX8_empty : MethodName := ⟨RX8, "empty", "()I"⟩
abbrev cX8_getOut : ByteArray := prog_10_method_50_code
def yX8_getOut : MethodName := ⟨RX8, "getOut", "(I)V"⟩
abbrev cX8_least : ByteArray := prog_10_method_51_code
def yX8_least : MethodName := ⟨RX8, "least", "(II)I"⟩
abbrev cX8_findWorst : ByteArray := prog_10_method_52_code
def yX8_findWorst : MethodName := ⟨RX8, "findWorst", "(I)V"⟩
abbrev cX8_sure : ByteArray := prog_10_method_53_code
def yX8_sure : MethodName := ⟨RX8, "sure", "(I)I"⟩
abbrev cX8_worst : ByteArray := prog_10_method_54_code
def yX8_worst : MethodName := ⟨RX8, "worst", "(II)I"⟩
abbrev cX8_carried : ByteArray := prog_10_method_55_code
def yX8_carried : MethodName := ⟨RX8, "carried", "(IIZ)I"⟩
abbrev cX8_image : ByteArray := prog_10_method_56_code
def yX8_image : MethodName := ⟨RX8, "image", "()I"⟩
abbrev cX8_restore : ByteArray := prog_10_method_57_code
def yX8_restore : MethodName := ⟨RX8, "restore", "()I"⟩
abbrev cX8_isSheet : ByteArray := prog_10_method_58_code
def yX8_isSheet : MethodName := ⟨RX8, "isSheet", "(II)Z"⟩
abbrev cX8_asLane : ByteArray := prog_10_method_59_code
def yX8_asLane : MethodName := ⟨RX8, "asLane", "(II)I"⟩
abbrev cX8_sheet : ByteArray := prog_10_method_60_code
def yX8_sheet : MethodName := ⟨RX8, "sheet", "(III)I"⟩
abbrev cX8_drop : ByteArray := prog_10_method_61_code
def yX8_drop : MethodName := ⟨RX8, "drop", "(I)I"⟩
abbrev cX8_lacksRow : ByteArray := prog_10_method_62_code
def yX8_lacksRow : MethodName := ⟨RX8, "lacksRow", "(IIII)I"⟩
abbrev cX8_item : ByteArray := prog_10_method_63_code
def yX8_item : MethodName := ⟨RX8, "item", "(IIII)I"⟩
abbrev cX8_pour : ByteArray := prog_10_method_64_code
def yX8_pour : MethodName := ⟨RX8, "pour", "(III)I"⟩
abbrev cX8_film : ByteArray := prog_10_method_65_code
def yX8_film : MethodName := ⟨RX8, "film", "(III)I"⟩
abbrev cX8_copy : ByteArray := prog_10_method_66_code
def yX8_copy : MethodName := ⟨RX8, "copy", "(IIIII)I"⟩
def RJ11 : String := "java/lang/Character"
def TJ11 : u_T := fun k => match k with
  | _ => ("", "", "", false)
def tyJ11 : Nat → FieldType := fun k => match k with
  | _ => .int
abbrev wsJ110 : List Cond := u_ws RJ11 TJ11 0
theorem nmJ11 : ∀ a, a < 0 → ∀ b, b < 0 → a ≠ b → (TJ11 a).2.1 ≠ (TJ11 b).2.1 := by decide +kernel
theorem tyJ11_ok : ∀ k, k < 0 → parseFieldDescriptor (TJ11 k).2.2.1 = some (tyJ11 k) := by decide +kernel
abbrev cJ11_isValidCodePoint_9a6ad : ByteArray := prog_11_method_11_code
def yJ11_isValidCodePoint_9a6ad : MethodName := ⟨RJ11, "isValidCodePoint", "(I)Z"⟩
abbrev cJ11_highSurrogate_5068e : ByteArray := prog_11_method_28_code
def yJ11_highSurrogate_5068e : MethodName := ⟨RJ11, "highSurrogate", "(I)C"⟩
abbrev cJ11_lowSurrogate_5068e : ByteArray := prog_11_method_29_code
def yJ11_lowSurrogate_5068e : MethodName := ⟨RJ11, "lowSurrogate", "(I)C"⟩
def RJ6 : String := "java/lang/Integer"
def TJ6 : u_T := fun k => match k with
  | _ => ("", "", "", false)
def tyJ6 : Nat → FieldType := fun k => match k with
  | _ => .int
abbrev wsJ60 : List Cond := u_ws RJ6 TJ6 0
theorem nmJ6 : ∀ a, a < 0 → ∀ b, b < 0 → a ≠ b → (TJ6 a).2.1 ≠ (TJ6 b).2.1 := by decide +kernel
theorem tyJ6_ok : ∀ k, k < 0 → parseFieldDescriptor (TJ6 k).2.2.1 = some (tyJ6 k) := by decide +kernel
abbrev cJ6_bitCount_0f7a4 : ByteArray := prog_12_method_49_code
def yJ6_bitCount_0f7a4 : MethodName := ⟨RJ6, "bitCount", "(I)I"⟩
def RJ9 : String := "java/lang/Math"
def TJ9 : u_T := fun k => match k with
  | _ => ("", "", "", false)
def tyJ9 : Nat → FieldType := fun k => match k with
  | _ => .int
abbrev wsJ90 : List Cond := u_ws RJ9 TJ9 0
theorem nmJ9 : ∀ a, a < 0 → ∀ b, b < 0 → a ≠ b → (TJ9 a).2.1 ≠ (TJ9 b).2.1 := by decide +kernel
theorem tyJ9_ok : ∀ k, k < 0 → parseFieldDescriptor (TJ9 k).2.2.1 = some (tyJ9 k) := by decide +kernel
abbrev cJ9_max_7cf53 : ByteArray := prog_13_method_65_code
def yJ9_max_7cf53 : MethodName := ⟨RJ9, "max", "(II)I"⟩
abbrev cJ9_min_7cf53 : ByteArray := prog_13_method_69_code
def yJ9_min_7cf53 : MethodName := ⟨RJ9, "min", "(II)I"⟩
def RJ0 : String := "java/lang/String"
def TJ0 : u_T := fun k => match k with
  | _ => ("", "", "", false)
def tyJ0 : Nat → FieldType := fun k => match k with
  | _ => .int
abbrev wsJ00 : List Cond := u_ws RJ0 TJ0 0
theorem nmJ0 : ∀ a, a < 0 → ∀ b, b < 0 → a ≠ b → (TJ0 a).2.1 ≠ (TJ0 b).2.1 := by decide +kernel
theorem tyJ0_ok : ∀ k, k < 0 → parseFieldDescriptor (TJ0 k).2.2.1 = some (tyJ0 k) := by decide +kernel
abbrev cJ0_length_8abf5 : ByteArray := prog_14_method_54_code
def yJ0_length_8abf5 : MethodName := ⟨RJ0, "length", "()I"⟩
abbrev cJ0_indexOf_0f7a4 : ByteArray := prog_14_method_79_code
def yJ0_indexOf_0f7a4 : MethodName := ⟨RJ0, "indexOf", "(I)I"⟩
abbrev cJ0_indexOf_7cf53 : ByteArray := prog_14_method_80_code
def yJ0_indexOf_7cf53 : MethodName := ⟨RJ0, "indexOf", "(II)I"⟩
abbrev cJ0_coder_7d493 : ByteArray := prog_14_method_152_code
def yJ0_coder_7d493 : MethodName := ⟨RJ0, "coder", "()B"⟩
abbrev cJ0_isLatin1_aae02 : ByteArray := prog_14_method_154_code
def yJ0_isLatin1_aae02 : MethodName := ⟨RJ0, "isLatin1", "()Z"⟩
abbrev cJ0_checkBoundsBeginEnd_23922 : ByteArray := prog_14_method_158_code
def yJ0_checkBoundsBeginEnd_23922 : MethodName := ⟨RJ0, "checkBoundsBeginEnd", "(III)V"⟩
def RJ1 : String := "java/lang/StringLatin1"
def TJ1 : u_T := fun k => match k with
  | _ => ("", "", "", false)
def tyJ1 : Nat → FieldType := fun k => match k with
  | _ => .int
abbrev wsJ10 : List Cond := u_ws RJ1 TJ1 0
theorem nmJ1 : ∀ a, a < 0 → ∀ b, b < 0 → a ≠ b → (TJ1 a).2.1 ≠ (TJ1 b).2.1 := by decide +kernel
theorem tyJ1_ok : ∀ k, k < 0 → parseFieldDescriptor (TJ1 k).2.2.1 = some (tyJ1 k) := by decide +kernel
abbrev cJ1_canEncode_9a6ad : ByteArray := prog_15_method_4_code
def yJ1_canEncode_9a6ad : MethodName := ⟨RJ1, "canEncode", "(I)Z"⟩
abbrev cJ1_indexOf_4cfef : ByteArray := prog_15_method_22_code
def yJ1_indexOf_4cfef : MethodName := ⟨RJ1, "indexOf", "([BIII)I"⟩
abbrev cJ1_indexOfChar_4cfef : ByteArray := prog_15_method_23_code
def yJ1_indexOfChar_4cfef : MethodName := ⟨RJ1, "indexOfChar", "([BIII)I"⟩
def RJ2 : String := "java/lang/StringUTF16"
def TJ2 : u_T := fun k => match k with
  | _ => ("", "", "", false)
def tyJ2 : Nat → FieldType := fun k => match k with
  | _ => .int
abbrev wsJ20 : List Cond := u_ws RJ2 TJ2 0
theorem nmJ2 : ∀ a, a < 0 → ∀ b, b < 0 → a ≠ b → (TJ2 a).2.1 ≠ (TJ2 b).2.1 := by decide +kernel
theorem tyJ2_ok : ∀ k, k < 0 → parseFieldDescriptor (TJ2 k).2.2.1 = some (tyJ2 k) := by decide +kernel
abbrev cJ2_getChar_3b067 : ByteArray := prog_16_method_5_code
def yJ2_getChar_3b067 : MethodName := ⟨RJ2, "getChar", "([BI)C"⟩
abbrev cJ2_length_9d52b : ByteArray := prog_16_method_6_code
def yJ2_length_9d52b : MethodName := ⟨RJ2, "length", "([B)I"⟩
abbrev cJ2_indexOf_4cfef : ByteArray := prog_16_method_40_code
def yJ2_indexOf_4cfef : MethodName := ⟨RJ2, "indexOf", "([BIII)I"⟩
abbrev cJ2_indexOfChar_4cfef : ByteArray := prog_16_method_47_code
def yJ2_indexOfChar_4cfef : MethodName := ⟨RJ2, "indexOfChar", "([BIII)I"⟩
abbrev cJ2_indexOfCharUnsafe_4cfef : ByteArray := prog_16_method_48_code
def yJ2_indexOfCharUnsafe_4cfef : MethodName := ⟨RJ2, "indexOfCharUnsafe", "([BIII)I"⟩
abbrev cJ2_indexOfSupplementary_4cfef : ByteArray := prog_16_method_49_code
def yJ2_indexOfSupplementary_4cfef : MethodName := ⟨RJ2, "indexOfSupplementary", "([BIII)I"⟩
abbrev cJ2_checkBoundsBeginEnd_d044e : ByteArray := prog_16_method_93_code
def yJ2_checkBoundsBeginEnd_d044e : MethodName := ⟨RJ2, "checkBoundsBeginEnd", "(II[B)V"⟩
def RJ10 : String := "java/lang/System"
def TJ10 : u_T := fun k => match k with
  | _ => ("", "", "", false)
def tyJ10 : Nat → FieldType := fun k => match k with
  | _ => .int
abbrev wsJ100 : List Cond := u_ws RJ10 TJ10 0
theorem nmJ10 : ∀ a, a < 0 → ∀ b, b < 0 → a ≠ b → (TJ10 a).2.1 ≠ (TJ10 b).2.1 := by decide +kernel
theorem tyJ10_ok : ∀ k, k < 0 → parseFieldDescriptor (TJ10 k).2.2.1 = some (tyJ10 k) := by decide +kernel
def RJ3 : String := "jdk/internal/util/Preconditions"
def TJ3 : u_T := fun k => match k with
  | _ => ("", "", "", false)
def tyJ3 : Nat → FieldType := fun k => match k with
  | _ => .int
abbrev wsJ30 : List Cond := u_ws RJ3 TJ3 0
theorem nmJ3 : ∀ a, a < 0 → ∀ b, b < 0 → a ≠ b → (TJ3 a).2.1 ≠ (TJ3 b).2.1 := by decide +kernel
theorem tyJ3_ok : ∀ k, k < 0 → parseFieldDescriptor (TJ3 k).2.2.1 = some (tyJ3 k) := by decide +kernel
abbrev cJ3_checkFromToIndex_8c36e : ByteArray := prog_18_method_12_code
def yJ3_checkFromToIndex_8c36e : MethodName := ⟨RJ3, "checkFromToIndex", "(IIILjava/util/function/BiFunction;)I"⟩
def RL : String := "TwelveCarsLaw"
abbrev cL_law : ByteArray := code
def yL_law : MethodName := ⟨RL, "law", "([I)Z"⟩
abbrev vwCl : List vw_C := [(RX0, TX0, 5), (RX1, TX1, 4), (RX2, TX2, 4), (RX3, TX3, 4), (RX4, TX4, 5), (RX5, TX5, 5), (RX6, TX6, 8), (RX7, TX7, 10), (RX8, TX8, 35)]
/-- the words that go along at every call -/
def wsG : List Cond := lw_tbl.filter goodWord
theorem wsG_good : ∀ w ∈ wsG, goodWord w = true := fun w h => (List.mem_filter.mp h).2
theorem wsG_tbl : ∀ w ∈ wsG, w ∈ lw_tbl := fun w h => (List.mem_filter.mp h).1
theorem wsG_in {w : Cond} (i : Nat) (h : tables_1[i]? = some w) (g : goodWord w = true) : w ∈ wsG := List.mem_filter.mpr ⟨List.mem_append_right _ (List.mem_of_getElem? h), g⟩
theorem wsG_sel {w : Cond} (i : Nat) (h : (k2_sels lw_privs)[i]? = some w) (g : goodWord w = true) : w ∈ wsG := List.mem_filter.mpr ⟨List.mem_append_left _ (List.mem_of_getElem? h), g⟩
theorem lw_in {w : Cond} (i : Nat) (h : tables_1[i]? = some w) : w ∈ lw_tbl := List.mem_append_right _ (List.mem_of_getElem? h)
theorem inX0 : ∀ w ∈ wsX00, w ∈ wsG := by decide +kernel
theorem inX1 : ∀ w ∈ wsX10, w ∈ wsG := by decide +kernel
theorem inX2 : ∀ w ∈ wsX20, w ∈ wsG := by decide +kernel
theorem inX3 : ∀ w ∈ wsX30, w ∈ wsG := by decide +kernel
theorem inX4 : ∀ w ∈ wsX40, w ∈ wsG := by decide +kernel
theorem inX5 : ∀ w ∈ wsX50, w ∈ wsG := by decide +kernel
theorem inX6 : ∀ w ∈ wsX60, w ∈ wsG := by decide +kernel
theorem inX7 : ∀ w ∈ wsX70, w ∈ wsG := by decide +kernel
theorem inX8 : ∀ w ∈ wsX80, w ∈ wsG := by decide +kernel
