section
-- ===== PART A: goes FIRST, ahead of the names: the tables' words, and 'selects' of the private methods out of them =====
/-- a private method of a class that the tables say can be made, by its rows of tables_1 -/
def lw_okq (q : MethodName × Nat) : Prop := (q.1.cls ≠ "java/lang/invoke/MethodHandle" ∧ q.1.cls ≠ "java/lang/invoke/VarHandle") ∧ Cond.instantiable q.1.cls q.2 ∈ tables_1 ∧ Cond.privateMethod q.1 ∈ tables_1 ∧ Cond.instanceMethod q.1 ∈ tables_1
theorem lw_p0 : lw_okq (⟨"TwelveCars$Tape", "readEntries", "(Ljava/lang/String;CI)I"⟩, 5) := ⟨⟨by decide +kernel, by decide +kernel⟩, List.mem_of_getElem? (i := 71) (by decide +kernel), List.mem_of_getElem? (i := 368) (by decide +kernel), List.mem_of_getElem? (i := 369) (by decide +kernel)⟩
theorem lw_p1 : lw_okq (⟨"TwelveCars$Tape", "readLetter", "(Ljava/lang/String;I)I"⟩, 5) := ⟨⟨by decide +kernel, by decide +kernel⟩, List.mem_of_getElem? (i := 71) (by decide +kernel), List.mem_of_getElem? (i := 372) (by decide +kernel), List.mem_of_getElem? (i := 373) (by decide +kernel)⟩
theorem lw_p2 : lw_okq (⟨"TwelveCars$Tape", "next", "()I"⟩, 5) := ⟨⟨by decide +kernel, by decide +kernel⟩, List.mem_of_getElem? (i := 71) (by decide +kernel), List.mem_of_getElem? (i := 376) (by decide +kernel), List.mem_of_getElem? (i := 377) (by decide +kernel)⟩
theorem lw_p3 : lw_okq (⟨"TwelveCars$Tape", "readNumber", "(III)I"⟩, 5) := ⟨⟨by decide +kernel, by decide +kernel⟩, List.mem_of_getElem? (i := 71) (by decide +kernel), List.mem_of_getElem? (i := 469) (by decide +kernel), List.mem_of_getElem? (i := 470) (by decide +kernel)⟩
theorem lw_p4 : lw_okq (⟨"TwelveCars$Tape", "readWhatFollows", "(I)I"⟩, 5) := ⟨⟨by decide +kernel, by decide +kernel⟩, List.mem_of_getElem? (i := 71) (by decide +kernel), List.mem_of_getElem? (i := 477) (by decide +kernel), List.mem_of_getElem? (i := 478) (by decide +kernel)⟩
theorem lw_p5 : lw_okq (⟨"TwelveCars$Tape", "readDigit", "(I)I"⟩, 5) := ⟨⟨by decide +kernel, by decide +kernel⟩, List.mem_of_getElem? (i := 71) (by decide +kernel), List.mem_of_getElem? (i := 481) (by decide +kernel), List.mem_of_getElem? (i := 482) (by decide +kernel)⟩
theorem lw_p6 : lw_okq (⟨"TwelveCars", "happens", "(II)Z"⟩, 10) := ⟨⟨by decide +kernel, by decide +kernel⟩, List.mem_of_getElem? (i := 19) (by decide +kernel), List.mem_of_getElem? (i := 495) (by decide +kernel), List.mem_of_getElem? (i := 496) (by decide +kernel)⟩
theorem lw_p7 : lw_okq (⟨"TwelveCars", "canBeAskedFor", "(II)Z"⟩, 10) := ⟨⟨by decide +kernel, by decide +kernel⟩, List.mem_of_getElem? (i := 19) (by decide +kernel), List.mem_of_getElem? (i := 576) (by decide +kernel), List.mem_of_getElem? (i := 577) (by decide +kernel)⟩
theorem lw_p8 : lw_okq (⟨"TwelveCars$AllIn", "goOn", "(III)V"⟩, 5) := ⟨⟨by decide +kernel, by decide +kernel⟩, List.mem_of_getElem? (i := 97) (by decide +kernel), List.mem_of_getElem? (i := 592) (by decide +kernel), List.mem_of_getElem? (i := 593) (by decide +kernel)⟩
theorem lw_p9 : lw_okq (⟨"TwelveCars$AllIn", "mayGoTogether", "(II)Z"⟩, 5) := ⟨⟨by decide +kernel, by decide +kernel⟩, List.mem_of_getElem? (i := 97) (by decide +kernel), List.mem_of_getElem? (i := 598) (by decide +kernel), List.mem_of_getElem? (i := 599) (by decide +kernel)⟩
theorem lw_p10 : lw_okq (⟨"TwelveCars$AllIn", "putIn", "(IIII)V"⟩, 5) := ⟨⟨by decide +kernel, by decide +kernel⟩, List.mem_of_getElem? (i := 97) (by decide +kernel), List.mem_of_getElem? (i := 603) (by decide +kernel), List.mem_of_getElem? (i := 604) (by decide +kernel)⟩
theorem lw_p11 : lw_okq (⟨"TwelveCars$AllIn", "rowOf", "(II)I"⟩, 5) := ⟨⟨by decide +kernel, by decide +kernel⟩, List.mem_of_getElem? (i := 97) (by decide +kernel), List.mem_of_getElem? (i := 610) (by decide +kernel), List.mem_of_getElem? (i := 611) (by decide +kernel)⟩
theorem lw_p12 : lw_okq (⟨"TwelveCars$AllIn", "shiftOf", "(I)I"⟩, 5) := ⟨⟨by decide +kernel, by decide +kernel⟩, List.mem_of_getElem? (i := 97) (by decide +kernel), List.mem_of_getElem? (i := 614) (by decide +kernel), List.mem_of_getElem? (i := 615) (by decide +kernel)⟩
theorem lw_p13 : lw_okq (⟨"TwelveCars$AllOut", "stepAt", "(II)V"⟩, 4) := ⟨⟨by decide +kernel, by decide +kernel⟩, List.mem_of_getElem? (i := 142) (by decide +kernel), List.mem_of_getElem? (i := 643) (by decide +kernel), List.mem_of_getElem? (i := 644) (by decide +kernel)⟩
theorem lw_p14 : lw_okq (⟨"TwelveCars$AllOut", "letOut", "(II)V"⟩, 4) := ⟨⟨by decide +kernel, by decide +kernel⟩, List.mem_of_getElem? (i := 142) (by decide +kernel), List.mem_of_getElem? (i := 648) (by decide +kernel), List.mem_of_getElem? (i := 649) (by decide +kernel)⟩
theorem lw_p15 : lw_okq (⟨"TwelveCars$AllOut", "mayRide", "(II)Z"⟩, 4) := ⟨⟨by decide +kernel, by decide +kernel⟩, List.mem_of_getElem? (i := 142) (by decide +kernel), List.mem_of_getElem? (i := 652) (by decide +kernel), List.mem_of_getElem? (i := 653) (by decide +kernel)⟩
def lw_privs_1 : List (MethodName × Nat) := [(⟨"TwelveCars$Tape", "readEntries", "(Ljava/lang/String;CI)I"⟩, 5), (⟨"TwelveCars$Tape", "readLetter", "(Ljava/lang/String;I)I"⟩, 5), (⟨"TwelveCars$Tape", "next", "()I"⟩, 5), (⟨"TwelveCars$Tape", "readNumber", "(III)I"⟩, 5), (⟨"TwelveCars$Tape", "readWhatFollows", "(I)I"⟩, 5), (⟨"TwelveCars$Tape", "readDigit", "(I)I"⟩, 5), (⟨"TwelveCars", "happens", "(II)Z"⟩, 10), (⟨"TwelveCars", "canBeAskedFor", "(II)Z"⟩, 10), (⟨"TwelveCars$AllIn", "goOn", "(III)V"⟩, 5), (⟨"TwelveCars$AllIn", "mayGoTogether", "(II)Z"⟩, 5), (⟨"TwelveCars$AllIn", "putIn", "(IIII)V"⟩, 5), (⟨"TwelveCars$AllIn", "rowOf", "(II)I"⟩, 5), (⟨"TwelveCars$AllIn", "shiftOf", "(I)I"⟩, 5), (⟨"TwelveCars$AllOut", "stepAt", "(II)V"⟩, 4), (⟨"TwelveCars$AllOut", "letOut", "(II)V"⟩, 4), (⟨"TwelveCars$AllOut", "mayRide", "(II)Z"⟩, 4)]
theorem lw_r1 : ∀ q ∈ lw_privs_1, lw_okq q := List.forall_mem_cons.mpr ⟨lw_p0, List.forall_mem_cons.mpr ⟨lw_p1, List.forall_mem_cons.mpr ⟨lw_p2, List.forall_mem_cons.mpr ⟨lw_p3, List.forall_mem_cons.mpr ⟨lw_p4, List.forall_mem_cons.mpr ⟨lw_p5, List.forall_mem_cons.mpr ⟨lw_p6, List.forall_mem_cons.mpr ⟨lw_p7, List.forall_mem_cons.mpr ⟨lw_p8, List.forall_mem_cons.mpr ⟨lw_p9, List.forall_mem_cons.mpr ⟨lw_p10, List.forall_mem_cons.mpr ⟨lw_p11, List.forall_mem_cons.mpr ⟨lw_p12, List.forall_mem_cons.mpr ⟨lw_p13, List.forall_mem_cons.mpr ⟨lw_p14, List.forall_mem_cons.mpr ⟨lw_p15, fun _ h => absurd h List.not_mem_nil⟩⟩⟩⟩⟩⟩⟩⟩⟩⟩⟩⟩⟩⟩⟩⟩
theorem lw_p16 : lw_okq (⟨"TwelveCars", "helpsBySand", "(II)Z"⟩, 10) := ⟨⟨by decide +kernel, by decide +kernel⟩, List.mem_of_getElem? (i := 19) (by decide +kernel), List.mem_of_getElem? (i := 669) (by decide +kernel), List.mem_of_getElem? (i := 670) (by decide +kernel)⟩
theorem lw_p17 : lw_okq (⟨"TwelveCars$Slips", "listRiders", "()I"⟩, 5) := ⟨⟨by decide +kernel, by decide +kernel⟩, List.mem_of_getElem? (i := 163) (by decide +kernel), List.mem_of_getElem? (i := 681) (by decide +kernel), List.mem_of_getElem? (i := 682) (by decide +kernel)⟩
theorem lw_p18 : lw_okq (⟨"TwelveCars", "refusalOfRow", "(IIII)I"⟩, 10) := ⟨⟨by decide +kernel, by decide +kernel⟩, List.mem_of_getElem? (i := 19) (by decide +kernel), List.mem_of_getElem? (i := 719) (by decide +kernel), List.mem_of_getElem? (i := 720) (by decide +kernel)⟩
theorem lw_p19 : lw_okq (⟨"TwelveCarsModel", "add", "(II)V"⟩, 35) := ⟨⟨by decide +kernel, by decide +kernel⟩, List.mem_of_getElem? (i := 763) (by decide +kernel), List.mem_of_getElem? (i := 885) (by decide +kernel), List.mem_of_getElem? (i := 886) (by decide +kernel)⟩
theorem lw_p20 : lw_okq (⟨"TwelveCarsModel", "isOne", "(I)Z"⟩, 35) := ⟨⟨by decide +kernel, by decide +kernel⟩, List.mem_of_getElem? (i := 763) (by decide +kernel), List.mem_of_getElem? (i := 893) (by decide +kernel), List.mem_of_getElem? (i := 894) (by decide +kernel)⟩
theorem lw_p21 : lw_okq (⟨"TwelveCarsModel", "whoIn", "(I)I"⟩, 35) := ⟨⟨by decide +kernel, by decide +kernel⟩, List.mem_of_getElem? (i := 763) (by decide +kernel), List.mem_of_getElem? (i := 905) (by decide +kernel), List.mem_of_getElem? (i := 906) (by decide +kernel)⟩
theorem lw_p22 : lw_okq (⟨"TwelveCarsModel", "weightOf", "(I)I"⟩, 35) := ⟨⟨by decide +kernel, by decide +kernel⟩, List.mem_of_getElem? (i := 763) (by decide +kernel), List.mem_of_getElem? (i := 909) (by decide +kernel), List.mem_of_getElem? (i := 910) (by decide +kernel)⟩
theorem lw_p23 : lw_okq (⟨"TwelveCarsModel", "seatsOf", "(I)I"⟩, 35) := ⟨⟨by decide +kernel, by decide +kernel⟩, List.mem_of_getElem? (i := 763) (by decide +kernel), List.mem_of_getElem? (i := 916) (by decide +kernel), List.mem_of_getElem? (i := 917) (by decide +kernel)⟩
theorem lw_p24 : lw_okq (⟨"TwelveCarsModel", "isEven", "()Z"⟩, 35) := ⟨⟨by decide +kernel, by decide +kernel⟩, List.mem_of_getElem? (i := 763) (by decide +kernel), List.mem_of_getElem? (i := 925) (by decide +kernel), List.mem_of_getElem? (i := 926) (by decide +kernel)⟩
theorem lw_p25 : lw_okq (⟨"TwelveCarsModel", "findLoads", "()V"⟩, 35) := ⟨⟨by decide +kernel, by decide +kernel⟩, List.mem_of_getElem? (i := 763) (by decide +kernel), List.mem_of_getElem? (i := 929) (by decide +kernel), List.mem_of_getElem? (i := 930) (by decide +kernel)⟩
theorem lw_p26 : lw_okq (⟨"TwelveCarsModel", "isEvenNow", "()Z"⟩, 35) := ⟨⟨by decide +kernel, by decide +kernel⟩, List.mem_of_getElem? (i := 763) (by decide +kernel), List.mem_of_getElem? (i := 933) (by decide +kernel), List.mem_of_getElem? (i := 934) (by decide +kernel)⟩
theorem lw_p27 : lw_okq (⟨"TwelveCarsModel", "findSquare", "()V"⟩, 35) := ⟨⟨by decide +kernel, by decide +kernel⟩, List.mem_of_getElem? (i := 763) (by decide +kernel), List.mem_of_getElem? (i := 937) (by decide +kernel), List.mem_of_getElem? (i := 938) (by decide +kernel)⟩
theorem lw_p28 : lw_okq (⟨"TwelveCarsModel", "readPeople", "()Z"⟩, 35) := ⟨⟨by decide +kernel, by decide +kernel⟩, List.mem_of_getElem? (i := 763) (by decide +kernel), List.mem_of_getElem? (i := 971) (by decide +kernel), List.mem_of_getElem? (i := 972) (by decide +kernel)⟩
theorem lw_p29 : lw_okq (⟨"TwelveCarsModel", "readOne", "(I)Z"⟩, 35) := ⟨⟨by decide +kernel, by decide +kernel⟩, List.mem_of_getElem? (i := 763) (by decide +kernel), List.mem_of_getElem? (i := 975) (by decide +kernel), List.mem_of_getElem? (i := 976) (by decide +kernel)⟩
theorem lw_p30 : lw_okq (⟨"TwelveCarsModel", "nextByte", "()I"⟩, 35) := ⟨⟨by decide +kernel, by decide +kernel⟩, List.mem_of_getElem? (i := 763) (by decide +kernel), List.mem_of_getElem? (i := 979) (by decide +kernel), List.mem_of_getElem? (i := 980) (by decide +kernel)⟩
theorem lw_p31 : lw_okq (⟨"TwelveCarsModel", "readNumber", "(II)I"⟩, 35) := ⟨⟨by decide +kernel, by decide +kernel⟩, List.mem_of_getElem? (i := 763) (by decide +kernel), List.mem_of_getElem? (i := 983) (by decide +kernel), List.mem_of_getElem? (i := 984) (by decide +kernel)⟩
def lw_privs_2 : List (MethodName × Nat) := [(⟨"TwelveCars", "helpsBySand", "(II)Z"⟩, 10), (⟨"TwelveCars$Slips", "listRiders", "()I"⟩, 5), (⟨"TwelveCars", "refusalOfRow", "(IIII)I"⟩, 10), (⟨"TwelveCarsModel", "add", "(II)V"⟩, 35), (⟨"TwelveCarsModel", "isOne", "(I)Z"⟩, 35), (⟨"TwelveCarsModel", "whoIn", "(I)I"⟩, 35), (⟨"TwelveCarsModel", "weightOf", "(I)I"⟩, 35), (⟨"TwelveCarsModel", "seatsOf", "(I)I"⟩, 35), (⟨"TwelveCarsModel", "isEven", "()Z"⟩, 35), (⟨"TwelveCarsModel", "findLoads", "()V"⟩, 35), (⟨"TwelveCarsModel", "isEvenNow", "()Z"⟩, 35), (⟨"TwelveCarsModel", "findSquare", "()V"⟩, 35), (⟨"TwelveCarsModel", "readPeople", "()Z"⟩, 35), (⟨"TwelveCarsModel", "readOne", "(I)Z"⟩, 35), (⟨"TwelveCarsModel", "nextByte", "()I"⟩, 35), (⟨"TwelveCarsModel", "readNumber", "(II)I"⟩, 35)]
theorem lw_r2 : ∀ q ∈ lw_privs_2, lw_okq q := List.forall_mem_cons.mpr ⟨lw_p16, List.forall_mem_cons.mpr ⟨lw_p17, List.forall_mem_cons.mpr ⟨lw_p18, List.forall_mem_cons.mpr ⟨lw_p19, List.forall_mem_cons.mpr ⟨lw_p20, List.forall_mem_cons.mpr ⟨lw_p21, List.forall_mem_cons.mpr ⟨lw_p22, List.forall_mem_cons.mpr ⟨lw_p23, List.forall_mem_cons.mpr ⟨lw_p24, List.forall_mem_cons.mpr ⟨lw_p25, List.forall_mem_cons.mpr ⟨lw_p26, List.forall_mem_cons.mpr ⟨lw_p27, List.forall_mem_cons.mpr ⟨lw_p28, List.forall_mem_cons.mpr ⟨lw_p29, List.forall_mem_cons.mpr ⟨lw_p30, List.forall_mem_cons.mpr ⟨lw_p31, fun _ h => absurd h List.not_mem_nil⟩⟩⟩⟩⟩⟩⟩⟩⟩⟩⟩⟩⟩⟩⟩⟩
theorem lw_p32 : lw_okq (⟨"TwelveCarsModel", "readEvening", "()Z"⟩, 35) := ⟨⟨by decide +kernel, by decide +kernel⟩, List.mem_of_getElem? (i := 763) (by decide +kernel), List.mem_of_getElem? (i := 993) (by decide +kernel), List.mem_of_getElem? (i := 994) (by decide +kernel)⟩
theorem lw_p33 : lw_okq (⟨"TwelveCarsModel", "readAct", "(I)Z"⟩, 35) := ⟨⟨by decide +kernel, by decide +kernel⟩, List.mem_of_getElem? (i := 763) (by decide +kernel), List.mem_of_getElem? (i := 997) (by decide +kernel), List.mem_of_getElem? (i := 998) (by decide +kernel)⟩
theorem lw_p34 : lw_okq (⟨"TwelveCarsModel", "does", "(I)Z"⟩, 35) := ⟨⟨by decide +kernel, by decide +kernel⟩, List.mem_of_getElem? (i := 763) (by decide +kernel), List.mem_of_getElem? (i := 1002) (by decide +kernel), List.mem_of_getElem? (i := 1003) (by decide +kernel)⟩
theorem lw_p35 : lw_okq (⟨"TwelveCarsModel", "mayBoard", "(I)Z"⟩, 35) := ⟨⟨by decide +kernel, by decide +kernel⟩, List.mem_of_getElem? (i := 763) (by decide +kernel), List.mem_of_getElem? (i := 1010) (by decide +kernel), List.mem_of_getElem? (i := 1011) (by decide +kernel)⟩
theorem lw_p36 : lw_okq (⟨"TwelveCarsModel", "fits", "(I)Z"⟩, 35) := ⟨⟨by decide +kernel, by decide +kernel⟩, List.mem_of_getElem? (i := 763) (by decide +kernel), List.mem_of_getElem? (i := 1014) (by decide +kernel), List.mem_of_getElem? (i := 1015) (by decide +kernel)⟩
theorem lw_p37 : lw_okq (⟨"TwelveCarsModel", "mayLeave", "(I)Z"⟩, 35) := ⟨⟨by decide +kernel, by decide +kernel⟩, List.mem_of_getElem? (i := 763) (by decide +kernel), List.mem_of_getElem? (i := 1022) (by decide +kernel), List.mem_of_getElem? (i := 1023) (by decide +kernel)⟩
theorem lw_p38 : lw_okq (⟨"TwelveCarsModel", "isAllIn", "(II)Z"⟩, 35) := ⟨⟨by decide +kernel, by decide +kernel⟩, List.mem_of_getElem? (i := 763) (by decide +kernel), List.mem_of_getElem? (i := 1047) (by decide +kernel), List.mem_of_getElem? (i := 1048) (by decide +kernel)⟩
theorem lw_p39 : lw_okq (⟨"TwelveCarsModel", "findSoonest", "(II)I"⟩, 35) := ⟨⟨by decide +kernel, by decide +kernel⟩, List.mem_of_getElem? (i := 763) (by decide +kernel), List.mem_of_getElem? (i := 1054) (by decide +kernel), List.mem_of_getElem? (i := 1055) (by decide +kernel)⟩
theorem lw_p40 : lw_okq (⟨"TwelveCarsModel", "areSo", "(I)Z"⟩, 35) := ⟨⟨by decide +kernel, by decide +kernel⟩, List.mem_of_getElem? (i := 763) (by decide +kernel), List.mem_of_getElem? (i := 1058) (by decide +kernel), List.mem_of_getElem? (i := 1059) (by decide +kernel)⟩
theorem lw_p41 : lw_okq (⟨"TwelveCarsModel", "canBoard", "()Z"⟩, 35) := ⟨⟨by decide +kernel, by decide +kernel⟩, List.mem_of_getElem? (i := 763) (by decide +kernel), List.mem_of_getElem? (i := 1062) (by decide +kernel), List.mem_of_getElem? (i := 1063) (by decide +kernel)⟩
theorem lw_p42 : lw_okq (⟨"TwelveCarsModel", "nextTimes", "()Z"⟩, 35) := ⟨⟨by decide +kernel, by decide +kernel⟩, List.mem_of_getElem? (i := 763) (by decide +kernel), List.mem_of_getElem? (i := 1066) (by decide +kernel), List.mem_of_getElem? (i := 1067) (by decide +kernel)⟩
theorem lw_p43 : lw_okq (⟨"TwelveCarsModel", "getOut", "(I)V"⟩, 35) := ⟨⟨by decide +kernel, by decide +kernel⟩, List.mem_of_getElem? (i := 763) (by decide +kernel), List.mem_of_getElem? (i := 1079) (by decide +kernel), List.mem_of_getElem? (i := 1080) (by decide +kernel)⟩
theorem lw_p44 : lw_okq (⟨"TwelveCarsModel", "isEvenWith", "(I)Z"⟩, 35) := ⟨⟨by decide +kernel, by decide +kernel⟩, List.mem_of_getElem? (i := 763) (by decide +kernel), List.mem_of_getElem? (i := 1083) (by decide +kernel), List.mem_of_getElem? (i := 1084) (by decide +kernel)⟩
theorem lw_p45 : lw_okq (⟨"TwelveCarsModel", "findWorst", "(I)V"⟩, 35) := ⟨⟨by decide +kernel, by decide +kernel⟩, List.mem_of_getElem? (i := 763) (by decide +kernel), List.mem_of_getElem? (i := 1095) (by decide +kernel), List.mem_of_getElem? (i := 1096) (by decide +kernel)⟩
theorem lw_p46 : lw_okq (⟨"TwelveCarsModel", "carried", "(IIZ)I"⟩, 35) := ⟨⟨by decide +kernel, by decide +kernel⟩, List.mem_of_getElem? (i := 763) (by decide +kernel), List.mem_of_getElem? (i := 1109) (by decide +kernel), List.mem_of_getElem? (i := 1110) (by decide +kernel)⟩
theorem lw_p47 : lw_okq (⟨"TwelveCarsModel", "lacksRow", "(IIII)I"⟩, 35) := ⟨⟨by decide +kernel, by decide +kernel⟩, List.mem_of_getElem? (i := 763) (by decide +kernel), List.mem_of_getElem? (i := 1132) (by decide +kernel), List.mem_of_getElem? (i := 1133) (by decide +kernel)⟩
def lw_privs_3 : List (MethodName × Nat) := [(⟨"TwelveCarsModel", "readEvening", "()Z"⟩, 35), (⟨"TwelveCarsModel", "readAct", "(I)Z"⟩, 35), (⟨"TwelveCarsModel", "does", "(I)Z"⟩, 35), (⟨"TwelveCarsModel", "mayBoard", "(I)Z"⟩, 35), (⟨"TwelveCarsModel", "fits", "(I)Z"⟩, 35), (⟨"TwelveCarsModel", "mayLeave", "(I)Z"⟩, 35), (⟨"TwelveCarsModel", "isAllIn", "(II)Z"⟩, 35), (⟨"TwelveCarsModel", "findSoonest", "(II)I"⟩, 35), (⟨"TwelveCarsModel", "areSo", "(I)Z"⟩, 35), (⟨"TwelveCarsModel", "canBoard", "()Z"⟩, 35), (⟨"TwelveCarsModel", "nextTimes", "()Z"⟩, 35), (⟨"TwelveCarsModel", "getOut", "(I)V"⟩, 35), (⟨"TwelveCarsModel", "isEvenWith", "(I)Z"⟩, 35), (⟨"TwelveCarsModel", "findWorst", "(I)V"⟩, 35), (⟨"TwelveCarsModel", "carried", "(IIZ)I"⟩, 35), (⟨"TwelveCarsModel", "lacksRow", "(IIII)I"⟩, 35)]
theorem lw_r3 : ∀ q ∈ lw_privs_3, lw_okq q := List.forall_mem_cons.mpr ⟨lw_p32, List.forall_mem_cons.mpr ⟨lw_p33, List.forall_mem_cons.mpr ⟨lw_p34, List.forall_mem_cons.mpr ⟨lw_p35, List.forall_mem_cons.mpr ⟨lw_p36, List.forall_mem_cons.mpr ⟨lw_p37, List.forall_mem_cons.mpr ⟨lw_p38, List.forall_mem_cons.mpr ⟨lw_p39, List.forall_mem_cons.mpr ⟨lw_p40, List.forall_mem_cons.mpr ⟨lw_p41, List.forall_mem_cons.mpr ⟨lw_p42, List.forall_mem_cons.mpr ⟨lw_p43, List.forall_mem_cons.mpr ⟨lw_p44, List.forall_mem_cons.mpr ⟨lw_p45, List.forall_mem_cons.mpr ⟨lw_p46, List.forall_mem_cons.mpr ⟨lw_p47, fun _ h => absurd h List.not_mem_nil⟩⟩⟩⟩⟩⟩⟩⟩⟩⟩⟩⟩⟩⟩⟩⟩
def lw_privs : List (MethodName × Nat) := lw_privs_1 ++ (lw_privs_2 ++ (lw_privs_3))
def lw_tbl : List Cond := k2_sels lw_privs ++ tables_1
theorem lw_privs_ok : ∀ q ∈ lw_privs, lw_okq q := by
  show ∀ q ∈ lw_privs_1 ++ (lw_privs_2 ++ (lw_privs_3)), lw_okq q
  exact List.forall_mem_append.mpr ⟨lw_r1, List.forall_mem_append.mpr ⟨lw_r2, lw_r3⟩⟩


def RX0 : String := "TwelveCars$AllIn"
def TX0 : u_T := fun k => match k with
  | 0 => ("TwelveCars$AllIn", "wheel", "LTwelveCars$Wheel;", true)
  | 1 => ("TwelveCars$AllIn", "now", "LTwelveCars$Balance;", true)
  | 2 => ("TwelveCars$AllIn", "asked", "I", false)
  | 3 => ("TwelveCars$AllIn", "how", "I", false)
  | _ => ("TwelveCars$AllIn", "best", "I", false)
def tyX0 : Nat → FieldType := fun k => match k with
  | 0 => .object "TwelveCars$Wheel"
  | 1 => .object "TwelveCars$Balance"
  | 2 => .int
  | 3 => .int
  | _ => .int
abbrev wsX00 : List Cond := u_ws RX0 TX0 5
theorem nmX0 : ∀ a, a < 5 → ∀ b, b < 5 → a ≠ b → (TX0 a).2.1 ≠ (TX0 b).2.1 := by decide +kernel
theorem tyX0_ok : ∀ k, k < 5 → parseFieldDescriptor (TX0 k).2.2.1 = some (tyX0 k) := by decide +kernel
abbrev cX0_init : ByteArray := prog_2_method_1_code
def yX0_init : MethodName := ⟨RX0, "<init>", "(LTwelveCars$Wheel;)V"⟩
abbrev cX0_search : ByteArray := prog_2_method_2_code
def yX0_search : MethodName := ⟨RX0, "search", "(II)Z"⟩
abbrev cX0_soonestMinute : ByteArray := prog_2_method_3_code
def yX0_soonestMinute : MethodName := ⟨RX0, "soonestMinute", "()I"⟩
abbrev cX0_minuteOf : ByteArray := prog_2_method_4_code
def yX0_minuteOf : MethodName := ⟨RX0, "minuteOf", "(I)I"⟩
abbrev cX0_shiftOf : ByteArray := prog_2_method_5_code
def yX0_shiftOf : MethodName := ⟨RX0, "shiftOf", "(I)I"⟩
abbrev cX0_goOn : ByteArray := prog_2_method_6_code
def yX0_goOn : MethodName := ⟨RX0, "goOn", "(III)V"⟩
abbrev cX0_mayGoTogether : ByteArray := prog_2_method_7_code
def yX0_mayGoTogether : MethodName := ⟨RX0, "mayGoTogether", "(II)Z"⟩
abbrev cX0_putIn : ByteArray := prog_2_method_8_code
def yX0_putIn : MethodName := ⟨RX0, "putIn", "(IIII)V"⟩
abbrev cX0_rowOf : ByteArray := prog_2_method_9_code
def yX0_rowOf : MethodName := ⟨RX0, "rowOf", "(II)I"⟩
def RX1 : String := "TwelveCars$AllOut"
def TX1 : u_T := fun k => match k with
  | 0 => ("TwelveCars$AllOut", "wheel", "LTwelveCars$Wheel;", true)
  | 1 => ("TwelveCars$AllOut", "sandAlone", "LTwelveCars$Balance;", true)
  | 2 => ("TwelveCars$AllOut", "scratch", "LTwelveCars$Balance;", true)
  | _ => ("TwelveCars$AllOut", "states", "[I", true)
def tyX1 : Nat → FieldType := fun k => match k with
  | 0 => .object "TwelveCars$Wheel"
  | 1 => .object "TwelveCars$Balance"
  | 2 => .object "TwelveCars$Balance"
  | _ => .array .int
abbrev wsX10 : List Cond := u_ws RX1 TX1 4
theorem nmX1 : ∀ a, a < 4 → ∀ b, b < 4 → a ≠ b → (TX1 a).2.1 ≠ (TX1 b).2.1 := by decide +kernel
theorem tyX1_ok : ∀ k, k < 4 → parseFieldDescriptor (TX1 k).2.2.1 = some (tyX1 k) := by decide +kernel
abbrev cX1_init : ByteArray := prog_3_method_1_code
def yX1_init : MethodName := ⟨RX1, "<init>", "(LTwelveCars$Wheel;)V"⟩
abbrev cX1_fewestMinutes : ByteArray := prog_3_method_2_code
def yX1_fewestMinutes : MethodName := ⟨RX1, "fewestMinutes", "()I"⟩
abbrev cX1_stepAt : ByteArray := prog_3_method_3_code
def yX1_stepAt : MethodName := ⟨RX1, "stepAt", "(II)V"⟩
abbrev cX1_letOut : ByteArray := prog_3_method_4_code
def yX1_letOut : MethodName := ⟨RX1, "letOut", "(II)V"⟩
abbrev cX1_mayRide : ByteArray := prog_3_method_5_code
def yX1_mayRide : MethodName := ⟨RX1, "mayRide", "(II)Z"⟩
def RX2 : String := "TwelveCars$Balance"
def TX2 : u_T := fun k => match k with
  | 0 => ("TwelveCars$Balance", "p", "I", false)
  | 1 => ("TwelveCars$Balance", "q", "I", false)
  | 2 => ("TwelveCars$Balance", "s", "I", false)
  | _ => ("TwelveCars$Balance", "t", "I", false)
def tyX2 : Nat → FieldType := fun k => match k with
  | 0 => .int
  | 1 => .int
  | 2 => .int
  | _ => .int
abbrev wsX20 : List Cond := u_ws RX2 TX2 4
theorem nmX2 : ∀ a, a < 4 → ∀ b, b < 4 → a ≠ b → (TX2 a).2.1 ≠ (TX2 b).2.1 := by decide +kernel
theorem tyX2_ok : ∀ k, k < 4 → parseFieldDescriptor (TX2 k).2.2.1 = some (tyX2 k) := by decide +kernel
abbrev cX2_init : ByteArray := prog_4_method_1_code
def yX2_init : MethodName := ⟨RX2, "<init>", "()V"⟩
abbrev cX2_clear : ByteArray := prog_4_method_2_code
def yX2_clear : MethodName := ⟨RX2, "clear", "()V"⟩
abbrev cX2_become : ByteArray := prog_4_method_3_code
def yX2_become : MethodName := ⟨RX2, "become", "(LTwelveCars$Balance;)V"⟩
abbrev cX2_hang : ByteArray := prog_4_method_4_code
def yX2_hang : MethodName := ⟨RX2, "hang", "(II)V"⟩
abbrev cX2_wholePart : ByteArray := prog_4_method_5_code
def yX2_wholePart : MethodName := ⟨RX2, "wholePart", "()J"⟩
abbrev cX2_rootPart : ByteArray := prog_4_method_6_code
def yX2_rootPart : MethodName := ⟨RX2, "rootPart", "()J"⟩
abbrev cX2_isEvenWithin : ByteArray := prog_4_method_7_code
def yX2_isEvenWithin : MethodName := ⟨RX2, "isEvenWithin", "(I)Z"⟩
abbrev cX2_isWorseThan : ByteArray := prog_4_method_8_code
def yX2_isWorseThan : MethodName := ⟨RX2, "isWorseThan", "(LTwelveCars$Balance;)Z"⟩
abbrev cX2_isAboveZero : ByteArray := prog_4_method_9_code
def yX2_isAboveZero : MethodName := ⟨RX2, "isAboveZero", "(JJ)Z"⟩
def RX3 : String := "TwelveCars$Sheet"
def TX3 : u_T := fun k => match k with
  | 0 => ("TwelveCars$Sheet", "items", "[I", true)
  | 1 => ("TwelveCars$Sheet", "isHeld", "Z", false)
  | 2 => ("TwelveCars$Sheet", "lane", "I", false)
  | _ => ("TwelveCars$Sheet", "length", "I", false)
def tyX3 : Nat → FieldType := fun k => match k with
  | 0 => .array .int
  | 1 => .boolean
  | 2 => .int
  | _ => .int
abbrev wsX30 : List Cond := u_ws RX3 TX3 4
theorem nmX3 : ∀ a, a < 4 → ∀ b, b < 4 → a ≠ b → (TX3 a).2.1 ≠ (TX3 b).2.1 := by decide +kernel
theorem tyX3_ok : ∀ k, k < 4 → parseFieldDescriptor (TX3 k).2.2.1 = some (tyX3 k) := by decide +kernel
abbrev cX3_init : ByteArray := prog_5_method_1_code
def yX3_init : MethodName := ⟨RX3, "<init>", "()V"⟩
abbrev cX3_renew : ByteArray := prog_5_method_2_code
def yX3_renew : MethodName := ⟨RX3, "renew", "(II)V"⟩
abbrev cX3_hasPart : ByteArray := prog_5_method_3_code
def yX3_hasPart : MethodName := ⟨RX3, "hasPart", "(II)Z"⟩
abbrev cX3_write : ByteArray := prog_5_method_4_code
def yX3_write : MethodName := ⟨RX3, "write", "(II)V"⟩
def RX4 : String := "TwelveCars$Slips"
def TX4 : u_T := fun k => match k with
  | 0 => ("TwelveCars$Slips", "wheel", "LTwelveCars$Wheel;", true)
  | 1 => ("TwelveCars$Slips", "sandAlone", "LTwelveCars$Balance;", true)
  | 2 => ("TwelveCars$Slips", "scratch", "LTwelveCars$Balance;", true)
  | 3 => ("TwelveCars$Slips", "riders", "[I", true)
  | _ => ("TwelveCars$Slips", "worst", "LTwelveCars$Balance;", true)
def tyX4 : Nat → FieldType := fun k => match k with
  | 0 => .object "TwelveCars$Wheel"
  | 1 => .object "TwelveCars$Balance"
  | 2 => .object "TwelveCars$Balance"
  | 3 => .array .int
  | _ => .object "TwelveCars$Balance"
abbrev wsX40 : List Cond := u_ws RX4 TX4 5
theorem nmX4 : ∀ a, a < 5 → ∀ b, b < 5 → a ≠ b → (TX4 a).2.1 ≠ (TX4 b).2.1 := by decide +kernel
theorem tyX4_ok : ∀ k, k < 5 → parseFieldDescriptor (TX4 k).2.2.1 = some (tyX4 k) := by decide +kernel
abbrev cX4_init : ByteArray := prog_6_method_1_code
def yX4_init : MethodName := ⟨RX4, "<init>", "(LTwelveCars$Wheel;)V"⟩
abbrev cX4_findWorst : ByteArray := prog_6_method_2_code
def yX4_findWorst : MethodName := ⟨RX4, "findWorst", "(I)V"⟩
abbrev cX4_listRiders : ByteArray := prog_6_method_3_code
def yX4_listRiders : MethodName := ⟨RX4, "listRiders", "()I"⟩
def RX5 : String := "TwelveCars$Tape"
def TX5 : u_T := fun k => match k with
  | 0 => ("TwelveCars$Tape", "bytes", "[B", true)
  | 1 => ("TwelveCars$Tape", "at", "I", false)
  | 2 => ("TwelveCars$Tape", "length", "I", false)
  | 3 => ("TwelveCars$Tape", "letters", "[I", true)
  | _ => ("TwelveCars$Tape", "numbers", "[I", true)
def tyX5 : Nat → FieldType := fun k => match k with
  | 0 => .array .byte
  | 1 => .int
  | 2 => .int
  | 3 => .array .int
  | _ => .array .int
abbrev wsX50 : List Cond := u_ws RX5 TX5 5
theorem nmX5 : ∀ a, a < 5 → ∀ b, b < 5 → a ≠ b → (TX5 a).2.1 ≠ (TX5 b).2.1 := by decide +kernel
theorem tyX5_ok : ∀ k, k < 5 → parseFieldDescriptor (TX5 k).2.2.1 = some (tyX5 k) := by decide +kernel
abbrev cX5_init : ByteArray := prog_7_method_1_code
def yX5_init : MethodName := ⟨RX5, "<init>", "()V"⟩
abbrev cX5_isTypable : ByteArray := prog_7_method_2_code
def yX5_isTypable : MethodName := ⟨RX5, "isTypable", "(I)Z"⟩
abbrev cX5_append : ByteArray := prog_7_method_3_code
def yX5_append : MethodName := ⟨RX5, "append", "(I)V"⟩
abbrev cX5_readPeople : ByteArray := prog_7_method_4_code
def yX5_readPeople : MethodName := ⟨RX5, "readPeople", "()I"⟩
abbrev cX5_readEvening : ByteArray := prog_7_method_5_code
def yX5_readEvening : MethodName := ⟨RX5, "readEvening", "()I"⟩
abbrev cX5_readEntries : ByteArray := prog_7_method_6_code
def yX5_readEntries : MethodName := ⟨RX5, "readEntries", "(Ljava/lang/String;CI)I"⟩
abbrev cX5_faultAt : ByteArray := prog_7_method_7_code
def yX5_faultAt : MethodName := ⟨RX5, "faultAt", "(I)I"⟩
abbrev cX5_isDigit : ByteArray := prog_7_method_8_code
def yX5_isDigit : MethodName := ⟨RX5, "isDigit", "(I)Z"⟩
abbrev cX5_next : ByteArray := prog_7_method_9_code
def yX5_next : MethodName := ⟨RX5, "next", "()I"⟩
abbrev cX5_readLetter : ByteArray := prog_7_method_10_code
def yX5_readLetter : MethodName := ⟨RX5, "readLetter", "(Ljava/lang/String;I)I"⟩
abbrev cX5_readWhatFollows : ByteArray := prog_7_method_11_code
def yX5_readWhatFollows : MethodName := ⟨RX5, "readWhatFollows", "(I)I"⟩
abbrev cX5_readDigit : ByteArray := prog_7_method_12_code
def yX5_readDigit : MethodName := ⟨RX5, "readDigit", "(I)I"⟩
abbrev cX5_readNumber : ByteArray := prog_7_method_13_code
def yX5_readNumber : MethodName := ⟨RX5, "readNumber", "(III)I"⟩
def RX6 : String := "TwelveCars$Wheel"
def TX6 : u_T := fun k => match k with
  | 0 => ("TwelveCars$Wheel", "kinds", "[I", true)
  | 1 => ("TwelveCars$Wheel", "weights", "[I", true)
  | 2 => ("TwelveCars$Wheel", "places", "[I", true)
  | 3 => ("TwelveCars$Wheel", "since", "[I", true)
  | 4 => ("TwelveCars$Wheel", "sands", "[I", true)
  | 5 => ("TwelveCars$Wheel", "people", "I", false)
  | 6 => ("TwelveCars$Wheel", "minute", "I", false)
  | _ => ("TwelveCars$Wheel", "limit", "I", false)
def tyX6 : Nat → FieldType := fun k => match k with
  | 0 => .array .int
  | 1 => .array .int
  | 2 => .array .int
  | 3 => .array .int
  | 4 => .array .int
  | 5 => .int
  | 6 => .int
  | _ => .int
abbrev wsX60 : List Cond := u_ws RX6 TX6 8
theorem nmX6 : ∀ a, a < 8 → ∀ b, b < 8 → a ≠ b → (TX6 a).2.1 ≠ (TX6 b).2.1 := by decide +kernel
theorem tyX6_ok : ∀ k, k < 8 → parseFieldDescriptor (TX6 k).2.2.1 = some (tyX6 k) := by decide +kernel
abbrev cX6_init : ByteArray := prog_8_method_1_code
def yX6_init : MethodName := ⟨RX6, "<init>", "()V"⟩
abbrev cX6_become : ByteArray := prog_8_method_2_code
def yX6_become : MethodName := ⟨RX6, "become", "(LTwelveCars$Wheel;)V"⟩
abbrev cX6_addOne : ByteArray := prog_8_method_3_code
def yX6_addOne : MethodName := ⟨RX6, "addOne", "(II)I"⟩
abbrev cX6_has : ByteArray := prog_8_method_4_code
def yX6_has : MethodName := ⟨RX6, "has", "(I)Z"⟩
abbrev cX6_waits : ByteArray := prog_8_method_5_code
def yX6_waits : MethodName := ⟨RX6, "waits", "(I)Z"⟩
abbrev cX6_ridesAtFoot : ByteArray := prog_8_method_6_code
def yX6_ridesAtFoot : MethodName := ⟨RX6, "ridesAtFoot", "(I)Z"⟩
abbrev cX6_foot : ByteArray := prog_8_method_7_code
def yX6_foot : MethodName := ⟨RX6, "foot", "()I"⟩
abbrev cX6_whoIsAt : ByteArray := prog_8_method_8_code
def yX6_whoIsAt : MethodName := ⟨RX6, "whoIsAt", "(I)I"⟩
abbrev cX6_whoRides : ByteArray := prog_8_method_9_code
def yX6_whoRides : MethodName := ⟨RX6, "whoRides", "()I"⟩
abbrev cX6_weightOf : ByteArray := prog_8_method_10_code
def yX6_weightOf : MethodName := ⟨RX6, "weightOf", "(I)I"⟩
abbrev cX6_loadOf : ByteArray := prog_8_method_11_code
def yX6_loadOf : MethodName := ⟨RX6, "loadOf", "(I)I"⟩
abbrev cX6_sandTogether : ByteArray := prog_8_method_12_code
def yX6_sandTogether : MethodName := ⟨RX6, "sandTogether", "()I"⟩
abbrev cX6_seatsOf : ByteArray := prog_8_method_13_code
def yX6_seatsOf : MethodName := ⟨RX6, "seatsOf", "(I)I"⟩
abbrev cX6_fitTogether : ByteArray := prog_8_method_14_code
def yX6_fitTogether : MethodName := ⟨RX6, "fitTogether", "(I)Z"⟩
abbrev cX6_weighSand : ByteArray := prog_8_method_15_code
def yX6_weighSand : MethodName := ⟨RX6, "weighSand", "(LTwelveCars$Balance;)V"⟩
abbrev cX6_weighRiders : ByteArray := prog_8_method_16_code
def yX6_weighRiders : MethodName := ⟨RX6, "weighRiders", "(LTwelveCars$Balance;)V"⟩
abbrev cX6_weighAll : ByteArray := prog_8_method_17_code
def yX6_weighAll : MethodName := ⟨RX6, "weighAll", "(LTwelveCars$Balance;)V"⟩
abbrev cX6_hangThese : ByteArray := prog_8_method_18_code
def yX6_hangThese : MethodName := ⟨RX6, "hangThese", "(ILTwelveCars$Balance;)V"⟩
abbrev cX6_mayGetIn : ByteArray := prog_8_method_19_code
def yX6_mayGetIn : MethodName := ⟨RX6, "mayGetIn", "(ILTwelveCars$Balance;)Z"⟩
abbrev cX6_mayGetOut : ByteArray := prog_8_method_20_code
def yX6_mayGetOut : MethodName := ⟨RX6, "mayGetOut", "(ILTwelveCars$Balance;)Z"⟩
abbrev cX6_mayHaveSand : ByteArray := prog_8_method_21_code
def yX6_mayHaveSand : MethodName := ⟨RX6, "mayHaveSand", "(ILTwelveCars$Balance;)Z"⟩
abbrev cX6_getIn : ByteArray := prog_8_method_22_code
def yX6_getIn : MethodName := ⟨RX6, "getIn", "(I)V"⟩
abbrev cX6_getOut : ByteArray := prog_8_method_23_code
def yX6_getOut : MethodName := ⟨RX6, "getOut", "(I)V"⟩
def RX7 : String := "TwelveCars"
def TX7 : u_T := fun k => match k with
  | 0 => ("TwelveCars", "wheel", "LTwelveCars$Wheel;", true)
  | 1 => ("TwelveCars", "kept", "LTwelveCars$Wheel;", true)
  | 2 => ("TwelveCars", "tape", "LTwelveCars$Tape;", true)
  | 3 => ("TwelveCars", "allIn", "LTwelveCars$AllIn;", true)
  | 4 => ("TwelveCars", "allOut", "LTwelveCars$AllOut;", true)
  | 5 => ("TwelveCars", "slips", "LTwelveCars$Slips;", true)
  | 6 => ("TwelveCars", "trial", "LTwelveCars$Balance;", true)
  | 7 => ("TwelveCars", "sheets", "[LTwelveCars$Sheet;", true)
  | 8 => ("TwelveCars", "poured", "[I", true)
  | _ => ("TwelveCars", "hasImage", "Z", false)
def tyX7 : Nat → FieldType := fun k => match k with
  | 0 => .object "TwelveCars$Wheel"
  | 1 => .object "TwelveCars$Wheel"
  | 2 => .object "TwelveCars$Tape"
  | 3 => .object "TwelveCars$AllIn"
  | 4 => .object "TwelveCars$AllOut"
  | 5 => .object "TwelveCars$Slips"
  | 6 => .object "TwelveCars$Balance"
  | 7 => .array (.object "TwelveCars$Sheet")
  | 8 => .array .int
  | _ => .boolean
abbrev wsX70 : List Cond := u_ws RX7 TX7 10
theorem nmX7 : ∀ a, a < 10 → ∀ b, b < 10 → a ≠ b → (TX7 a).2.1 ≠ (TX7 b).2.1 := by decide +kernel
theorem tyX7_ok : ∀ k, k < 10 → parseFieldDescriptor (TX7 k).2.2.1 = some (tyX7 k) := by decide +kernel
abbrev cX7_init : ByteArray := prog_1_method_1_code
def yX7_init : MethodName := ⟨RX7, "<init>", "()V"⟩
abbrev cX7_person : ByteArray := prog_1_method_2_code
def yX7_person : MethodName := ⟨RX7, "person", "(II)I"⟩
abbrev cX7_told : ByteArray := prog_1_method_3_code
def yX7_told : MethodName := ⟨RX7, "told", "(II)I"⟩
abbrev cX7_car : ByteArray := prog_1_method_4_code
def yX7_car : MethodName := ⟨RX7, "car", "(II)I"⟩
abbrev cX7_limit : ByteArray := prog_1_method_5_code
def yX7_limit : MethodName := ⟨RX7, "limit", "(I)I"⟩
abbrev cX7_out : ByteArray := prog_1_method_6_code
def yX7_out : MethodName := ⟨RX7, "out", "(I)I"⟩
abbrev cX7_type : ByteArray := prog_1_method_7_code
def yX7_type : MethodName := ⟨RX7, "type", "(JI)I"⟩
abbrev cX7_people : ByteArray := prog_1_method_8_code
def yX7_people : MethodName := ⟨RX7, "people", "()I"⟩
abbrev cX7_evening : ByteArray := prog_1_method_9_code
def yX7_evening : MethodName := ⟨RX7, "evening", "()I"⟩
abbrev cX7_count : ByteArray := prog_1_method_10_code
def yX7_count : MethodName := ⟨RX7, "count", "(I)I"⟩
abbrev cX7_board : ByteArray := prog_1_method_11_code
def yX7_board : MethodName := ⟨RX7, "board", "(I)I"⟩
abbrev cX7_leave : ByteArray := prog_1_method_12_code
def yX7_leave : MethodName := ⟨RX7, "leave", "(I)I"⟩
abbrev cX7_sand : ByteArray := prog_1_method_13_code
def yX7_sand : MethodName := ⟨RX7, "sand", "(I)I"⟩
abbrev cX7_turn : ByteArray := prog_1_method_14_code
def yX7_turn : MethodName := ⟨RX7, "turn", "(I)I"⟩
abbrev cX7_may : ByteArray := prog_1_method_15_code
def yX7_may : MethodName := ⟨RX7, "may", "(I)I"⟩
abbrev cX7_soonest : ByteArray := prog_1_method_16_code
def yX7_soonest : MethodName := ⟨RX7, "soonest", "(II)I"⟩
abbrev cX7_when : ByteArray := prog_1_method_17_code
def yX7_when : MethodName := ⟨RX7, "when", "(III)I"⟩
abbrev cX7_empty : ByteArray := prog_1_method_18_code
def yX7_empty : MethodName := ⟨RX7, "empty", "()I"⟩
abbrev cX7_least : ByteArray := prog_1_method_19_code
def yX7_least : MethodName := ⟨RX7, "least", "(II)I"⟩
abbrev cX7_sure : ByteArray := prog_1_method_20_code
def yX7_sure : MethodName := ⟨RX7, "sure", "(I)I"⟩
abbrev cX7_worst : ByteArray := prog_1_method_21_code
def yX7_worst : MethodName := ⟨RX7, "worst", "(II)I"⟩
abbrev cX7_image : ByteArray := prog_1_method_22_code
def yX7_image : MethodName := ⟨RX7, "image", "()I"⟩
abbrev cX7_restore : ByteArray := prog_1_method_23_code
def yX7_restore : MethodName := ⟨RX7, "restore", "()I"⟩
abbrev cX7_pour : ByteArray := prog_1_method_24_code
def yX7_pour : MethodName := ⟨RX7, "pour", "(III)I"⟩
abbrev cX7_film : ByteArray := prog_1_method_25_code
def yX7_film : MethodName := ⟨RX7, "film", "(III)I"⟩
abbrev cX7_sheet : ByteArray := prog_1_method_26_code
def yX7_sheet : MethodName := ⟨RX7, "sheet", "(III)I"⟩
abbrev cX7_drop : ByteArray := prog_1_method_27_code
def yX7_drop : MethodName := ⟨RX7, "drop", "(I)I"⟩
abbrev cX7_item : ByteArray := prog_1_method_28_code
def yX7_item : MethodName := ⟨RX7, "item", "(IIII)I"⟩
abbrev cX7_copy : ByteArray := prog_1_method_29_code
def yX7_copy : MethodName := ⟨RX7, "copy", "(IIIII)I"⟩
abbrev cX7_byteOf : ByteArray := prog_1_method_30_code
def yX7_byteOf : MethodName := ⟨RX7, "byteOf", "(JI)I"⟩
abbrev cX7_happens : ByteArray := prog_1_method_31_code
def yX7_happens : MethodName := ⟨RX7, "happens", "(II)Z"⟩
abbrev cX7_canBeAskedFor : ByteArray := prog_1_method_32_code
def yX7_canBeAskedFor : MethodName := ⟨RX7, "canBeAskedFor", "(II)Z"⟩
abbrev cX7_helpsBySand : ByteArray := prog_1_method_33_code
def yX7_helpsBySand : MethodName := ⟨RX7, "helpsBySand", "(II)Z"⟩
abbrev cX7_isSheet : ByteArray := prog_1_method_34_code
def yX7_isSheet : MethodName := ⟨RX7, "isSheet", "(I)Z"⟩
abbrev cX7_refusalOfRow : ByteArray := prog_1_method_35_code
def yX7_refusalOfRow : MethodName := ⟨RX7, "refusalOfRow", "(IIII)I"⟩
def RX8 : String := "TwelveCarsModel"
def TX8 : u_T := fun k => match k with
  | 0 => ("TwelveCarsModel", "kinds", "[I", true)
  | 1 => ("TwelveCarsModel", "weights", "[I", true)
  | 2 => ("TwelveCarsModel", "cars", "[I", true)
  | 3 => ("TwelveCarsModel", "since", "[I", true)
  | 4 => ("TwelveCarsModel", "many", "I", false)
  | 5 => ("TwelveCarsModel", "sand", "[I", true)
  | 6 => ("TwelveCarsModel", "limit", "I", false)
  | 7 => ("TwelveCarsModel", "minute", "I", false)
  | 8 => ("TwelveCarsModel", "foot", "I", false)
  | 9 => ("TwelveCarsModel", "loads", "[I", true)
  | 10 => ("TwelveCarsModel", "p", "I", false)
  | 11 => ("TwelveCarsModel", "q", "I", false)
  | 12 => ("TwelveCarsModel", "s", "I", false)
  | 13 => ("TwelveCarsModel", "t", "I", false)
  | 14 => ("TwelveCarsModel", "squareA", "J", false)
  | 15 => ("TwelveCarsModel", "squareB", "J", false)
  | 16 => ("TwelveCarsModel", "tape", "[I", true)
  | 17 => ("TwelveCarsModel", "taped", "I", false)
  | 18 => ("TwelveCarsModel", "place", "I", false)
  | 19 => ("TwelveCarsModel", "reads", "I", false)
  | 20 => ("TwelveCarsModel", "read", "[I", true)
  | 21 => ("TwelveCarsModel", "who", "[I", true)
  | 22 => ("TwelveCarsModel", "times", "[I", true)
  | 23 => ("TwelveCarsModel", "first", "[I", true)
  | 24 => ("TwelveCarsModel", "whoMany", "I", false)
  | 25 => ("TwelveCarsModel", "can", "[Z", true)
  | 26 => ("TwelveCarsModel", "then", "[Z", true)
  | 27 => ("TwelveCarsModel", "worstA", "J", false)
  | 28 => ("TwelveCarsModel", "worstB", "J", false)
  | 29 => ("TwelveCarsModel", "isKept", "Z", false)
  | 30 => ("TwelveCarsModel", "kept", "[I", true)
  | 31 => ("TwelveCarsModel", "lanes", "[I", true)
  | 32 => ("TwelveCarsModel", "rowSizes", "[I", true)
  | 33 => ("TwelveCarsModel", "items", "[I", true)
  | _ => ("TwelveCarsModel", "moved", "[I", true)
def tyX8 : Nat → FieldType := fun k => match k with
  | 0 => .array .int
  | 1 => .array .int
  | 2 => .array .int
  | 3 => .array .int
  | 4 => .int
  | 5 => .array .int
  | 6 => .int
  | 7 => .int
  | 8 => .int
  | 9 => .array .int
  | 10 => .int
  | 11 => .int
  | 12 => .int
  | 13 => .int
  | 14 => .long
  | 15 => .long
  | 16 => .array .int
  | 17 => .int
  | 18 => .int
  | 19 => .int
  | 20 => .array .int
  | 21 => .array .int
  | 22 => .array .int
  | 23 => .array .int
  | 24 => .int
  | 25 => .array .boolean
  | 26 => .array .boolean
  | 27 => .long
  | 28 => .long
  | 29 => .boolean
  | 30 => .array .int
  | 31 => .array .int
  | 32 => .array .int
  | 33 => .array .int
  | _ => .array .int
abbrev wsX80 : List Cond := u_ws RX8 TX8 35
theorem nmX8 : ∀ a, a < 35 → ∀ b, b < 35 → a ≠ b → (TX8 a).2.1 ≠ (TX8 b).2.1 := by decide +kernel
theorem tyX8_ok : ∀ k, k < 35 → parseFieldDescriptor (TX8 k).2.2.1 = some (tyX8 k) := by decide +kernel
abbrev cX8_init : ByteArray := prog_10_method_1_code
def yX8_init : MethodName := ⟨RX8, "<init>", "()V"⟩
abbrev cX8_in : ByteArray := prog_10_method_2_code
def yX8_in : MethodName := ⟨RX8, "in", "(JJJ)Z"⟩
abbrev cX8_has : ByteArray := prog_10_method_3_code
def yX8_has : MethodName := ⟨RX8, "has", "(II)Z"⟩
abbrev cX8_isOne : ByteArray := prog_10_method_4_code
def yX8_isOne : MethodName := ⟨RX8, "isOne", "(I)Z"⟩
abbrev cX8_isCar : ByteArray := prog_10_method_5_code
def yX8_isCar : MethodName := ⟨RX8, "isCar", "(I)Z"⟩
abbrev cX8_add : ByteArray := prog_10_method_6_code
def yX8_add : MethodName := ⟨RX8, "add", "(II)V"⟩
abbrev cX8_person : ByteArray := prog_10_method_7_code
def yX8_person : MethodName := ⟨RX8, "person", "(II)I"⟩
abbrev cX8_told : ByteArray := prog_10_method_8_code
def yX8_told : MethodName := ⟨RX8, "told", "(II)I"⟩
abbrev cX8_whoIn : ByteArray := prog_10_method_9_code
def yX8_whoIn : MethodName := ⟨RX8, "whoIn", "(I)I"⟩
abbrev cX8_seatsOf : ByteArray := prog_10_method_10_code
def yX8_seatsOf : MethodName := ⟨RX8, "seatsOf", "(I)I"⟩
abbrev cX8_weightOf : ByteArray := prog_10_method_11_code
def yX8_weightOf : MethodName := ⟨RX8, "weightOf", "(I)I"⟩
abbrev cX8_fits : ByteArray := prog_10_method_12_code
def yX8_fits : MethodName := ⟨RX8, "fits", "(I)Z"⟩
abbrev cX8_car : ByteArray := prog_10_method_13_code
def yX8_car : MethodName := ⟨RX8, "car", "(II)I"⟩
abbrev cX8_findLoads : ByteArray := prog_10_method_14_code
def yX8_findLoads : MethodName := ⟨RX8, "findLoads", "()V"⟩
abbrev cX8_cosine : ByteArray := prog_10_method_15_code
def yX8_cosine : MethodName := ⟨RX8, "cosine", "(II)I"⟩
abbrev cX8_findSquare : ByteArray := prog_10_method_16_code
def yX8_findSquare : MethodName := ⟨RX8, "findSquare", "()V"⟩
abbrev cX8_isNoMore : ByteArray := prog_10_method_17_code
def yX8_isNoMore : MethodName := ⟨RX8, "isNoMore", "(JJ)Z"⟩
abbrev cX8_isEvenNow : ByteArray := prog_10_method_18_code
def yX8_isEvenNow : MethodName := ⟨RX8, "isEvenNow", "()Z"⟩
abbrev cX8_isEven : ByteArray := prog_10_method_19_code
def yX8_isEven : MethodName := ⟨RX8, "isEven", "()Z"⟩
abbrev cX8_limit : ByteArray := prog_10_method_20_code
def yX8_limit : MethodName := ⟨RX8, "limit", "(I)I"⟩
abbrev cX8_out : ByteArray := prog_10_method_21_code
def yX8_out : MethodName := ⟨RX8, "out", "(I)I"⟩
abbrev cX8_count : ByteArray := prog_10_method_22_code
def yX8_count : MethodName := ⟨RX8, "count", "(I)I"⟩
abbrev cX8_type : ByteArray := prog_10_method_23_code
def yX8_type : MethodName := ⟨RX8, "type", "(JI)I"⟩
abbrev cX8_nextByte : ByteArray := prog_10_method_24_code
def yX8_nextByte : MethodName := ⟨RX8, "nextByte", "()I"⟩
abbrev cX8_readNumber : ByteArray := prog_10_method_25_code
def yX8_readNumber : MethodName := ⟨RX8, "readNumber", "(II)I"⟩
abbrev cX8_readOne : ByteArray := prog_10_method_26_code
def yX8_readOne : MethodName := ⟨RX8, "readOne", "(I)Z"⟩
abbrev cX8_readPeople : ByteArray := prog_10_method_27_code
def yX8_readPeople : MethodName := ⟨RX8, "readPeople", "()Z"⟩
abbrev cX8_people : ByteArray := prog_10_method_28_code
def yX8_people : MethodName := ⟨RX8, "people", "()I"⟩
abbrev cX8_readAct : ByteArray := prog_10_method_29_code
def yX8_readAct : MethodName := ⟨RX8, "readAct", "(I)Z"⟩
abbrev cX8_readEvening : ByteArray := prog_10_method_30_code
def yX8_readEvening : MethodName := ⟨RX8, "readEvening", "()Z"⟩
abbrev cX8_does : ByteArray := prog_10_method_31_code
def yX8_does : MethodName := ⟨RX8, "does", "(I)Z"⟩
abbrev cX8_evening : ByteArray := prog_10_method_32_code
def yX8_evening : MethodName := ⟨RX8, "evening", "()I"⟩
abbrev cX8_mayBoard : ByteArray := prog_10_method_33_code
def yX8_mayBoard : MethodName := ⟨RX8, "mayBoard", "(I)Z"⟩
abbrev cX8_mayLeave : ByteArray := prog_10_method_34_code
def yX8_mayLeave : MethodName := ⟨RX8, "mayLeave", "(I)Z"⟩
abbrev cX8_board : ByteArray := prog_10_method_35_code
def yX8_board : MethodName := ⟨RX8, "board", "(I)I"⟩
abbrev cX8_leave : ByteArray := prog_10_method_36_code
def yX8_leave : MethodName := ⟨RX8, "leave", "(I)I"⟩
abbrev cX8_sand : ByteArray := prog_10_method_37_code
def yX8_sand : MethodName := ⟨RX8, "sand", "(I)I"⟩
abbrev cX8_turn : ByteArray := prog_10_method_38_code
def yX8_turn : MethodName := ⟨RX8, "turn", "(I)I"⟩
abbrev cX8_may : ByteArray := prog_10_method_39_code
def yX8_may : MethodName := ⟨RX8, "may", "(I)I"⟩
abbrev cX8_ones : ByteArray := prog_10_method_40_code
def yX8_ones : MethodName := ⟨RX8, "ones", "(I)I"⟩
abbrev cX8_isAllIn : ByteArray := prog_10_method_41_code
def yX8_isAllIn : MethodName := ⟨RX8, "isAllIn", "(II)Z"⟩
abbrev cX8_areSo : ByteArray := prog_10_method_42_code
def yX8_areSo : MethodName := ⟨RX8, "areSo", "(I)Z"⟩
abbrev cX8_canBoard : ByteArray := prog_10_method_43_code
def yX8_canBoard : MethodName := ⟨RX8, "canBoard", "()Z"⟩
abbrev cX8_nextTimes : ByteArray := prog_10_method_44_code
def yX8_nextTimes : MethodName := ⟨RX8, "nextTimes", "()Z"⟩
abbrev cX8_findSoonest : ByteArray := prog_10_method_45_code
def yX8_findSoonest : MethodName := ⟨RX8, "findSoonest", "(II)I"⟩
abbrev cX8_soonest : ByteArray := prog_10_method_46_code
def yX8_soonest : MethodName := ⟨RX8, "soonest", "(II)I"⟩
abbrev cX8_when : ByteArray := prog_10_method_47_code
def yX8_when : MethodName := ⟨RX8, "when", "(III)I"⟩
abbrev cX8_isEvenWith : ByteArray := prog_10_method_48_code
def yX8_isEvenWith : MethodName := ⟨RX8, "isEvenWith", "(I)Z"⟩
abbrev cX8_empty : ByteArray := prog_10_method_49_code
def yX8_empty : MethodName := ⟨RX8, "empty", "()I"⟩
abbrev cX8_getOut : ByteArray := prog_10_method_50_code
def yX8_getOut : MethodName := ⟨RX8, "getOut", "(I)V"⟩
abbrev cX8_least : ByteArray := prog_10_method_51_code
def yX8_least : MethodName := ⟨RX8, "least", "(II)I"⟩
abbrev cX8_findWorst : ByteArray := prog_10_method_52_code
def yX8_findWorst : MethodName := ⟨RX8, "findWorst", "(I)V"⟩
abbrev cX8_sure : ByteArray := prog_10_method_53_code
def yX8_sure : MethodName := ⟨RX8, "sure", "(I)I"⟩
abbrev cX8_worst : ByteArray := prog_10_method_54_code
def yX8_worst : MethodName := ⟨RX8, "worst", "(II)I"⟩
abbrev cX8_carried : ByteArray := prog_10_method_55_code
def yX8_carried : MethodName := ⟨RX8, "carried", "(IIZ)I"⟩
abbrev cX8_image : ByteArray := prog_10_method_56_code
def yX8_image : MethodName := ⟨RX8, "image", "()I"⟩
abbrev cX8_restore : ByteArray := prog_10_method_57_code
def yX8_restore : MethodName := ⟨RX8, "restore", "()I"⟩
abbrev cX8_isSheet : ByteArray := prog_10_method_58_code
def yX8_isSheet : MethodName := ⟨RX8, "isSheet", "(II)Z"⟩
abbrev cX8_asLane : ByteArray := prog_10_method_59_code
def yX8_asLane : MethodName := ⟨RX8, "asLane", "(II)I"⟩
abbrev cX8_sheet : ByteArray := prog_10_method_60_code
def yX8_sheet : MethodName := ⟨RX8, "sheet", "(III)I"⟩
abbrev cX8_drop : ByteArray := prog_10_method_61_code
def yX8_drop : MethodName := ⟨RX8, "drop", "(I)I"⟩
abbrev cX8_lacksRow : ByteArray := prog_10_method_62_code
def yX8_lacksRow : MethodName := ⟨RX8, "lacksRow", "(IIII)I"⟩
abbrev cX8_item : ByteArray := prog_10_method_63_code
def yX8_item : MethodName := ⟨RX8, "item", "(IIII)I"⟩
abbrev cX8_pour : ByteArray := prog_10_method_64_code
def yX8_pour : MethodName := ⟨RX8, "pour", "(III)I"⟩
abbrev cX8_film : ByteArray := prog_10_method_65_code
def yX8_film : MethodName := ⟨RX8, "film", "(III)I"⟩
abbrev cX8_copy : ByteArray := prog_10_method_66_code
def yX8_copy : MethodName := ⟨RX8, "copy", "(IIIII)I"⟩
def RJ11 : String := "java/lang/Character"
def TJ11 : u_T := fun k => match k with
  | _ => ("", "", "", false)
def tyJ11 : Nat → FieldType := fun k => match k with
  | _ => .int
abbrev wsJ110 : List Cond := u_ws RJ11 TJ11 0
theorem nmJ11 : ∀ a, a < 0 → ∀ b, b < 0 → a ≠ b → (TJ11 a).2.1 ≠ (TJ11 b).2.1 := by decide +kernel
theorem tyJ11_ok : ∀ k, k < 0 → parseFieldDescriptor (TJ11 k).2.2.1 = some (tyJ11 k) := by decide +kernel
abbrev cJ11_isValidCodePoint_9a6ad : ByteArray := prog_11_method_11_code
def yJ11_isValidCodePoint_9a6ad : MethodName := ⟨RJ11, "isValidCodePoint", "(I)Z"⟩
abbrev cJ11_highSurrogate_5068e : ByteArray := prog_11_method_28_code
def yJ11_highSurrogate_5068e : MethodName := ⟨RJ11, "highSurrogate", "(I)C"⟩
abbrev cJ11_lowSurrogate_5068e : ByteArray := prog_11_method_29_code
def yJ11_lowSurrogate_5068e : MethodName := ⟨RJ11, "lowSurrogate", "(I)C"⟩
def RJ6 : String := "java/lang/Integer"
def TJ6 : u_T := fun k => match k with
  | _ => ("", "", "", false)
def tyJ6 : Nat → FieldType := fun k => match k with
  | _ => .int
abbrev wsJ60 : List Cond := u_ws RJ6 TJ6 0
theorem nmJ6 : ∀ a, a < 0 → ∀ b, b < 0 → a ≠ b → (TJ6 a).2.1 ≠ (TJ6 b).2.1 := by decide +kernel
theorem tyJ6_ok : ∀ k, k < 0 → parseFieldDescriptor (TJ6 k).2.2.1 = some (tyJ6 k) := by decide +kernel
abbrev cJ6_bitCount_0f7a4 : ByteArray := prog_12_method_49_code
def yJ6_bitCount_0f7a4 : MethodName := ⟨RJ6, "bitCount", "(I)I"⟩
def RJ9 : String := "java/lang/Math"
def TJ9 : u_T := fun k => match k with
  | _ => ("", "", "", false)
def tyJ9 : Nat → FieldType := fun k => match k with
  | _ => .int
abbrev wsJ90 : List Cond := u_ws RJ9 TJ9 0
theorem nmJ9 : ∀ a, a < 0 → ∀ b, b < 0 → a ≠ b → (TJ9 a).2.1 ≠ (TJ9 b).2.1 := by decide +kernel
theorem tyJ9_ok : ∀ k, k < 0 → parseFieldDescriptor (TJ9 k).2.2.1 = some (tyJ9 k) := by decide +kernel
abbrev cJ9_max_7cf53 : ByteArray := prog_13_method_65_code
def yJ9_max_7cf53 : MethodName := ⟨RJ9, "max", "(II)I"⟩
abbrev cJ9_min_7cf53 : ByteArray := prog_13_method_69_code
def yJ9_min_7cf53 : MethodName := ⟨RJ9, "min", "(II)I"⟩
def RJ0 : String := "java/lang/String"
def TJ0 : u_T := fun k => match k with
  | _ => ("", "", "", false)
def tyJ0 : Nat → FieldType := fun k => match k with
  | _ => .int
abbrev wsJ00 : List Cond := u_ws RJ0 TJ0 0
theorem nmJ0 : ∀ a, a < 0 → ∀ b, b < 0 → a ≠ b → (TJ0 a).2.1 ≠ (TJ0 b).2.1 := by decide +kernel
theorem tyJ0_ok : ∀ k, k < 0 → parseFieldDescriptor (TJ0 k).2.2.1 = some (tyJ0 k) := by decide +kernel
abbrev cJ0_length_8abf5 : ByteArray := prog_14_method_54_code
def yJ0_length_8abf5 : MethodName := ⟨RJ0, "length", "()I"⟩
abbrev cJ0_indexOf_0f7a4 : ByteArray := prog_14_method_79_code
def yJ0_indexOf_0f7a4 : MethodName := ⟨RJ0, "indexOf", "(I)I"⟩
abbrev cJ0_indexOf_7cf53 : ByteArray := prog_14_method_80_code
def yJ0_indexOf_7cf53 : MethodName := ⟨RJ0, "indexOf", "(II)I"⟩
abbrev cJ0_coder_7d493 : ByteArray := prog_14_method_152_code
def yJ0_coder_7d493 : MethodName := ⟨RJ0, "coder", "()B"⟩
abbrev cJ0_isLatin1_aae02 : ByteArray := prog_14_method_154_code
def yJ0_isLatin1_aae02 : MethodName := ⟨RJ0, "isLatin1", "()Z"⟩
abbrev cJ0_checkBoundsBeginEnd_23922 : ByteArray := prog_14_method_158_code
def yJ0_checkBoundsBeginEnd_23922 : MethodName := ⟨RJ0, "checkBoundsBeginEnd", "(III)V"⟩
def RJ1 : String := "java/lang/StringLatin1"
def TJ1 : u_T := fun k => match k with
  | _ => ("", "", "", false)
def tyJ1 : Nat → FieldType := fun k => match k with
  | _ => .int
abbrev wsJ10 : List Cond := u_ws RJ1 TJ1 0
theorem nmJ1 : ∀ a, a < 0 → ∀ b, b < 0 → a ≠ b → (TJ1 a).2.1 ≠ (TJ1 b).2.1 := by decide +kernel
theorem tyJ1_ok : ∀ k, k < 0 → parseFieldDescriptor (TJ1 k).2.2.1 = some (tyJ1 k) := by decide +kernel
abbrev cJ1_canEncode_9a6ad : ByteArray := prog_15_method_4_code
def yJ1_canEncode_9a6ad : MethodName := ⟨RJ1, "canEncode", "(I)Z"⟩
abbrev cJ1_indexOf_4cfef : ByteArray := prog_15_method_22_code
def yJ1_indexOf_4cfef : MethodName := ⟨RJ1, "indexOf", "([BIII)I"⟩
abbrev cJ1_indexOfChar_4cfef : ByteArray := prog_15_method_23_code
def yJ1_indexOfChar_4cfef : MethodName := ⟨RJ1, "indexOfChar", "([BIII)I"⟩
def RJ2 : String := "java/lang/StringUTF16"
def TJ2 : u_T := fun k => match k with
  | _ => ("", "", "", false)
def tyJ2 : Nat → FieldType := fun k => match k with
  | _ => .int
abbrev wsJ20 : List Cond := u_ws RJ2 TJ2 0
theorem nmJ2 : ∀ a, a < 0 → ∀ b, b < 0 → a ≠ b → (TJ2 a).2.1 ≠ (TJ2 b).2.1 := by decide +kernel
theorem tyJ2_ok : ∀ k, k < 0 → parseFieldDescriptor (TJ2 k).2.2.1 = some (tyJ2 k) := by decide +kernel
abbrev cJ2_getChar_3b067 : ByteArray := prog_16_method_5_code
def yJ2_getChar_3b067 : MethodName := ⟨RJ2, "getChar", "([BI)C"⟩
abbrev cJ2_length_9d52b : ByteArray := prog_16_method_6_code
def yJ2_length_9d52b : MethodName := ⟨RJ2, "length", "([B)I"⟩
abbrev cJ2_indexOf_4cfef : ByteArray := prog_16_method_40_code
def yJ2_indexOf_4cfef : MethodName := ⟨RJ2, "indexOf", "([BIII)I"⟩
abbrev cJ2_indexOfChar_4cfef : ByteArray := prog_16_method_47_code
def yJ2_indexOfChar_4cfef : MethodName := ⟨RJ2, "indexOfChar", "([BIII)I"⟩
abbrev cJ2_indexOfCharUnsafe_4cfef : ByteArray := prog_16_method_48_code
def yJ2_indexOfCharUnsafe_4cfef : MethodName := ⟨RJ2, "indexOfCharUnsafe", "([BIII)I"⟩
abbrev cJ2_indexOfSupplementary_4cfef : ByteArray := prog_16_method_49_code
def yJ2_indexOfSupplementary_4cfef : MethodName := ⟨RJ2, "indexOfSupplementary", "([BIII)I"⟩
abbrev cJ2_checkBoundsBeginEnd_d044e : ByteArray := prog_16_method_93_code
def yJ2_checkBoundsBeginEnd_d044e : MethodName := ⟨RJ2, "checkBoundsBeginEnd", "(II[B)V"⟩
def RJ10 : String := "java/lang/System"
def TJ10 : u_T := fun k => match k with
  | _ => ("", "", "", false)
def tyJ10 : Nat → FieldType := fun k => match k with
  | _ => .int
abbrev wsJ100 : List Cond := u_ws RJ10 TJ10 0
theorem nmJ10 : ∀ a, a < 0 → ∀ b, b < 0 → a ≠ b → (TJ10 a).2.1 ≠ (TJ10 b).2.1 := by decide +kernel
theorem tyJ10_ok : ∀ k, k < 0 → parseFieldDescriptor (TJ10 k).2.2.1 = some (tyJ10 k) := by decide +kernel
def RJ3 : String := "jdk/internal/util/Preconditions"
def TJ3 : u_T := fun k => match k with
  | _ => ("", "", "", false)
def tyJ3 : Nat → FieldType := fun k => match k with
  | _ => .int
abbrev wsJ30 : List Cond := u_ws RJ3 TJ3 0
theorem nmJ3 : ∀ a, a < 0 → ∀ b, b < 0 → a ≠ b → (TJ3 a).2.1 ≠ (TJ3 b).2.1 := by decide +kernel
theorem tyJ3_ok : ∀ k, k < 0 → parseFieldDescriptor (TJ3 k).2.2.1 = some (tyJ3 k) := by decide +kernel
abbrev cJ3_checkFromToIndex_8c36e : ByteArray := prog_18_method_12_code
def yJ3_checkFromToIndex_8c36e : MethodName := ⟨RJ3, "checkFromToIndex", "(IIILjava/util/function/BiFunction;)I"⟩
def RL : String := "TwelveCarsLaw"
abbrev cL_law : ByteArray := code
def yL_law : MethodName := ⟨RL, "law", "([I)Z"⟩
abbrev vwCl : List vw_C := [(RX0, TX0, 5), (RX1, TX1, 4), (RX2, TX2, 4), (RX3, TX3, 4), (RX4, TX4, 5), (RX5, TX5, 5), (RX6, TX6, 8), (RX7, TX7, 10), (RX8, TX8, 35)]
/-- the words that go along at every call -/
def wsG : List Cond := lw_tbl.filter goodWord
theorem wsG_good : ∀ w ∈ wsG, goodWord w = true := fun w h => (List.mem_filter.mp h).2
theorem wsG_tbl : ∀ w ∈ wsG, w ∈ lw_tbl := fun w h => (List.mem_filter.mp h).1
theorem wsG_in {w : Cond} (i : Nat) (h : tables_1[i]? = some w) (g : goodWord w = true) : w ∈ wsG := List.mem_filter.mpr ⟨List.mem_append_right _ (List.mem_of_getElem? h), g⟩
theorem wsG_sel {w : Cond} (i : Nat) (h : (k2_sels lw_privs)[i]? = some w) (g : goodWord w = true) : w ∈ wsG := List.mem_filter.mpr ⟨List.mem_append_left _ (List.mem_of_getElem? h), g⟩
theorem lw_in {w : Cond} (i : Nat) (h : tables_1[i]? = some w) : w ∈ lw_tbl := List.mem_append_right _ (List.mem_of_getElem? h)
theorem inX0 : ∀ w ∈ wsX00, w ∈ wsG := by decide +kernel
theorem inX1 : ∀ w ∈ wsX10, w ∈ wsG := by decide +kernel
theorem inX2 : ∀ w ∈ wsX20, w ∈ wsG := by decide +kernel
theorem inX3 : ∀ w ∈ wsX30, w ∈ wsG := by decide +kernel
theorem inX4 : ∀ w ∈ wsX40, w ∈ wsG := by decide +kernel
theorem inX5 : ∀ w ∈ wsX50, w ∈ wsG := by decide +kernel
theorem inX6 : ∀ w ∈ wsX60, w ∈ wsG := by decide +kernel
theorem inX7 : ∀ w ∈ wsX70, w ∈ wsG := by decide +kernel
theorem inX8 : ∀ w ∈ wsX80, w ∈ wsG := by decide +kernel
end
section
theorem k_0 : Cond.initialized RL ∈ wsG := wsG_in 0 (by decide +kernel) (by decide +kernel)
theorem k_1 : Cond.initialized RX7 ∈ wsG := wsG_in 1 (by decide +kernel) (by decide +kernel)
theorem k_2 : Cond.initialized RX6 ∈ wsG := wsG_in 2 (by decide +kernel) (by decide +kernel)
theorem k_3 : Cond.initialized RX5 ∈ wsG := wsG_in 3 (by decide +kernel) (by decide +kernel)
theorem k_4 : Cond.initialized RX0 ∈ wsG := wsG_in 4 (by decide +kernel) (by decide +kernel)
theorem k_5 : Cond.initialized RX2 ∈ wsG := wsG_in 5 (by decide +kernel) (by decide +kernel)
theorem k_6 : Cond.initialized RX1 ∈ wsG := wsG_in 6 (by decide +kernel) (by decide +kernel)
theorem k_7 : Cond.initialized RX4 ∈ wsG := wsG_in 7 (by decide +kernel) (by decide +kernel)
theorem k_8 : Cond.initialized RX3 ∈ wsG := wsG_in 8 (by decide +kernel) (by decide +kernel)
theorem k_9 : Cond.initialized RX8 ∈ wsG := wsG_in 9 (by decide +kernel) (by decide +kernel)
theorem k_10 : Cond.initialized RJ0 ∈ wsG := wsG_in 10 (by decide +kernel) (by decide +kernel)
theorem k_11 : Cond.initialized RJ1 ∈ wsG := wsG_in 11 (by decide +kernel) (by decide +kernel)
theorem k_12 : Cond.initialized RJ9 ∈ wsG := wsG_in 12 (by decide +kernel) (by decide +kernel)
theorem k_13 : Cond.initialized RJ2 ∈ wsG := wsG_in 13 (by decide +kernel) (by decide +kernel)
theorem k_14 : Cond.initialized RJ3 ∈ wsG := wsG_in 14 (by decide +kernel) (by decide +kernel)
theorem k_15 : Cond.initialized RJ11 ∈ wsG := wsG_in 15 (by decide +kernel) (by decide +kernel)
theorem k_16 : Cond.initialized RJ6 ∈ wsG := wsG_in 16 (by decide +kernel) (by decide +kernel)
theorem k_17 : Cond.initialized RJ10 ∈ wsG := wsG_in 17 (by decide +kernel) (by decide +kernel)
theorem k_18 : Cond.classLink RL 7 "TwelveCars" ∈ wsG := wsG_in 18 (by decide +kernel) (by decide +kernel)
theorem k_19 : Cond.instantiable RX7 10 ∈ wsG := wsG_in 19 (by decide +kernel) (by decide +kernel)
theorem k_20 : Cond.methodLink RL 9 yX7_init ∈ wsG := wsG_in 20 (by decide +kernel) (by decide +kernel)
theorem k_21 : Cond.instanceMethod yX7_init ∈ wsG := wsG_in 21 (by decide +kernel) (by decide +kernel)
theorem k_22 : Cond.code yX7_init cX7_init 2 none ∈ wsG := wsG_in 22 (by decide +kernel) (by decide +kernel)
theorem k_23 : Cond.methodLink RX7 1 objectInit ∈ wsG := wsG_in 23 (by decide +kernel) (by decide +kernel)
theorem k_24 : Cond.instanceMethod objectInit ∈ wsG := wsG_in 24 (by decide +kernel) (by decide +kernel)
theorem k_25 : Cond.code objectInit object_method_1_code 1 none ∈ wsG := wsG_in 25 (by decide +kernel) (by decide +kernel)
theorem k_26 : Cond.classLink RX7 7 "TwelveCars$Wheel" ∈ wsG := wsG_in 26 (by decide +kernel) (by decide +kernel)
theorem k_27 : Cond.instantiable RX6 8 ∈ wsG := wsG_in 27 (by decide +kernel) (by decide +kernel)
theorem k_28 : Cond.methodLinkNest RX7 9 yX6_init "TwelveCars" ∈ lw_tbl := lw_in 28 (by decide +kernel)
theorem k_29 : Cond.instanceMethod yX6_init ∈ wsG := wsG_in 29 (by decide +kernel) (by decide +kernel)
theorem k_30 : Cond.code yX6_init cX6_init 1 none ∈ wsG := wsG_in 30 (by decide +kernel) (by decide +kernel)
theorem k_31 : Cond.methodLink RX6 3 objectInit ∈ wsG := wsG_in 31 (by decide +kernel) (by decide +kernel)
theorem k_32 : Cond.fieldLink RX6 9 "TwelveCars$Wheel" "kinds" "[I" ∈ wsG := wsG_in 32 (by decide +kernel) (by decide +kernel)
theorem k_33 : Cond.fieldLink RX7 83 "TwelveCars$Wheel" "kinds" "[I" ∈ wsG := wsG_in 33 (by decide +kernel) (by decide +kernel)
theorem k_34 : Cond.fieldLink RX6 15 "TwelveCars$Wheel" "weights" "[I" ∈ wsG := wsG_in 34 (by decide +kernel) (by decide +kernel)
theorem k_35 : Cond.fieldLink RX4 48 "TwelveCars$Wheel" "weights" "[I" ∈ wsG := wsG_in 35 (by decide +kernel) (by decide +kernel)
theorem k_36 : Cond.fieldLink RX7 86 "TwelveCars$Wheel" "weights" "[I" ∈ wsG := wsG_in 36 (by decide +kernel) (by decide +kernel)
theorem k_37 : Cond.fieldLink RX6 18 "TwelveCars$Wheel" "places" "[I" ∈ wsG := wsG_in 37 (by decide +kernel) (by decide +kernel)
theorem k_38 : Cond.fieldLink RX4 57 "TwelveCars$Wheel" "places" "[I" ∈ wsG := wsG_in 38 (by decide +kernel) (by decide +kernel)
theorem k_39 : Cond.fieldLink RX7 89 "TwelveCars$Wheel" "places" "[I" ∈ wsG := wsG_in 39 (by decide +kernel) (by decide +kernel)
theorem k_40 : Cond.fieldLink RX6 21 "TwelveCars$Wheel" "since" "[I" ∈ wsG := wsG_in 40 (by decide +kernel) (by decide +kernel)
theorem k_41 : Cond.fieldLink RX7 92 "TwelveCars$Wheel" "since" "[I" ∈ wsG := wsG_in 41 (by decide +kernel) (by decide +kernel)
theorem k_42 : Cond.fieldLink RX6 24 "TwelveCars$Wheel" "sands" "[I" ∈ wsG := wsG_in 42 (by decide +kernel) (by decide +kernel)
theorem k_43 : Cond.fieldLink RX7 105 "TwelveCars$Wheel" "sands" "[I" ∈ wsG := wsG_in 43 (by decide +kernel) (by decide +kernel)
theorem k_44 : Cond.fieldLink RX6 27 "TwelveCars$Wheel" "people" "I" ∈ wsG := wsG_in 44 (by decide +kernel) (by decide +kernel)
theorem k_45 : Cond.fieldLink RX7 71 "TwelveCars$Wheel" "people" "I" ∈ wsG := wsG_in 45 (by decide +kernel) (by decide +kernel)
theorem k_46 : Cond.fieldLink RX6 31 "TwelveCars$Wheel" "minute" "I" ∈ wsG := wsG_in 46 (by decide +kernel) (by decide +kernel)
theorem k_47 : Cond.fieldLink RX7 172 "TwelveCars$Wheel" "minute" "I" ∈ wsG := wsG_in 47 (by decide +kernel) (by decide +kernel)
theorem k_48 : Cond.fieldLink RX6 34 "TwelveCars$Wheel" "limit" "I" ∈ wsG := wsG_in 48 (by decide +kernel) (by decide +kernel)
theorem k_49 : Cond.fieldLink RX7 115 "TwelveCars$Wheel" "limit" "I" ∈ wsG := wsG_in 49 (by decide +kernel) (by decide +kernel)
theorem k_50 : Cond.fieldLink RX1 68 "TwelveCars$Wheel" "limit" "I" ∈ wsG := wsG_in 50 (by decide +kernel) (by decide +kernel)
theorem k_51 : Cond.fieldLink RX0 78 "TwelveCars$Wheel" "limit" "I" ∈ wsG := wsG_in 51 (by decide +kernel) (by decide +kernel)
theorem k_69 : Cond.arrayClass FieldType.int ∈ wsG := wsG_in 69 (by decide +kernel) (by decide +kernel)
theorem k_70 : Cond.classLink RX7 19 "TwelveCars$Tape" ∈ wsG := wsG_in 70 (by decide +kernel) (by decide +kernel)
theorem k_71 : Cond.instantiable RX5 5 ∈ wsG := wsG_in 71 (by decide +kernel) (by decide +kernel)
theorem k_72 : Cond.methodLinkNest RX7 21 yX5_init "TwelveCars" ∈ lw_tbl := lw_in 72 (by decide +kernel)
theorem k_73 : Cond.instanceMethod yX5_init ∈ wsG := wsG_in 73 (by decide +kernel) (by decide +kernel)
theorem k_74 : Cond.code yX5_init cX5_init 1 none ∈ wsG := wsG_in 74 (by decide +kernel) (by decide +kernel)
theorem k_75 : Cond.methodLink RX5 3 objectInit ∈ wsG := wsG_in 75 (by decide +kernel) (by decide +kernel)
theorem k_76 : Cond.fieldLink RX5 11 "TwelveCars$Tape" "bytes" "[B" ∈ wsG := wsG_in 76 (by decide +kernel) (by decide +kernel)
theorem k_77 : Cond.fieldLink RX5 34 "TwelveCars$Tape" "at" "I" ∈ wsG := wsG_in 77 (by decide +kernel) (by decide +kernel)
theorem k_78 : Cond.fieldLink RX5 15 "TwelveCars$Tape" "length" "I" ∈ wsG := wsG_in 78 (by decide +kernel) (by decide +kernel)
theorem k_79 : Cond.fieldLink RX7 145 "TwelveCars$Tape" "length" "I" ∈ wsG := wsG_in 79 (by decide +kernel) (by decide +kernel)
theorem k_80 : Cond.fieldLink RX5 19 "TwelveCars$Tape" "letters" "[I" ∈ wsG := wsG_in 80 (by decide +kernel) (by decide +kernel)
theorem k_81 : Cond.fieldLink RX7 159 "TwelveCars$Tape" "letters" "[I" ∈ wsG := wsG_in 81 (by decide +kernel) (by decide +kernel)
theorem k_82 : Cond.fieldLink RX5 23 "TwelveCars$Tape" "numbers" "[I" ∈ wsG := wsG_in 82 (by decide +kernel) (by decide +kernel)
theorem k_83 : Cond.fieldLink RX7 162 "TwelveCars$Tape" "numbers" "[I" ∈ wsG := wsG_in 83 (by decide +kernel) (by decide +kernel)
theorem k_95 : Cond.arrayClass FieldType.byte ∈ wsG := wsG_in 95 (by decide +kernel) (by decide +kernel)
theorem k_96 : Cond.classLink RX7 26 "TwelveCars$AllIn" ∈ wsG := wsG_in 96 (by decide +kernel) (by decide +kernel)
theorem k_97 : Cond.instantiable RX0 5 ∈ wsG := wsG_in 97 (by decide +kernel) (by decide +kernel)
theorem k_98 : Cond.methodLink RX7 28 yX0_init ∈ wsG := wsG_in 98 (by decide +kernel) (by decide +kernel)
theorem k_99 : Cond.instanceMethod yX0_init ∈ wsG := wsG_in 99 (by decide +kernel) (by decide +kernel)
theorem k_100 : Cond.code yX0_init cX0_init 2 none ∈ wsG := wsG_in 100 (by decide +kernel) (by decide +kernel)
theorem k_101 : Cond.methodLink RX0 5 objectInit ∈ wsG := wsG_in 101 (by decide +kernel) (by decide +kernel)
theorem k_102 : Cond.classLink RX0 11 "TwelveCars$Balance" ∈ wsG := wsG_in 102 (by decide +kernel) (by decide +kernel)
theorem k_103 : Cond.instantiable RX2 4 ∈ wsG := wsG_in 103 (by decide +kernel) (by decide +kernel)
theorem k_104 : Cond.methodLinkNest RX0 13 yX2_init "TwelveCars" ∈ lw_tbl := lw_in 104 (by decide +kernel)
theorem k_105 : Cond.instanceMethod yX2_init ∈ wsG := wsG_in 105 (by decide +kernel) (by decide +kernel)
theorem k_106 : Cond.code yX2_init cX2_init 1 none ∈ wsG := wsG_in 106 (by decide +kernel) (by decide +kernel)
theorem k_107 : Cond.methodLink RX2 3 objectInit ∈ wsG := wsG_in 107 (by decide +kernel) (by decide +kernel)
theorem k_108 : Cond.fieldLink RX2 9 "TwelveCars$Balance" "p" "I" ∈ wsG := wsG_in 108 (by decide +kernel) (by decide +kernel)
theorem k_109 : Cond.fieldLink RX7 118 "TwelveCars$Balance" "p" "I" ∈ wsG := wsG_in 109 (by decide +kernel) (by decide +kernel)
theorem k_110 : Cond.fieldLink RX2 15 "TwelveCars$Balance" "q" "I" ∈ wsG := wsG_in 110 (by decide +kernel) (by decide +kernel)
theorem k_111 : Cond.fieldLink RX7 121 "TwelveCars$Balance" "q" "I" ∈ wsG := wsG_in 111 (by decide +kernel) (by decide +kernel)
theorem k_112 : Cond.fieldLink RX2 18 "TwelveCars$Balance" "s" "I" ∈ wsG := wsG_in 112 (by decide +kernel) (by decide +kernel)
theorem k_113 : Cond.fieldLink RX7 124 "TwelveCars$Balance" "s" "I" ∈ wsG := wsG_in 113 (by decide +kernel) (by decide +kernel)
theorem k_114 : Cond.fieldLink RX2 21 "TwelveCars$Balance" "t" "I" ∈ wsG := wsG_in 114 (by decide +kernel) (by decide +kernel)
theorem k_115 : Cond.fieldLink RX7 127 "TwelveCars$Balance" "t" "I" ∈ wsG := wsG_in 115 (by decide +kernel) (by decide +kernel)
theorem k_125 : Cond.fieldLink RX0 18 "TwelveCars$AllIn" "wheel" "LTwelveCars$Wheel;" ∈ wsG := wsG_in 125 (by decide +kernel) (by decide +kernel)
theorem k_126 : Cond.fieldLink RX0 14 "TwelveCars$AllIn" "now" "LTwelveCars$Balance;" ∈ wsG := wsG_in 126 (by decide +kernel) (by decide +kernel)
theorem k_127 : Cond.fieldLink RX0 22 "TwelveCars$AllIn" "asked" "I" ∈ wsG := wsG_in 127 (by decide +kernel) (by decide +kernel)
theorem k_128 : Cond.fieldLink RX0 26 "TwelveCars$AllIn" "how" "I" ∈ wsG := wsG_in 128 (by decide +kernel) (by decide +kernel)
theorem k_129 : Cond.fieldLink RX0 30 "TwelveCars$AllIn" "best" "I" ∈ wsG := wsG_in 129 (by decide +kernel) (by decide +kernel)
theorem k_141 : Cond.classLink RX7 35 "TwelveCars$AllOut" ∈ wsG := wsG_in 141 (by decide +kernel) (by decide +kernel)
theorem k_142 : Cond.instantiable RX1 4 ∈ wsG := wsG_in 142 (by decide +kernel) (by decide +kernel)
theorem k_143 : Cond.methodLink RX7 37 yX1_init ∈ wsG := wsG_in 143 (by decide +kernel) (by decide +kernel)
theorem k_144 : Cond.instanceMethod yX1_init ∈ wsG := wsG_in 144 (by decide +kernel) (by decide +kernel)
theorem k_145 : Cond.code yX1_init cX1_init 2 none ∈ wsG := wsG_in 145 (by decide +kernel) (by decide +kernel)
theorem k_146 : Cond.methodLink RX1 3 objectInit ∈ wsG := wsG_in 146 (by decide +kernel) (by decide +kernel)
theorem k_147 : Cond.classLink RX1 9 "TwelveCars$Balance" ∈ wsG := wsG_in 147 (by decide +kernel) (by decide +kernel)
theorem k_148 : Cond.methodLinkNest RX1 11 yX2_init "TwelveCars" ∈ lw_tbl := lw_in 148 (by decide +kernel)
theorem k_149 : Cond.fieldLink RX1 25 "TwelveCars$AllOut" "wheel" "LTwelveCars$Wheel;" ∈ wsG := wsG_in 149 (by decide +kernel) (by decide +kernel)
theorem k_150 : Cond.fieldLink RX1 12 "TwelveCars$AllOut" "sandAlone" "LTwelveCars$Balance;" ∈ wsG := wsG_in 150 (by decide +kernel) (by decide +kernel)
theorem k_151 : Cond.fieldLink RX1 18 "TwelveCars$AllOut" "scratch" "LTwelveCars$Balance;" ∈ wsG := wsG_in 151 (by decide +kernel) (by decide +kernel)
theorem k_152 : Cond.fieldLink RX1 21 "TwelveCars$AllOut" "states" "[I" ∈ wsG := wsG_in 152 (by decide +kernel) (by decide +kernel)
theorem k_162 : Cond.classLink RX7 42 "TwelveCars$Slips" ∈ wsG := wsG_in 162 (by decide +kernel) (by decide +kernel)
theorem k_163 : Cond.instantiable RX4 5 ∈ wsG := wsG_in 163 (by decide +kernel) (by decide +kernel)
theorem k_164 : Cond.methodLink RX7 44 yX4_init ∈ wsG := wsG_in 164 (by decide +kernel) (by decide +kernel)
theorem k_165 : Cond.instanceMethod yX4_init ∈ wsG := wsG_in 165 (by decide +kernel) (by decide +kernel)
theorem k_166 : Cond.code yX4_init cX4_init 2 none ∈ wsG := wsG_in 166 (by decide +kernel) (by decide +kernel)
theorem k_167 : Cond.methodLink RX4 3 objectInit ∈ wsG := wsG_in 167 (by decide +kernel) (by decide +kernel)
theorem k_168 : Cond.classLink RX4 9 "TwelveCars$Balance" ∈ wsG := wsG_in 168 (by decide +kernel) (by decide +kernel)
theorem k_169 : Cond.methodLinkNest RX4 11 yX2_init "TwelveCars" ∈ lw_tbl := lw_in 169 (by decide +kernel)
theorem k_170 : Cond.fieldLink RX4 28 "TwelveCars$Slips" "wheel" "LTwelveCars$Wheel;" ∈ wsG := wsG_in 170 (by decide +kernel) (by decide +kernel)
theorem k_171 : Cond.fieldLink RX4 12 "TwelveCars$Slips" "sandAlone" "LTwelveCars$Balance;" ∈ wsG := wsG_in 171 (by decide +kernel) (by decide +kernel)
theorem k_172 : Cond.fieldLink RX4 18 "TwelveCars$Slips" "scratch" "LTwelveCars$Balance;" ∈ wsG := wsG_in 172 (by decide +kernel) (by decide +kernel)
theorem k_173 : Cond.fieldLink RX4 21 "TwelveCars$Slips" "riders" "[I" ∈ wsG := wsG_in 173 (by decide +kernel) (by decide +kernel)
theorem k_174 : Cond.fieldLink RX4 25 "TwelveCars$Slips" "worst" "LTwelveCars$Balance;" ∈ wsG := wsG_in 174 (by decide +kernel) (by decide +kernel)
theorem k_175 : Cond.fieldLink RX7 239 "TwelveCars$Slips" "worst" "LTwelveCars$Balance;" ∈ wsG := wsG_in 175 (by decide +kernel) (by decide +kernel)
theorem k_187 : Cond.classLink RX7 49 "TwelveCars$Balance" ∈ wsG := wsG_in 187 (by decide +kernel) (by decide +kernel)
theorem k_188 : Cond.methodLinkNest RX7 51 yX2_init "TwelveCars" ∈ lw_tbl := lw_in 188 (by decide +kernel)
theorem k_189 : Cond.classLink RX7 56 "TwelveCars$Sheet" ∈ wsG := wsG_in 189 (by decide +kernel) (by decide +kernel)
theorem k_190 : Cond.arrayOver (FieldType.object "TwelveCars$Sheet") ∈ lw_tbl := lw_in 190 (by decide +kernel)
theorem k_191 : Cond.instantiable RX3 4 ∈ wsG := wsG_in 191 (by decide +kernel) (by decide +kernel)
theorem k_192 : Cond.methodLinkNest RX7 62 yX3_init "TwelveCars" ∈ lw_tbl := lw_in 192 (by decide +kernel)
theorem k_193 : Cond.instanceMethod yX3_init ∈ wsG := wsG_in 193 (by decide +kernel) (by decide +kernel)
theorem k_194 : Cond.code yX3_init cX3_init 1 none ∈ wsG := wsG_in 194 (by decide +kernel) (by decide +kernel)
theorem k_195 : Cond.methodLink RX3 3 objectInit ∈ wsG := wsG_in 195 (by decide +kernel) (by decide +kernel)
theorem k_196 : Cond.fieldLink RX3 9 "TwelveCars$Sheet" "items" "[I" ∈ wsG := wsG_in 196 (by decide +kernel) (by decide +kernel)
theorem k_197 : Cond.fieldLink RX7 253 "TwelveCars$Sheet" "items" "[I" ∈ wsG := wsG_in 197 (by decide +kernel) (by decide +kernel)
theorem k_198 : Cond.fieldLink RX3 15 "TwelveCars$Sheet" "isHeld" "Z" ∈ wsG := wsG_in 198 (by decide +kernel) (by decide +kernel)
theorem k_199 : Cond.fieldLink RX7 271 "TwelveCars$Sheet" "isHeld" "Z" ∈ wsG := wsG_in 199 (by decide +kernel) (by decide +kernel)
theorem k_200 : Cond.fieldLink RX3 19 "TwelveCars$Sheet" "lane" "I" ∈ wsG := wsG_in 200 (by decide +kernel) (by decide +kernel)
theorem k_201 : Cond.fieldLink RX7 275 "TwelveCars$Sheet" "lane" "I" ∈ wsG := wsG_in 201 (by decide +kernel) (by decide +kernel)
theorem k_202 : Cond.fieldLink RX3 23 "TwelveCars$Sheet" "length" "I" ∈ wsG := wsG_in 202 (by decide +kernel) (by decide +kernel)
theorem k_203 : Cond.fieldLink RX7 274 "TwelveCars$Sheet" "length" "I" ∈ wsG := wsG_in 203 (by decide +kernel) (by decide +kernel)
theorem k_213 : Cond.fieldLink RX7 10 "TwelveCars" "wheel" "LTwelveCars$Wheel;" ∈ wsG := wsG_in 213 (by decide +kernel) (by decide +kernel)
theorem k_214 : Cond.fieldLink RX7 16 "TwelveCars" "kept" "LTwelveCars$Wheel;" ∈ wsG := wsG_in 214 (by decide +kernel) (by decide +kernel)
theorem k_215 : Cond.fieldLink RX7 22 "TwelveCars" "tape" "LTwelveCars$Tape;" ∈ wsG := wsG_in 215 (by decide +kernel) (by decide +kernel)
theorem k_216 : Cond.fieldLink RX7 31 "TwelveCars" "allIn" "LTwelveCars$AllIn;" ∈ wsG := wsG_in 216 (by decide +kernel) (by decide +kernel)
theorem k_217 : Cond.fieldLink RX7 38 "TwelveCars" "allOut" "LTwelveCars$AllOut;" ∈ wsG := wsG_in 217 (by decide +kernel) (by decide +kernel)
theorem k_218 : Cond.fieldLink RX7 45 "TwelveCars" "slips" "LTwelveCars$Slips;" ∈ wsG := wsG_in 218 (by decide +kernel) (by decide +kernel)
theorem k_219 : Cond.fieldLink RX7 52 "TwelveCars" "trial" "LTwelveCars$Balance;" ∈ wsG := wsG_in 219 (by decide +kernel) (by decide +kernel)
theorem k_220 : Cond.fieldLink RX7 58 "TwelveCars" "sheets" "[LTwelveCars$Sheet;" ∈ wsG := wsG_in 220 (by decide +kernel) (by decide +kernel)
theorem k_221 : Cond.fieldLink RX7 63 "TwelveCars" "poured" "[I" ∈ wsG := wsG_in 221 (by decide +kernel) (by decide +kernel)
theorem k_222 : Cond.fieldLink RX7 67 "TwelveCars" "hasImage" "Z" ∈ wsG := wsG_in 222 (by decide +kernel) (by decide +kernel)
theorem k_244 : Cond.methodLink RL 13 yX7_person ∈ wsG := wsG_in 244 (by decide +kernel) (by decide +kernel)
theorem k_245 : Cond.instanceMethod yX7_person ∈ wsG := wsG_in 245 (by decide +kernel) (by decide +kernel)
theorem k_246 : Cond.selects RX7 yX7_person yX7_person ∈ wsG := wsG_in 246 (by decide +kernel) (by decide +kernel)
theorem k_247 : Cond.code yX7_person cX7_person 3 (some FieldType.int) ∈ wsG := wsG_in 247 (by decide +kernel) (by decide +kernel)
theorem k_248 : Cond.methodLink RX7 75 yX6_addOne ∈ wsG := wsG_in 248 (by decide +kernel) (by decide +kernel)
theorem k_249 : Cond.instanceMethod yX6_addOne ∈ wsG := wsG_in 249 (by decide +kernel) (by decide +kernel)
theorem k_250 : Cond.selects RX6 yX6_addOne yX6_addOne ∈ wsG := wsG_in 250 (by decide +kernel) (by decide +kernel)
theorem k_251 : Cond.code yX6_addOne cX6_addOne 3 (some FieldType.int) ∈ wsG := wsG_in 251 (by decide +kernel) (by decide +kernel)
theorem k_252 : Cond.methodLink RL 18 yX7_told ∈ wsG := wsG_in 252 (by decide +kernel) (by decide +kernel)
theorem k_253 : Cond.instanceMethod yX7_told ∈ wsG := wsG_in 253 (by decide +kernel) (by decide +kernel)
theorem k_254 : Cond.selects RX7 yX7_told yX7_told ∈ wsG := wsG_in 254 (by decide +kernel) (by decide +kernel)
theorem k_255 : Cond.code yX7_told cX7_told 3 (some FieldType.int) ∈ wsG := wsG_in 255 (by decide +kernel) (by decide +kernel)
theorem k_256 : Cond.methodLink RX7 79 yX6_has ∈ wsG := wsG_in 256 (by decide +kernel) (by decide +kernel)
theorem k_257 : Cond.instanceMethod yX6_has ∈ wsG := wsG_in 257 (by decide +kernel) (by decide +kernel)
theorem k_258 : Cond.selects RX6 yX6_has yX6_has ∈ wsG := wsG_in 258 (by decide +kernel) (by decide +kernel)
theorem k_259 : Cond.code yX6_has cX6_has 2 (some FieldType.boolean) ∈ wsG := wsG_in 259 (by decide +kernel) (by decide +kernel)
theorem k_260 : Cond.methodLink RL 22 yX7_car ∈ wsG := wsG_in 260 (by decide +kernel) (by decide +kernel)
theorem k_261 : Cond.instanceMethod yX7_car ∈ wsG := wsG_in 261 (by decide +kernel) (by decide +kernel)
theorem k_262 : Cond.selects RX7 yX7_car yX7_car ∈ wsG := wsG_in 262 (by decide +kernel) (by decide +kernel)
theorem k_263 : Cond.code yX7_car cX7_car 4 (some FieldType.int) ∈ wsG := wsG_in 263 (by decide +kernel) (by decide +kernel)
theorem k_264 : Cond.methodLink RX7 95 yX6_whoIsAt ∈ wsG := wsG_in 264 (by decide +kernel) (by decide +kernel)
theorem k_265 : Cond.instanceMethod yX6_whoIsAt ∈ wsG := wsG_in 265 (by decide +kernel) (by decide +kernel)
theorem k_266 : Cond.selects RX6 yX6_whoIsAt yX6_whoIsAt ∈ wsG := wsG_in 266 (by decide +kernel) (by decide +kernel)
theorem k_267 : Cond.code yX6_whoIsAt cX6_whoIsAt 4 (some FieldType.int) ∈ wsG := wsG_in 267 (by decide +kernel) (by decide +kernel)
theorem k_268 : Cond.methodLink RX7 99 yX6_loadOf ∈ wsG := wsG_in 268 (by decide +kernel) (by decide +kernel)
theorem k_269 : Cond.instanceMethod yX6_loadOf ∈ wsG := wsG_in 269 (by decide +kernel) (by decide +kernel)
theorem k_270 : Cond.selects RX6 yX6_loadOf yX6_loadOf ∈ wsG := wsG_in 270 (by decide +kernel) (by decide +kernel)
theorem k_271 : Cond.code yX6_loadOf cX6_loadOf 2 (some FieldType.int) ∈ wsG := wsG_in 271 (by decide +kernel) (by decide +kernel)
theorem k_272 : Cond.methodLink RX6 51 yX6_whoIsAt ∈ wsG := wsG_in 272 (by decide +kernel) (by decide +kernel)
theorem k_273 : Cond.methodLink RX6 55 yX6_weightOf ∈ wsG := wsG_in 273 (by decide +kernel) (by decide +kernel)
theorem k_274 : Cond.instanceMethod yX6_weightOf ∈ wsG := wsG_in 274 (by decide +kernel) (by decide +kernel)
theorem k_275 : Cond.selects RX6 yX6_weightOf yX6_weightOf ∈ wsG := wsG_in 275 (by decide +kernel) (by decide +kernel)
theorem k_276 : Cond.code yX6_weightOf cX6_weightOf 4 (some FieldType.int) ∈ wsG := wsG_in 276 (by decide +kernel) (by decide +kernel)
theorem k_277 : Cond.methodLink RX7 102 yX6_seatsOf ∈ wsG := wsG_in 277 (by decide +kernel) (by decide +kernel)
theorem k_278 : Cond.instanceMethod yX6_seatsOf ∈ wsG := wsG_in 278 (by decide +kernel) (by decide +kernel)
theorem k_279 : Cond.selects RX6 yX6_seatsOf yX6_seatsOf ∈ wsG := wsG_in 279 (by decide +kernel) (by decide +kernel)
theorem k_280 : Cond.code yX6_seatsOf cX6_seatsOf 4 (some FieldType.int) ∈ wsG := wsG_in 280 (by decide +kernel) (by decide +kernel)
theorem k_281 : Cond.fieldLink RX6 58 "TwelveCars$Wheel" "SEATS" "[I" ∈ wsG := wsG_in 281 (by decide +kernel) (by decide +kernel)
theorem k_282 : Cond.laysStatic RX6 "SEATS" "[I" ∈ lw_tbl := lw_in 282 (by decide +kernel)
theorem k_283 : Cond.methodLink RL 26 yX7_limit ∈ wsG := wsG_in 283 (by decide +kernel) (by decide +kernel)
theorem k_284 : Cond.instanceMethod yX7_limit ∈ wsG := wsG_in 284 (by decide +kernel) (by decide +kernel)
theorem k_285 : Cond.selects RX7 yX7_limit yX7_limit ∈ wsG := wsG_in 285 (by decide +kernel) (by decide +kernel)
theorem k_286 : Cond.code yX7_limit cX7_limit 3 (some FieldType.int) ∈ wsG := wsG_in 286 (by decide +kernel) (by decide +kernel)
theorem k_287 : Cond.methodLink RX7 108 yX6_weighAll ∈ wsG := wsG_in 287 (by decide +kernel) (by decide +kernel)
theorem k_288 : Cond.instanceMethod yX6_weighAll ∈ wsG := wsG_in 288 (by decide +kernel) (by decide +kernel)
theorem k_289 : Cond.selects RX6 yX6_weighAll yX6_weighAll ∈ wsG := wsG_in 289 (by decide +kernel) (by decide +kernel)
theorem k_290 : Cond.code yX6_weighAll cX6_weighAll 2 none ∈ wsG := wsG_in 290 (by decide +kernel) (by decide +kernel)
theorem k_291 : Cond.methodLink RX6 77 yX6_weighSand ∈ wsG := wsG_in 291 (by decide +kernel) (by decide +kernel)
theorem k_292 : Cond.instanceMethod yX6_weighSand ∈ wsG := wsG_in 292 (by decide +kernel) (by decide +kernel)
theorem k_293 : Cond.selects RX6 yX6_weighSand yX6_weighSand ∈ wsG := wsG_in 293 (by decide +kernel) (by decide +kernel)
theorem k_294 : Cond.code yX6_weighSand cX6_weighSand 3 none ∈ wsG := wsG_in 294 (by decide +kernel) (by decide +kernel)
theorem k_295 : Cond.methodLink RX6 61 yX2_clear ∈ wsG := wsG_in 295 (by decide +kernel) (by decide +kernel)
theorem k_296 : Cond.instanceMethod yX2_clear ∈ wsG := wsG_in 296 (by decide +kernel) (by decide +kernel)
theorem k_297 : Cond.selects RX2 yX2_clear yX2_clear ∈ wsG := wsG_in 297 (by decide +kernel) (by decide +kernel)
theorem k_298 : Cond.code yX2_clear cX2_clear 1 none ∈ wsG := wsG_in 298 (by decide +kernel) (by decide +kernel)
theorem k_299 : Cond.methodLink RX6 66 yX2_hang ∈ wsG := wsG_in 299 (by decide +kernel) (by decide +kernel)
theorem k_300 : Cond.instanceMethod yX2_hang ∈ wsG := wsG_in 300 (by decide +kernel) (by decide +kernel)
theorem k_301 : Cond.selects RX2 yX2_hang yX2_hang ∈ wsG := wsG_in 301 (by decide +kernel) (by decide +kernel)
theorem k_302 : Cond.code yX2_hang cX2_hang 3 none ∈ wsG := wsG_in 302 (by decide +kernel) (by decide +kernel)
theorem k_303 : Cond.fieldLink RX2 24 "TwelveCars$Balance" "COSINE_WHOLE" "[I" ∈ wsG := wsG_in 303 (by decide +kernel) (by decide +kernel)
theorem k_304 : Cond.laysStatic RX2 "COSINE_WHOLE" "[I" ∈ lw_tbl := lw_in 304 (by decide +kernel)
theorem k_305 : Cond.fieldLink RX2 28 "TwelveCars$Balance" "COSINE_ROOT" "[I" ∈ wsG := wsG_in 305 (by decide +kernel) (by decide +kernel)
theorem k_306 : Cond.laysStatic RX2 "COSINE_ROOT" "[I" ∈ lw_tbl := lw_in 306 (by decide +kernel)
theorem k_307 : Cond.fieldLink RX2 31 "TwelveCars$Balance" "SINE_WHOLE" "[I" ∈ wsG := wsG_in 307 (by decide +kernel) (by decide +kernel)
theorem k_308 : Cond.laysStatic RX2 "SINE_WHOLE" "[I" ∈ lw_tbl := lw_in 308 (by decide +kernel)
theorem k_309 : Cond.fieldLink RX2 34 "TwelveCars$Balance" "SINE_ROOT" "[I" ∈ wsG := wsG_in 309 (by decide +kernel) (by decide +kernel)
theorem k_310 : Cond.laysStatic RX2 "SINE_ROOT" "[I" ∈ lw_tbl := lw_in 310 (by decide +kernel)
theorem k_311 : Cond.methodLink RX6 70 yX6_whoRides ∈ wsG := wsG_in 311 (by decide +kernel) (by decide +kernel)
theorem k_312 : Cond.instanceMethod yX6_whoRides ∈ wsG := wsG_in 312 (by decide +kernel) (by decide +kernel)
theorem k_313 : Cond.selects RX6 yX6_whoRides yX6_whoRides ∈ wsG := wsG_in 313 (by decide +kernel) (by decide +kernel)
theorem k_314 : Cond.code yX6_whoRides cX6_whoRides 3 (some FieldType.int) ∈ wsG := wsG_in 314 (by decide +kernel) (by decide +kernel)
theorem k_315 : Cond.methodLink RX6 73 yX6_hangThese ∈ wsG := wsG_in 315 (by decide +kernel) (by decide +kernel)
theorem k_316 : Cond.instanceMethod yX6_hangThese ∈ wsG := wsG_in 316 (by decide +kernel) (by decide +kernel)
theorem k_317 : Cond.selects RX6 yX6_hangThese yX6_hangThese ∈ wsG := wsG_in 317 (by decide +kernel) (by decide +kernel)
theorem k_318 : Cond.code yX6_hangThese cX6_hangThese 4 none ∈ wsG := wsG_in 318 (by decide +kernel) (by decide +kernel)
theorem k_319 : Cond.methodLink RX7 112 yX2_isEvenWithin ∈ wsG := wsG_in 319 (by decide +kernel) (by decide +kernel)
theorem k_320 : Cond.instanceMethod yX2_isEvenWithin ∈ wsG := wsG_in 320 (by decide +kernel) (by decide +kernel)
theorem k_321 : Cond.selects RX2 yX2_isEvenWithin yX2_isEvenWithin ∈ wsG := wsG_in 321 (by decide +kernel) (by decide +kernel)
theorem k_322 : Cond.code yX2_isEvenWithin cX2_isEvenWithin 2 (some FieldType.boolean) ∈ wsG := wsG_in 322 (by decide +kernel) (by decide +kernel)
theorem k_323 : Cond.methodLink RX2 41 yX2_wholePart ∈ wsG := wsG_in 323 (by decide +kernel) (by decide +kernel)
theorem k_324 : Cond.instanceMethod yX2_wholePart ∈ wsG := wsG_in 324 (by decide +kernel) (by decide +kernel)
theorem k_325 : Cond.selects RX2 yX2_wholePart yX2_wholePart ∈ wsG := wsG_in 325 (by decide +kernel) (by decide +kernel)
theorem k_326 : Cond.code yX2_wholePart cX2_wholePart 1 (some FieldType.long) ∈ wsG := wsG_in 326 (by decide +kernel) (by decide +kernel)
theorem k_327 : Cond.constantLong RX2 37 (3) ∈ wsG := wsG_in 327 (by decide +kernel) (by decide +kernel)
theorem k_328 : Cond.constantLong RX2 45 (4) ∈ wsG := wsG_in 328 (by decide +kernel) (by decide +kernel)
theorem k_329 : Cond.methodLink RX2 47 yX2_rootPart ∈ wsG := wsG_in 329 (by decide +kernel) (by decide +kernel)
theorem k_330 : Cond.instanceMethod yX2_rootPart ∈ wsG := wsG_in 330 (by decide +kernel) (by decide +kernel)
theorem k_331 : Cond.selects RX2 yX2_rootPart yX2_rootPart ∈ wsG := wsG_in 331 (by decide +kernel) (by decide +kernel)
theorem k_332 : Cond.code yX2_rootPart cX2_rootPart 1 (some FieldType.long) ∈ wsG := wsG_in 332 (by decide +kernel) (by decide +kernel)
theorem k_333 : Cond.constantLong RX2 39 (2) ∈ wsG := wsG_in 333 (by decide +kernel) (by decide +kernel)
theorem k_334 : Cond.methodLink RX2 50 yX2_isAboveZero ∈ wsG := wsG_in 334 (by decide +kernel) (by decide +kernel)
theorem k_335 : Cond.static yX2_isAboveZero ∈ wsG := wsG_in 335 (by decide +kernel) (by decide +kernel)
theorem k_336 : Cond.code yX2_isAboveZero cX2_isAboveZero 4 (some FieldType.boolean) ∈ wsG := wsG_in 336 (by decide +kernel) (by decide +kernel)
theorem k_337 : Cond.methodLink RL 31 yX7_out ∈ wsG := wsG_in 337 (by decide +kernel) (by decide +kernel)
theorem k_338 : Cond.instanceMethod yX7_out ∈ wsG := wsG_in 338 (by decide +kernel) (by decide +kernel)
theorem k_339 : Cond.selects RX7 yX7_out yX7_out ∈ wsG := wsG_in 339 (by decide +kernel) (by decide +kernel)
theorem k_340 : Cond.code yX7_out cX7_out 2 (some FieldType.int) ∈ wsG := wsG_in 340 (by decide +kernel) (by decide +kernel)
theorem k_341 : Cond.methodLink RX7 130 yX2_wholePart ∈ wsG := wsG_in 341 (by decide +kernel) (by decide +kernel)
theorem k_342 : Cond.methodLink RX7 134 yX2_rootPart ∈ wsG := wsG_in 342 (by decide +kernel) (by decide +kernel)
theorem k_343 : Cond.constant RX7 137 (-100000001) ∈ wsG := wsG_in 343 (by decide +kernel) (by decide +kernel)
theorem k_344 : Cond.methodLink RL 37 yX7_type ∈ wsG := wsG_in 344 (by decide +kernel) (by decide +kernel)
theorem k_345 : Cond.instanceMethod yX7_type ∈ wsG := wsG_in 345 (by decide +kernel) (by decide +kernel)
theorem k_346 : Cond.selects RX7 yX7_type yX7_type ∈ wsG := wsG_in 346 (by decide +kernel) (by decide +kernel)
theorem k_347 : Cond.code yX7_type cX7_type 5 (some FieldType.int) ∈ wsG := wsG_in 347 (by decide +kernel) (by decide +kernel)
theorem k_348 : Cond.methodLink RX7 138 yX7_byteOf ∈ wsG := wsG_in 348 (by decide +kernel) (by decide +kernel)
theorem k_349 : Cond.static yX7_byteOf ∈ wsG := wsG_in 349 (by decide +kernel) (by decide +kernel)
theorem k_350 : Cond.code yX7_byteOf cX7_byteOf 3 (some FieldType.int) ∈ wsG := wsG_in 350 (by decide +kernel) (by decide +kernel)
theorem k_351 : Cond.methodLink RX7 142 yX5_isTypable ∈ wsG := wsG_in 351 (by decide +kernel) (by decide +kernel)
theorem k_352 : Cond.static yX5_isTypable ∈ wsG := wsG_in 352 (by decide +kernel) (by decide +kernel)
theorem k_353 : Cond.code yX5_isTypable cX5_isTypable 1 (some FieldType.boolean) ∈ wsG := wsG_in 353 (by decide +kernel) (by decide +kernel)
theorem k_354 : Cond.methodLink RX7 148 yX5_append ∈ wsG := wsG_in 354 (by decide +kernel) (by decide +kernel)
theorem k_355 : Cond.instanceMethod yX5_append ∈ wsG := wsG_in 355 (by decide +kernel) (by decide +kernel)
theorem k_356 : Cond.selects RX5 yX5_append yX5_append ∈ wsG := wsG_in 356 (by decide +kernel) (by decide +kernel)
theorem k_357 : Cond.code yX5_append cX5_append 2 none ∈ wsG := wsG_in 357 (by decide +kernel) (by decide +kernel)
theorem k_358 : Cond.methodLink RL 42 yX7_people ∈ wsG := wsG_in 358 (by decide +kernel) (by decide +kernel)
theorem k_359 : Cond.instanceMethod yX7_people ∈ wsG := wsG_in 359 (by decide +kernel) (by decide +kernel)
theorem k_360 : Cond.selects RX7 yX7_people yX7_people ∈ wsG := wsG_in 360 (by decide +kernel) (by decide +kernel)
theorem k_361 : Cond.code yX7_people cX7_people 3 (some FieldType.int) ∈ wsG := wsG_in 361 (by decide +kernel) (by decide +kernel)
theorem k_362 : Cond.methodLink RX7 152 yX5_readPeople ∈ wsG := wsG_in 362 (by decide +kernel) (by decide +kernel)
theorem k_363 : Cond.instanceMethod yX5_readPeople ∈ wsG := wsG_in 363 (by decide +kernel) (by decide +kernel)
theorem k_364 : Cond.selects RX5 yX5_readPeople yX5_readPeople ∈ wsG := wsG_in 364 (by decide +kernel) (by decide +kernel)
theorem k_365 : Cond.code yX5_readPeople cX5_readPeople 1 (some FieldType.int) ∈ wsG := wsG_in 365 (by decide +kernel) (by decide +kernel)
theorem k_366 : Cond.stringRef RX5 26 "gcsb" ∈ lw_tbl := lw_in 366 (by decide +kernel)
theorem k_367 : Cond.methodLink RX5 28 yX5_readEntries ∈ wsG := wsG_in 367 (by decide +kernel) (by decide +kernel)
theorem k_369 : Cond.instanceMethod yX5_readEntries ∈ wsG := wsG_in 369 (by decide +kernel) (by decide +kernel)
theorem k_370 : Cond.code yX5_readEntries cX5_readEntries 7 (some FieldType.int) ∈ wsG := wsG_in 370 (by decide +kernel) (by decide +kernel)
theorem k_371 : Cond.methodLink RX5 37 yX5_readLetter ∈ wsG := wsG_in 371 (by decide +kernel) (by decide +kernel)
theorem k_373 : Cond.instanceMethod yX5_readLetter ∈ wsG := wsG_in 373 (by decide +kernel) (by decide +kernel)
theorem k_374 : Cond.code yX5_readLetter cX5_readLetter 5 (some FieldType.int) ∈ wsG := wsG_in 374 (by decide +kernel) (by decide +kernel)
theorem k_375 : Cond.methodLink RX5 49 yX5_next ∈ wsG := wsG_in 375 (by decide +kernel) (by decide +kernel)
theorem k_377 : Cond.instanceMethod yX5_next ∈ wsG := wsG_in 377 (by decide +kernel) (by decide +kernel)
theorem k_378 : Cond.code yX5_next cX5_next 1 (some FieldType.int) ∈ wsG := wsG_in 378 (by decide +kernel) (by decide +kernel)
theorem k_379 : Cond.methodLink RX5 56 yJ0_indexOf_0f7a4 ∈ wsG := wsG_in 379 (by decide +kernel) (by decide +kernel)
theorem k_380 : Cond.instanceMethod yJ0_indexOf_0f7a4 ∈ wsG := wsG_in 380 (by decide +kernel) (by decide +kernel)
theorem k_381 : Cond.selects RJ0 yJ0_indexOf_0f7a4 yJ0_indexOf_0f7a4 ∈ wsG := wsG_in 381 (by decide +kernel) (by decide +kernel)
theorem k_382 : Cond.code yJ0_indexOf_0f7a4 cJ0_indexOf_0f7a4 2 (some FieldType.int) ∈ wsG := wsG_in 382 (by decide +kernel) (by decide +kernel)
theorem k_383 : Cond.methodLink RJ0 633 yJ0_indexOf_7cf53 ∈ wsG := wsG_in 383 (by decide +kernel) (by decide +kernel)
theorem k_384 : Cond.instanceMethod yJ0_indexOf_7cf53 ∈ wsG := wsG_in 384 (by decide +kernel) (by decide +kernel)
theorem k_385 : Cond.selects RJ0 yJ0_indexOf_7cf53 yJ0_indexOf_7cf53 ∈ wsG := wsG_in 385 (by decide +kernel) (by decide +kernel)
theorem k_386 : Cond.code yJ0_indexOf_7cf53 cJ0_indexOf_7cf53 3 (some FieldType.int) ∈ wsG := wsG_in 386 (by decide +kernel) (by decide +kernel)
theorem k_387 : Cond.methodLink RJ0 492 yJ0_isLatin1_aae02 ∈ wsG := wsG_in 387 (by decide +kernel) (by decide +kernel)
theorem k_388 : Cond.instanceMethod yJ0_isLatin1_aae02 ∈ wsG := wsG_in 388 (by decide +kernel) (by decide +kernel)
theorem k_389 : Cond.selects RJ0 yJ0_isLatin1_aae02 yJ0_isLatin1_aae02 ∈ wsG := wsG_in 389 (by decide +kernel) (by decide +kernel)
theorem k_390 : Cond.code yJ0_isLatin1_aae02 cJ0_isLatin1_aae02 1 (some FieldType.boolean) ∈ wsG := wsG_in 390 (by decide +kernel) (by decide +kernel)
theorem k_391 : Cond.fieldLink RJ0 38 "java/lang/String" "COMPACT_STRINGS" "Z" ∈ wsG := wsG_in 391 (by decide +kernel) (by decide +kernel)
theorem k_392 : Cond.laysStatic RJ0 "COMPACT_STRINGS" "Z" ∈ lw_tbl := lw_in 392 (by decide +kernel)
theorem k_393 : Cond.methodLink RJ0 505 yJ0_length_8abf5 ∈ wsG := wsG_in 393 (by decide +kernel) (by decide +kernel)
theorem k_394 : Cond.instanceMethod yJ0_length_8abf5 ∈ wsG := wsG_in 394 (by decide +kernel) (by decide +kernel)
theorem k_395 : Cond.selects RJ0 yJ0_length_8abf5 yJ0_length_8abf5 ∈ wsG := wsG_in 395 (by decide +kernel) (by decide +kernel)
theorem k_396 : Cond.code yJ0_length_8abf5 cJ0_length_8abf5 1 (some FieldType.int) ∈ wsG := wsG_in 396 (by decide +kernel) (by decide +kernel)
theorem k_397 : Cond.methodLink RJ0 335 yJ0_coder_7d493 ∈ wsG := wsG_in 397 (by decide +kernel) (by decide +kernel)
theorem k_398 : Cond.instanceMethod yJ0_coder_7d493 ∈ wsG := wsG_in 398 (by decide +kernel) (by decide +kernel)
theorem k_399 : Cond.selects RJ0 yJ0_coder_7d493 yJ0_coder_7d493 ∈ wsG := wsG_in 399 (by decide +kernel) (by decide +kernel)
theorem k_400 : Cond.code yJ0_coder_7d493 cJ0_coder_7d493 1 (some FieldType.byte) ∈ wsG := wsG_in 400 (by decide +kernel) (by decide +kernel)
theorem k_401 : Cond.methodLink RJ0 637 yJ1_indexOf_4cfef ∈ wsG := wsG_in 401 (by decide +kernel) (by decide +kernel)
theorem k_402 : Cond.static yJ1_indexOf_4cfef ∈ wsG := wsG_in 402 (by decide +kernel) (by decide +kernel)
theorem k_403 : Cond.code yJ1_indexOf_4cfef cJ1_indexOf_4cfef 4 (some FieldType.int) ∈ wsG := wsG_in 403 (by decide +kernel) (by decide +kernel)
theorem k_404 : Cond.methodLink RJ1 88 yJ1_canEncode_9a6ad ∈ wsG := wsG_in 404 (by decide +kernel) (by decide +kernel)
theorem k_405 : Cond.static yJ1_canEncode_9a6ad ∈ wsG := wsG_in 405 (by decide +kernel) (by decide +kernel)
theorem k_406 : Cond.code yJ1_canEncode_9a6ad cJ1_canEncode_9a6ad 1 (some FieldType.boolean) ∈ wsG := wsG_in 406 (by decide +kernel) (by decide +kernel)
theorem k_407 : Cond.methodLink RJ1 92 yJ9_max_7cf53 ∈ wsG := wsG_in 407 (by decide +kernel) (by decide +kernel)
theorem k_408 : Cond.static yJ9_max_7cf53 ∈ wsG := wsG_in 408 (by decide +kernel) (by decide +kernel)
theorem k_409 : Cond.code yJ9_max_7cf53 cJ9_max_7cf53 2 (some FieldType.int) ∈ wsG := wsG_in 409 (by decide +kernel) (by decide +kernel)
theorem k_410 : Cond.methodLink RJ1 38 yJ9_min_7cf53 ∈ wsG := wsG_in 410 (by decide +kernel) (by decide +kernel)
theorem k_411 : Cond.static yJ9_min_7cf53 ∈ wsG := wsG_in 411 (by decide +kernel) (by decide +kernel)
theorem k_412 : Cond.code yJ9_min_7cf53 cJ9_min_7cf53 2 (some FieldType.int) ∈ wsG := wsG_in 412 (by decide +kernel) (by decide +kernel)
theorem k_413 : Cond.methodLink RJ1 95 yJ1_indexOfChar_4cfef ∈ wsG := wsG_in 413 (by decide +kernel) (by decide +kernel)
theorem k_414 : Cond.static yJ1_indexOfChar_4cfef ∈ wsG := wsG_in 414 (by decide +kernel) (by decide +kernel)
theorem k_415 : Cond.code yJ1_indexOfChar_4cfef cJ1_indexOfChar_4cfef 6 (some FieldType.int) ∈ wsG := wsG_in 415 (by decide +kernel) (by decide +kernel)
theorem k_416 : Cond.methodLink RJ0 640 yJ2_indexOf_4cfef ∈ wsG := wsG_in 416 (by decide +kernel) (by decide +kernel)
theorem k_417 : Cond.static yJ2_indexOf_4cfef ∈ wsG := wsG_in 417 (by decide +kernel) (by decide +kernel)
theorem k_418 : Cond.code yJ2_indexOf_4cfef cJ2_indexOf_4cfef 4 (some FieldType.int) ∈ wsG := wsG_in 418 (by decide +kernel) (by decide +kernel)
theorem k_419 : Cond.methodLink RJ2 224 yJ9_max_7cf53 ∈ wsG := wsG_in 419 (by decide +kernel) (by decide +kernel)
theorem k_420 : Cond.methodLink RJ2 183 yJ9_min_7cf53 ∈ wsG := wsG_in 420 (by decide +kernel) (by decide +kernel)
theorem k_421 : Cond.constant RJ2 227 (65536) ∈ wsG := wsG_in 421 (by decide +kernel) (by decide +kernel)
theorem k_422 : Cond.methodLink RJ2 228 yJ2_indexOfChar_4cfef ∈ wsG := wsG_in 422 (by decide +kernel) (by decide +kernel)
theorem k_423 : Cond.static yJ2_indexOfChar_4cfef ∈ wsG := wsG_in 423 (by decide +kernel) (by decide +kernel)
theorem k_424 : Cond.code yJ2_indexOfChar_4cfef cJ2_indexOfChar_4cfef 4 (some FieldType.int) ∈ wsG := wsG_in 424 (by decide +kernel) (by decide +kernel)
theorem k_425 : Cond.methodLink RJ2 96 yJ2_checkBoundsBeginEnd_d044e ∈ wsG := wsG_in 425 (by decide +kernel) (by decide +kernel)
theorem k_426 : Cond.static yJ2_checkBoundsBeginEnd_d044e ∈ wsG := wsG_in 426 (by decide +kernel) (by decide +kernel)
theorem k_427 : Cond.code yJ2_checkBoundsBeginEnd_d044e cJ2_checkBoundsBeginEnd_d044e 3 none ∈ wsG := wsG_in 427 (by decide +kernel) (by decide +kernel)
theorem k_428 : Cond.methodLink RJ2 48 yJ2_length_9d52b ∈ wsG := wsG_in 428 (by decide +kernel) (by decide +kernel)
theorem k_429 : Cond.static yJ2_length_9d52b ∈ wsG := wsG_in 429 (by decide +kernel) (by decide +kernel)
theorem k_430 : Cond.code yJ2_length_9d52b cJ2_length_9d52b 1 (some FieldType.int) ∈ wsG := wsG_in 430 (by decide +kernel) (by decide +kernel)
theorem k_431 : Cond.methodLink RJ2 241 yJ0_checkBoundsBeginEnd_23922 ∈ wsG := wsG_in 431 (by decide +kernel) (by decide +kernel)
theorem k_432 : Cond.static yJ0_checkBoundsBeginEnd_23922 ∈ wsG := wsG_in 432 (by decide +kernel) (by decide +kernel)
theorem k_433 : Cond.code yJ0_checkBoundsBeginEnd_23922 cJ0_checkBoundsBeginEnd_23922 3 none ∈ wsG := wsG_in 433 (by decide +kernel) (by decide +kernel)
theorem k_434 : Cond.fieldLink RJ0 1053 "jdk/internal/util/Preconditions" "SIOOBE_FORMATTER" "Ljava/util/function/BiFunction;" ∈ wsG := wsG_in 434 (by decide +kernel) (by decide +kernel)
theorem k_435 : Cond.laysStatic RJ3 "SIOOBE_FORMATTER" "Ljava/util/function/BiFunction;" ∈ lw_tbl := lw_in 435 (by decide +kernel)
theorem k_436 : Cond.methodLink RJ0 1062 yJ3_checkFromToIndex_8c36e ∈ wsG := wsG_in 436 (by decide +kernel) (by decide +kernel)
theorem k_437 : Cond.static yJ3_checkFromToIndex_8c36e ∈ wsG := wsG_in 437 (by decide +kernel) (by decide +kernel)
theorem k_438 : Cond.code yJ3_checkFromToIndex_8c36e cJ3_checkFromToIndex_8c36e 4 (some FieldType.int) ∈ wsG := wsG_in 438 (by decide +kernel) (by decide +kernel)
theorem k_439 : Cond.methodLink RJ2 244 yJ2_indexOfCharUnsafe_4cfef ∈ wsG := wsG_in 439 (by decide +kernel) (by decide +kernel)
theorem k_440 : Cond.static yJ2_indexOfCharUnsafe_4cfef ∈ wsG := wsG_in 440 (by decide +kernel) (by decide +kernel)
theorem k_441 : Cond.code yJ2_indexOfCharUnsafe_4cfef cJ2_indexOfCharUnsafe_4cfef 5 (some FieldType.int) ∈ wsG := wsG_in 441 (by decide +kernel) (by decide +kernel)
theorem k_442 : Cond.methodLink RJ2 71 yJ2_getChar_3b067 ∈ wsG := wsG_in 442 (by decide +kernel) (by decide +kernel)
theorem k_443 : Cond.static yJ2_getChar_3b067 ∈ wsG := wsG_in 443 (by decide +kernel) (by decide +kernel)
theorem k_444 : Cond.code yJ2_getChar_3b067 cJ2_getChar_3b067 2 (some FieldType.char) ∈ wsG := wsG_in 444 (by decide +kernel) (by decide +kernel)
theorem k_445 : Cond.fieldLink RJ2 44 "java/lang/StringUTF16" "$assertionsDisabled" "Z" ∈ wsG := wsG_in 445 (by decide +kernel) (by decide +kernel)
theorem k_446 : Cond.laysStatic RJ2 "$assertionsDisabled" "Z" ∈ lw_tbl := lw_in 446 (by decide +kernel)
theorem k_447 : Cond.fieldLink RJ2 59 "java/lang/StringUTF16" "HI_BYTE_SHIFT" "I" ∈ wsG := wsG_in 447 (by decide +kernel) (by decide +kernel)
theorem k_448 : Cond.laysStatic RJ2 "HI_BYTE_SHIFT" "I" ∈ lw_tbl := lw_in 448 (by decide +kernel)
theorem k_449 : Cond.fieldLink RJ2 63 "java/lang/StringUTF16" "LO_BYTE_SHIFT" "I" ∈ wsG := wsG_in 449 (by decide +kernel) (by decide +kernel)
theorem k_450 : Cond.laysStatic RJ2 "LO_BYTE_SHIFT" "I" ∈ lw_tbl := lw_in 450 (by decide +kernel)
theorem k_451 : Cond.methodLink RJ2 232 yJ2_indexOfSupplementary_4cfef ∈ wsG := wsG_in 451 (by decide +kernel) (by decide +kernel)
theorem k_452 : Cond.static yJ2_indexOfSupplementary_4cfef ∈ wsG := wsG_in 452 (by decide +kernel) (by decide +kernel)
theorem k_453 : Cond.code yJ2_indexOfSupplementary_4cfef cJ2_indexOfSupplementary_4cfef 7 (some FieldType.int) ∈ wsG := wsG_in 453 (by decide +kernel) (by decide +kernel)
theorem k_454 : Cond.methodLink RJ2 164 yJ11_isValidCodePoint_9a6ad ∈ wsG := wsG_in 454 (by decide +kernel) (by decide +kernel)
theorem k_455 : Cond.static yJ11_isValidCodePoint_9a6ad ∈ wsG := wsG_in 455 (by decide +kernel) (by decide +kernel)
theorem k_456 : Cond.code yJ11_isValidCodePoint_9a6ad cJ11_isValidCodePoint_9a6ad 2 (some FieldType.boolean) ∈ wsG := wsG_in 456 (by decide +kernel) (by decide +kernel)
theorem k_457 : Cond.methodLink RJ2 157 yJ11_highSurrogate_5068e ∈ wsG := wsG_in 457 (by decide +kernel) (by decide +kernel)
theorem k_458 : Cond.static yJ11_highSurrogate_5068e ∈ wsG := wsG_in 458 (by decide +kernel) (by decide +kernel)
theorem k_459 : Cond.code yJ11_highSurrogate_5068e cJ11_highSurrogate_5068e 1 (some FieldType.char) ∈ wsG := wsG_in 459 (by decide +kernel) (by decide +kernel)
theorem k_460 : Cond.constant RJ11 110 (55232) ∈ wsG := wsG_in 460 (by decide +kernel) (by decide +kernel)
theorem k_461 : Cond.methodLink RJ2 161 yJ11_lowSurrogate_5068e ∈ wsG := wsG_in 461 (by decide +kernel) (by decide +kernel)
theorem k_462 : Cond.static yJ11_lowSurrogate_5068e ∈ wsG := wsG_in 462 (by decide +kernel) (by decide +kernel)
theorem k_463 : Cond.code yJ11_lowSurrogate_5068e cJ11_lowSurrogate_5068e 1 (some FieldType.char) ∈ wsG := wsG_in 463 (by decide +kernel) (by decide +kernel)
theorem k_464 : Cond.constant RJ11 76 (56320) ∈ wsG := wsG_in 464 (by decide +kernel) (by decide +kernel)
theorem k_465 : Cond.methodLink RX5 53 yX5_faultAt ∈ wsG := wsG_in 465 (by decide +kernel) (by decide +kernel)
theorem k_466 : Cond.static yX5_faultAt ∈ wsG := wsG_in 466 (by decide +kernel) (by decide +kernel)
theorem k_467 : Cond.code yX5_faultAt cX5_faultAt 1 (some FieldType.int) ∈ wsG := wsG_in 467 (by decide +kernel) (by decide +kernel)
theorem k_468 : Cond.methodLink RX5 41 yX5_readNumber ∈ wsG := wsG_in 468 (by decide +kernel) (by decide +kernel)
theorem k_470 : Cond.instanceMethod yX5_readNumber ∈ wsG := wsG_in 470 (by decide +kernel) (by decide +kernel)
theorem k_471 : Cond.code yX5_readNumber cX5_readNumber 6 (some FieldType.int) ∈ wsG := wsG_in 471 (by decide +kernel) (by decide +kernel)
theorem k_472 : Cond.methodLink RX5 64 yX5_isDigit ∈ wsG := wsG_in 472 (by decide +kernel) (by decide +kernel)
theorem k_473 : Cond.static yX5_isDigit ∈ wsG := wsG_in 473 (by decide +kernel) (by decide +kernel)
theorem k_474 : Cond.code yX5_isDigit cX5_isDigit 1 (some FieldType.boolean) ∈ wsG := wsG_in 474 (by decide +kernel) (by decide +kernel)
theorem k_475 : Cond.methodLink RX5 68 yJ9_min_7cf53 ∈ wsG := wsG_in 475 (by decide +kernel) (by decide +kernel)
theorem k_476 : Cond.methodLink RX5 45 yX5_readWhatFollows ∈ wsG := wsG_in 476 (by decide +kernel) (by decide +kernel)
theorem k_478 : Cond.instanceMethod yX5_readWhatFollows ∈ wsG := wsG_in 478 (by decide +kernel) (by decide +kernel)
theorem k_479 : Cond.code yX5_readWhatFollows cX5_readWhatFollows 2 (some FieldType.int) ∈ wsG := wsG_in 479 (by decide +kernel) (by decide +kernel)
theorem k_480 : Cond.methodLink RX5 61 yX5_readDigit ∈ wsG := wsG_in 480 (by decide +kernel) (by decide +kernel)
theorem k_482 : Cond.instanceMethod yX5_readDigit ∈ wsG := wsG_in 482 (by decide +kernel) (by decide +kernel)
theorem k_483 : Cond.code yX5_readDigit cX5_readDigit 3 (some FieldType.int) ∈ wsG := wsG_in 483 (by decide +kernel) (by decide +kernel)
theorem k_484 : Cond.methodLink RX7 156 yX6_weighSand ∈ wsG := wsG_in 484 (by decide +kernel) (by decide +kernel)
theorem k_485 : Cond.methodLink RL 47 yX7_evening ∈ wsG := wsG_in 485 (by decide +kernel) (by decide +kernel)
theorem k_486 : Cond.instanceMethod yX7_evening ∈ wsG := wsG_in 486 (by decide +kernel) (by decide +kernel)
theorem k_487 : Cond.selects RX7 yX7_evening yX7_evening ∈ wsG := wsG_in 487 (by decide +kernel) (by decide +kernel)
theorem k_488 : Cond.code yX7_evening cX7_evening 3 (some FieldType.int) ∈ wsG := wsG_in 488 (by decide +kernel) (by decide +kernel)
theorem k_489 : Cond.methodLink RX7 165 yX5_readEvening ∈ wsG := wsG_in 489 (by decide +kernel) (by decide +kernel)
theorem k_490 : Cond.instanceMethod yX5_readEvening ∈ wsG := wsG_in 490 (by decide +kernel) (by decide +kernel)
theorem k_491 : Cond.selects RX5 yX5_readEvening yX5_readEvening ∈ wsG := wsG_in 491 (by decide +kernel) (by decide +kernel)
theorem k_492 : Cond.code yX5_readEvening cX5_readEvening 1 (some FieldType.int) ∈ wsG := wsG_in 492 (by decide +kernel) (by decide +kernel)
theorem k_493 : Cond.stringRef RX5 32 "iost" ∈ lw_tbl := lw_in 493 (by decide +kernel)
theorem k_494 : Cond.methodLink RX7 168 yX7_happens ∈ wsG := wsG_in 494 (by decide +kernel) (by decide +kernel)
theorem k_496 : Cond.instanceMethod yX7_happens ∈ wsG := wsG_in 496 (by decide +kernel) (by decide +kernel)
theorem k_497 : Cond.code yX7_happens cX7_happens 3 (some FieldType.boolean) ∈ wsG := wsG_in 497 (by decide +kernel) (by decide +kernel)
theorem k_498 : Cond.methodLink RX7 281 yX7_board ∈ wsG := wsG_in 498 (by decide +kernel) (by decide +kernel)
theorem k_499 : Cond.instanceMethod yX7_board ∈ wsG := wsG_in 499 (by decide +kernel) (by decide +kernel)
theorem k_500 : Cond.selects RX7 yX7_board yX7_board ∈ wsG := wsG_in 500 (by decide +kernel) (by decide +kernel)
theorem k_501 : Cond.code yX7_board cX7_board 2 (some FieldType.int) ∈ wsG := wsG_in 501 (by decide +kernel) (by decide +kernel)
theorem k_502 : Cond.methodLink RX7 184 yX6_waits ∈ wsG := wsG_in 502 (by decide +kernel) (by decide +kernel)
theorem k_503 : Cond.instanceMethod yX6_waits ∈ wsG := wsG_in 503 (by decide +kernel) (by decide +kernel)
theorem k_504 : Cond.selects RX6 yX6_waits yX6_waits ∈ wsG := wsG_in 504 (by decide +kernel) (by decide +kernel)
theorem k_505 : Cond.code yX6_waits cX6_waits 2 (some FieldType.boolean) ∈ wsG := wsG_in 505 (by decide +kernel) (by decide +kernel)
theorem k_506 : Cond.methodLink RX6 43 yX6_has ∈ wsG := wsG_in 506 (by decide +kernel) (by decide +kernel)
theorem k_507 : Cond.methodLink RX7 187 yX6_mayGetIn ∈ wsG := wsG_in 507 (by decide +kernel) (by decide +kernel)
theorem k_508 : Cond.instanceMethod yX6_mayGetIn ∈ wsG := wsG_in 508 (by decide +kernel) (by decide +kernel)
theorem k_509 : Cond.selects RX6 yX6_mayGetIn yX6_mayGetIn ∈ wsG := wsG_in 509 (by decide +kernel) (by decide +kernel)
theorem k_510 : Cond.code yX6_mayGetIn cX6_mayGetIn 3 (some FieldType.boolean) ∈ wsG := wsG_in 510 (by decide +kernel) (by decide +kernel)
theorem k_511 : Cond.methodLink RX6 47 yX6_foot ∈ wsG := wsG_in 511 (by decide +kernel) (by decide +kernel)
theorem k_512 : Cond.instanceMethod yX6_foot ∈ wsG := wsG_in 512 (by decide +kernel) (by decide +kernel)
theorem k_513 : Cond.selects RX6 yX6_foot yX6_foot ∈ wsG := wsG_in 513 (by decide +kernel) (by decide +kernel)
theorem k_514 : Cond.code yX6_foot cX6_foot 1 (some FieldType.int) ∈ wsG := wsG_in 514 (by decide +kernel) (by decide +kernel)
theorem k_515 : Cond.methodLink RX6 81 yX6_fitTogether ∈ wsG := wsG_in 515 (by decide +kernel) (by decide +kernel)
theorem k_516 : Cond.instanceMethod yX6_fitTogether ∈ wsG := wsG_in 516 (by decide +kernel) (by decide +kernel)
theorem k_517 : Cond.selects RX6 yX6_fitTogether yX6_fitTogether ∈ wsG := wsG_in 517 (by decide +kernel) (by decide +kernel)
theorem k_518 : Cond.code yX6_fitTogether cX6_fitTogether 7 (some FieldType.boolean) ∈ wsG := wsG_in 518 (by decide +kernel) (by decide +kernel)
theorem k_519 : Cond.methodLink RX6 84 yX6_weighAll ∈ wsG := wsG_in 519 (by decide +kernel) (by decide +kernel)
theorem k_520 : Cond.methodLink RX6 87 yX2_isEvenWithin ∈ wsG := wsG_in 520 (by decide +kernel) (by decide +kernel)
theorem k_521 : Cond.methodLink RX7 191 yX6_getIn ∈ wsG := wsG_in 521 (by decide +kernel) (by decide +kernel)
theorem k_522 : Cond.instanceMethod yX6_getIn ∈ wsG := wsG_in 522 (by decide +kernel) (by decide +kernel)
theorem k_523 : Cond.selects RX6 yX6_getIn yX6_getIn ∈ wsG := wsG_in 523 (by decide +kernel) (by decide +kernel)
theorem k_524 : Cond.code yX6_getIn cX6_getIn 2 none ∈ wsG := wsG_in 524 (by decide +kernel) (by decide +kernel)
theorem k_525 : Cond.methodLink RX7 175 yX6_foot ∈ wsG := wsG_in 525 (by decide +kernel) (by decide +kernel)
theorem k_526 : Cond.methodLink RX7 284 yX7_leave ∈ wsG := wsG_in 526 (by decide +kernel) (by decide +kernel)
theorem k_527 : Cond.instanceMethod yX7_leave ∈ wsG := wsG_in 527 (by decide +kernel) (by decide +kernel)
theorem k_528 : Cond.selects RX7 yX7_leave yX7_leave ∈ wsG := wsG_in 528 (by decide +kernel) (by decide +kernel)
theorem k_529 : Cond.code yX7_leave cX7_leave 2 (some FieldType.int) ∈ wsG := wsG_in 529 (by decide +kernel) (by decide +kernel)
theorem k_530 : Cond.methodLink RX7 194 yX6_ridesAtFoot ∈ wsG := wsG_in 530 (by decide +kernel) (by decide +kernel)
theorem k_531 : Cond.instanceMethod yX6_ridesAtFoot ∈ wsG := wsG_in 531 (by decide +kernel) (by decide +kernel)
theorem k_532 : Cond.selects RX6 yX6_ridesAtFoot yX6_ridesAtFoot ∈ wsG := wsG_in 532 (by decide +kernel) (by decide +kernel)
theorem k_533 : Cond.code yX6_ridesAtFoot cX6_ridesAtFoot 2 (some FieldType.boolean) ∈ wsG := wsG_in 533 (by decide +kernel) (by decide +kernel)
theorem k_534 : Cond.methodLink RX7 197 yX6_mayGetOut ∈ wsG := wsG_in 534 (by decide +kernel) (by decide +kernel)
theorem k_535 : Cond.instanceMethod yX6_mayGetOut ∈ wsG := wsG_in 535 (by decide +kernel) (by decide +kernel)
theorem k_536 : Cond.selects RX6 yX6_mayGetOut yX6_mayGetOut ∈ wsG := wsG_in 536 (by decide +kernel) (by decide +kernel)
theorem k_537 : Cond.code yX6_mayGetOut cX6_mayGetOut 3 (some FieldType.boolean) ∈ wsG := wsG_in 537 (by decide +kernel) (by decide +kernel)
theorem k_538 : Cond.methodLink RX7 200 yX6_getOut ∈ wsG := wsG_in 538 (by decide +kernel) (by decide +kernel)
theorem k_539 : Cond.instanceMethod yX6_getOut ∈ wsG := wsG_in 539 (by decide +kernel) (by decide +kernel)
theorem k_540 : Cond.selects RX6 yX6_getOut yX6_getOut ∈ wsG := wsG_in 540 (by decide +kernel) (by decide +kernel)
theorem k_541 : Cond.code yX6_getOut cX6_getOut 2 none ∈ wsG := wsG_in 541 (by decide +kernel) (by decide +kernel)
theorem k_542 : Cond.methodLink RX7 287 yX7_sand ∈ wsG := wsG_in 542 (by decide +kernel) (by decide +kernel)
theorem k_543 : Cond.instanceMethod yX7_sand ∈ wsG := wsG_in 543 (by decide +kernel) (by decide +kernel)
theorem k_544 : Cond.selects RX7 yX7_sand yX7_sand ∈ wsG := wsG_in 544 (by decide +kernel) (by decide +kernel)
theorem k_545 : Cond.code yX7_sand cX7_sand 4 (some FieldType.int) ∈ wsG := wsG_in 545 (by decide +kernel) (by decide +kernel)
theorem k_546 : Cond.methodLink RX7 203 yX6_mayHaveSand ∈ wsG := wsG_in 546 (by decide +kernel) (by decide +kernel)
theorem k_547 : Cond.instanceMethod yX6_mayHaveSand ∈ wsG := wsG_in 547 (by decide +kernel) (by decide +kernel)
theorem k_548 : Cond.selects RX6 yX6_mayHaveSand yX6_mayHaveSand ∈ wsG := wsG_in 548 (by decide +kernel) (by decide +kernel)
theorem k_549 : Cond.code yX6_mayHaveSand cX6_mayHaveSand 3 (some FieldType.boolean) ∈ wsG := wsG_in 549 (by decide +kernel) (by decide +kernel)
theorem k_550 : Cond.methodLink RX7 290 yX7_turn ∈ wsG := wsG_in 550 (by decide +kernel) (by decide +kernel)
theorem k_551 : Cond.instanceMethod yX7_turn ∈ wsG := wsG_in 551 (by decide +kernel) (by decide +kernel)
theorem k_552 : Cond.selects RX7 yX7_turn yX7_turn ∈ wsG := wsG_in 552 (by decide +kernel) (by decide +kernel)
theorem k_553 : Cond.code yX7_turn cX7_turn 2 (some FieldType.int) ∈ wsG := wsG_in 553 (by decide +kernel) (by decide +kernel)
theorem k_554 : Cond.methodLink RL 51 yX7_count ∈ wsG := wsG_in 554 (by decide +kernel) (by decide +kernel)
theorem k_555 : Cond.instanceMethod yX7_count ∈ wsG := wsG_in 555 (by decide +kernel) (by decide +kernel)
theorem k_556 : Cond.selects RX7 yX7_count yX7_count ∈ wsG := wsG_in 556 (by decide +kernel) (by decide +kernel)
theorem k_557 : Cond.code yX7_count cX7_count 2 (some FieldType.int) ∈ wsG := wsG_in 557 (by decide +kernel) (by decide +kernel)
theorem k_558 : Cond.methodLink RX7 178 yX6_whoRides ∈ wsG := wsG_in 558 (by decide +kernel) (by decide +kernel)
theorem k_559 : Cond.methodLink RX7 181 yX6_sandTogether ∈ wsG := wsG_in 559 (by decide +kernel) (by decide +kernel)
theorem k_560 : Cond.instanceMethod yX6_sandTogether ∈ wsG := wsG_in 560 (by decide +kernel) (by decide +kernel)
theorem k_561 : Cond.selects RX6 yX6_sandTogether yX6_sandTogether ∈ wsG := wsG_in 561 (by decide +kernel) (by decide +kernel)
theorem k_562 : Cond.code yX6_sandTogether cX6_sandTogether 3 (some FieldType.int) ∈ wsG := wsG_in 562 (by decide +kernel) (by decide +kernel)
theorem k_563 : Cond.methodLink RL 55 yX7_board ∈ wsG := wsG_in 563 (by decide +kernel) (by decide +kernel)
theorem k_564 : Cond.methodLink RL 59 yX7_leave ∈ wsG := wsG_in 564 (by decide +kernel) (by decide +kernel)
theorem k_565 : Cond.methodLink RL 63 yX7_sand ∈ wsG := wsG_in 565 (by decide +kernel) (by decide +kernel)
theorem k_566 : Cond.methodLink RL 67 yX7_turn ∈ wsG := wsG_in 566 (by decide +kernel) (by decide +kernel)
theorem k_567 : Cond.methodLink RL 71 yX7_may ∈ wsG := wsG_in 567 (by decide +kernel) (by decide +kernel)
theorem k_568 : Cond.instanceMethod yX7_may ∈ wsG := wsG_in 568 (by decide +kernel) (by decide +kernel)
theorem k_569 : Cond.selects RX7 yX7_may yX7_may ∈ wsG := wsG_in 569 (by decide +kernel) (by decide +kernel)
theorem k_570 : Cond.code yX7_may cX7_may 5 (some FieldType.int) ∈ wsG := wsG_in 570 (by decide +kernel) (by decide +kernel)
theorem k_571 : Cond.methodLink RL 75 yX7_soonest ∈ wsG := wsG_in 571 (by decide +kernel) (by decide +kernel)
theorem k_572 : Cond.instanceMethod yX7_soonest ∈ wsG := wsG_in 572 (by decide +kernel) (by decide +kernel)
theorem k_573 : Cond.selects RX7 yX7_soonest yX7_soonest ∈ wsG := wsG_in 573 (by decide +kernel) (by decide +kernel)
theorem k_574 : Cond.code yX7_soonest cX7_soonest 3 (some FieldType.int) ∈ wsG := wsG_in 574 (by decide +kernel) (by decide +kernel)
theorem k_575 : Cond.methodLink RX7 206 yX7_canBeAskedFor ∈ wsG := wsG_in 575 (by decide +kernel) (by decide +kernel)
theorem k_577 : Cond.instanceMethod yX7_canBeAskedFor ∈ wsG := wsG_in 577 (by decide +kernel) (by decide +kernel)
theorem k_578 : Cond.code yX7_canBeAskedFor cX7_canBeAskedFor 3 (some FieldType.boolean) ∈ wsG := wsG_in 578 (by decide +kernel) (by decide +kernel)
theorem k_579 : Cond.methodLink RX7 231 yJ6_bitCount_0f7a4 ∈ wsG := wsG_in 579 (by decide +kernel) (by decide +kernel)
theorem k_580 : Cond.static yJ6_bitCount_0f7a4 ∈ wsG := wsG_in 580 (by decide +kernel) (by decide +kernel)
theorem k_581 : Cond.code yJ6_bitCount_0f7a4 cJ6_bitCount_0f7a4 1 (some FieldType.int) ∈ wsG := wsG_in 581 (by decide +kernel) (by decide +kernel)
theorem k_582 : Cond.constant RJ6 265 (1431655765) ∈ wsG := wsG_in 582 (by decide +kernel) (by decide +kernel)
theorem k_583 : Cond.constant RJ6 266 (858993459) ∈ wsG := wsG_in 583 (by decide +kernel) (by decide +kernel)
theorem k_584 : Cond.constant RJ6 267 (252645135) ∈ wsG := wsG_in 584 (by decide +kernel) (by decide +kernel)
theorem k_585 : Cond.methodLink RX7 209 yX0_search ∈ wsG := wsG_in 585 (by decide +kernel) (by decide +kernel)
theorem k_586 : Cond.instanceMethod yX0_search ∈ wsG := wsG_in 586 (by decide +kernel) (by decide +kernel)
theorem k_587 : Cond.selects RX0 yX0_search yX0_search ∈ wsG := wsG_in 587 (by decide +kernel) (by decide +kernel)
theorem k_588 : Cond.code yX0_search cX0_search 3 (some FieldType.boolean) ∈ wsG := wsG_in 588 (by decide +kernel) (by decide +kernel)
theorem k_589 : Cond.constant RX0 29 (786432) ∈ wsG := wsG_in 589 (by decide +kernel) (by decide +kernel)
theorem k_590 : Cond.methodLink RX0 33 yX6_weighAll ∈ wsG := wsG_in 590 (by decide +kernel) (by decide +kernel)
theorem k_591 : Cond.methodLink RX0 39 yX0_goOn ∈ wsG := wsG_in 591 (by decide +kernel) (by decide +kernel)
theorem k_593 : Cond.instanceMethod yX0_goOn ∈ wsG := wsG_in 593 (by decide +kernel) (by decide +kernel)
theorem k_594 : Cond.code yX0_goOn cX0_goOn 7 none ∈ wsG := wsG_in 594 (by decide +kernel) (by decide +kernel)
theorem k_595 : Cond.methodLink RX0 52 yX6_foot ∈ wsG := wsG_in 595 (by decide +kernel) (by decide +kernel)
theorem k_596 : Cond.methodLink RX0 56 yX6_whoIsAt ∈ wsG := wsG_in 596 (by decide +kernel) (by decide +kernel)
theorem k_597 : Cond.methodLink RX0 59 yX0_mayGoTogether ∈ wsG := wsG_in 597 (by decide +kernel) (by decide +kernel)
theorem k_599 : Cond.instanceMethod yX0_mayGoTogether ∈ wsG := wsG_in 599 (by decide +kernel) (by decide +kernel)
theorem k_600 : Cond.code yX0_mayGoTogether cX0_mayGoTogether 5 (some FieldType.boolean) ∈ wsG := wsG_in 600 (by decide +kernel) (by decide +kernel)
theorem k_601 : Cond.methodLink RX0 63 yX6_fitTogether ∈ wsG := wsG_in 601 (by decide +kernel) (by decide +kernel)
theorem k_602 : Cond.methodLink RX0 67 yX0_putIn ∈ wsG := wsG_in 602 (by decide +kernel) (by decide +kernel)
theorem k_604 : Cond.instanceMethod yX0_putIn ∈ wsG := wsG_in 604 (by decide +kernel) (by decide +kernel)
theorem k_605 : Cond.code yX0_putIn cX0_putIn 8 none ∈ wsG := wsG_in 605 (by decide +kernel) (by decide +kernel)
theorem k_606 : Cond.methodLink RX0 71 yX6_weightOf ∈ wsG := wsG_in 606 (by decide +kernel) (by decide +kernel)
theorem k_607 : Cond.methodLink RX0 74 yX2_hang ∈ wsG := wsG_in 607 (by decide +kernel) (by decide +kernel)
theorem k_608 : Cond.methodLink RX0 81 yX2_isEvenWithin ∈ wsG := wsG_in 608 (by decide +kernel) (by decide +kernel)
theorem k_609 : Cond.methodLink RX0 84 yX0_rowOf ∈ wsG := wsG_in 609 (by decide +kernel) (by decide +kernel)
theorem k_611 : Cond.instanceMethod yX0_rowOf ∈ wsG := wsG_in 611 (by decide +kernel) (by decide +kernel)
theorem k_612 : Cond.code yX0_rowOf cX0_rowOf 5 (some FieldType.int) ∈ wsG := wsG_in 612 (by decide +kernel) (by decide +kernel)
theorem k_613 : Cond.methodLink RX0 43 yX0_shiftOf ∈ wsG := wsG_in 613 (by decide +kernel) (by decide +kernel)
theorem k_615 : Cond.instanceMethod yX0_shiftOf ∈ wsG := wsG_in 615 (by decide +kernel) (by decide +kernel)
theorem k_616 : Cond.code yX0_shiftOf cX0_shiftOf 3 (some FieldType.int) ∈ wsG := wsG_in 616 (by decide +kernel) (by decide +kernel)
theorem k_617 : Cond.methodLink RX0 47 yJ6_bitCount_0f7a4 ∈ wsG := wsG_in 617 (by decide +kernel) (by decide +kernel)
theorem k_618 : Cond.methodLink RX0 88 yJ9_min_7cf53 ∈ wsG := wsG_in 618 (by decide +kernel) (by decide +kernel)
theorem k_619 : Cond.methodLink RX7 212 yX0_soonestMinute ∈ wsG := wsG_in 619 (by decide +kernel) (by decide +kernel)
theorem k_620 : Cond.instanceMethod yX0_soonestMinute ∈ wsG := wsG_in 620 (by decide +kernel) (by decide +kernel)
theorem k_621 : Cond.selects RX0 yX0_soonestMinute yX0_soonestMinute ∈ wsG := wsG_in 621 (by decide +kernel) (by decide +kernel)
theorem k_622 : Cond.code yX0_soonestMinute cX0_soonestMinute 1 (some FieldType.int) ∈ wsG := wsG_in 622 (by decide +kernel) (by decide +kernel)
theorem k_623 : Cond.methodLink RL 79 yX7_when ∈ wsG := wsG_in 623 (by decide +kernel) (by decide +kernel)
theorem k_624 : Cond.instanceMethod yX7_when ∈ wsG := wsG_in 624 (by decide +kernel) (by decide +kernel)
theorem k_625 : Cond.selects RX7 yX7_when yX7_when ∈ wsG := wsG_in 625 (by decide +kernel) (by decide +kernel)
theorem k_626 : Cond.code yX7_when cX7_when 4 (some FieldType.int) ∈ wsG := wsG_in 626 (by decide +kernel) (by decide +kernel)
theorem k_627 : Cond.methodLink RX7 215 yX0_minuteOf ∈ wsG := wsG_in 627 (by decide +kernel) (by decide +kernel)
theorem k_628 : Cond.instanceMethod yX0_minuteOf ∈ wsG := wsG_in 628 (by decide +kernel) (by decide +kernel)
theorem k_629 : Cond.selects RX0 yX0_minuteOf yX0_minuteOf ∈ wsG := wsG_in 629 (by decide +kernel) (by decide +kernel)
theorem k_630 : Cond.code yX0_minuteOf cX0_minuteOf 2 (some FieldType.int) ∈ wsG := wsG_in 630 (by decide +kernel) (by decide +kernel)
theorem k_631 : Cond.methodLink RL 84 yX7_empty ∈ wsG := wsG_in 631 (by decide +kernel) (by decide +kernel)
theorem k_632 : Cond.instanceMethod yX7_empty ∈ wsG := wsG_in 632 (by decide +kernel) (by decide +kernel)
theorem k_633 : Cond.selects RX7 yX7_empty yX7_empty ∈ wsG := wsG_in 633 (by decide +kernel) (by decide +kernel)
theorem k_634 : Cond.code yX7_empty cX7_empty 1 (some FieldType.int) ∈ wsG := wsG_in 634 (by decide +kernel) (by decide +kernel)
theorem k_635 : Cond.methodLink RX7 218 yX1_fewestMinutes ∈ wsG := wsG_in 635 (by decide +kernel) (by decide +kernel)
theorem k_636 : Cond.instanceMethod yX1_fewestMinutes ∈ wsG := wsG_in 636 (by decide +kernel) (by decide +kernel)
theorem k_637 : Cond.selects RX1 yX1_fewestMinutes yX1_fewestMinutes ∈ wsG := wsG_in 637 (by decide +kernel) (by decide +kernel)
theorem k_638 : Cond.code yX1_fewestMinutes cX1_fewestMinutes 3 (some FieldType.int) ∈ wsG := wsG_in 638 (by decide +kernel) (by decide +kernel)
theorem k_639 : Cond.methodLink RX1 29 yX6_whoRides ∈ wsG := wsG_in 639 (by decide +kernel) (by decide +kernel)
theorem k_640 : Cond.methodLink RX1 35 yX6_weighSand ∈ wsG := wsG_in 640 (by decide +kernel) (by decide +kernel)
theorem k_641 : Cond.methodLink RX1 39 yX6_foot ∈ wsG := wsG_in 641 (by decide +kernel) (by decide +kernel)
theorem k_642 : Cond.methodLink RX1 42 yX1_stepAt ∈ wsG := wsG_in 642 (by decide +kernel) (by decide +kernel)
theorem k_644 : Cond.instanceMethod yX1_stepAt ∈ wsG := wsG_in 644 (by decide +kernel) (by decide +kernel)
theorem k_645 : Cond.code yX1_stepAt cX1_stepAt 5 none ∈ wsG := wsG_in 645 (by decide +kernel) (by decide +kernel)
theorem k_646 : Cond.methodLink RX1 46 yX6_whoIsAt ∈ wsG := wsG_in 646 (by decide +kernel) (by decide +kernel)
theorem k_647 : Cond.methodLink RX1 50 yX1_letOut ∈ wsG := wsG_in 647 (by decide +kernel) (by decide +kernel)
theorem k_649 : Cond.instanceMethod yX1_letOut ∈ wsG := wsG_in 649 (by decide +kernel) (by decide +kernel)
theorem k_650 : Cond.code yX1_letOut cX1_letOut 6 none ∈ wsG := wsG_in 650 (by decide +kernel) (by decide +kernel)
theorem k_651 : Cond.methodLink RX1 53 yX1_mayRide ∈ wsG := wsG_in 651 (by decide +kernel) (by decide +kernel)
theorem k_653 : Cond.instanceMethod yX1_mayRide ∈ wsG := wsG_in 653 (by decide +kernel) (by decide +kernel)
theorem k_654 : Cond.code yX1_mayRide cX1_mayRide 3 (some FieldType.boolean) ∈ wsG := wsG_in 654 (by decide +kernel) (by decide +kernel)
theorem k_655 : Cond.methodLink RX1 57 yX6_fitTogether ∈ wsG := wsG_in 655 (by decide +kernel) (by decide +kernel)
theorem k_656 : Cond.methodLink RX1 61 yX2_become ∈ wsG := wsG_in 656 (by decide +kernel) (by decide +kernel)
theorem k_657 : Cond.instanceMethod yX2_become ∈ wsG := wsG_in 657 (by decide +kernel) (by decide +kernel)
theorem k_658 : Cond.selects RX2 yX2_become yX2_become ∈ wsG := wsG_in 658 (by decide +kernel) (by decide +kernel)
theorem k_659 : Cond.code yX2_become cX2_become 2 none ∈ wsG := wsG_in 659 (by decide +kernel) (by decide +kernel)
theorem k_660 : Cond.methodLink RX1 64 yX6_hangThese ∈ wsG := wsG_in 660 (by decide +kernel) (by decide +kernel)
theorem k_661 : Cond.methodLink RX1 72 yX2_isEvenWithin ∈ wsG := wsG_in 661 (by decide +kernel) (by decide +kernel)
theorem k_662 : Cond.methodLink RL 88 yX7_least ∈ wsG := wsG_in 662 (by decide +kernel) (by decide +kernel)
theorem k_663 : Cond.instanceMethod yX7_least ∈ wsG := wsG_in 663 (by decide +kernel) (by decide +kernel)
theorem k_664 : Cond.selects RX7 yX7_least yX7_least ∈ wsG := wsG_in 664 (by decide +kernel) (by decide +kernel)
theorem k_665 : Cond.code yX7_least cX7_least 6 (some FieldType.int) ∈ wsG := wsG_in 665 (by decide +kernel) (by decide +kernel)
theorem k_666 : Cond.methodLink RX7 221 yX6_fitTogether ∈ wsG := wsG_in 666 (by decide +kernel) (by decide +kernel)
theorem k_667 : Cond.methodLink RX7 224 yX2_hang ∈ wsG := wsG_in 667 (by decide +kernel) (by decide +kernel)
theorem k_668 : Cond.methodLink RX7 228 yX7_helpsBySand ∈ wsG := wsG_in 668 (by decide +kernel) (by decide +kernel)
theorem k_670 : Cond.instanceMethod yX7_helpsBySand ∈ wsG := wsG_in 670 (by decide +kernel) (by decide +kernel)
theorem k_671 : Cond.code yX7_helpsBySand cX7_helpsBySand 4 (some FieldType.boolean) ∈ wsG := wsG_in 671 (by decide +kernel) (by decide +kernel)
theorem k_672 : Cond.methodLink RL 92 yX7_sure ∈ wsG := wsG_in 672 (by decide +kernel) (by decide +kernel)
theorem k_673 : Cond.instanceMethod yX7_sure ∈ wsG := wsG_in 673 (by decide +kernel) (by decide +kernel)
theorem k_674 : Cond.selects RX7 yX7_sure yX7_sure ∈ wsG := wsG_in 674 (by decide +kernel) (by decide +kernel)
theorem k_675 : Cond.code yX7_sure cX7_sure 2 (some FieldType.int) ∈ wsG := wsG_in 675 (by decide +kernel) (by decide +kernel)
theorem k_676 : Cond.methodLink RX7 236 yX4_findWorst ∈ wsG := wsG_in 676 (by decide +kernel) (by decide +kernel)
theorem k_677 : Cond.instanceMethod yX4_findWorst ∈ wsG := wsG_in 677 (by decide +kernel) (by decide +kernel)
theorem k_678 : Cond.selects RX4 yX4_findWorst yX4_findWorst ∈ wsG := wsG_in 678 (by decide +kernel) (by decide +kernel)
theorem k_679 : Cond.code yX4_findWorst cX4_findWorst 7 none ∈ wsG := wsG_in 679 (by decide +kernel) (by decide +kernel)
theorem k_680 : Cond.methodLink RX4 32 yX4_listRiders ∈ wsG := wsG_in 680 (by decide +kernel) (by decide +kernel)
theorem k_682 : Cond.instanceMethod yX4_listRiders ∈ wsG := wsG_in 682 (by decide +kernel) (by decide +kernel)
theorem k_683 : Cond.code yX4_listRiders cX4_listRiders 4 (some FieldType.int) ∈ wsG := wsG_in 683 (by decide +kernel) (by decide +kernel)
theorem k_684 : Cond.methodLink RX4 68 yX6_whoRides ∈ wsG := wsG_in 684 (by decide +kernel) (by decide +kernel)
theorem k_685 : Cond.methodLink RX4 36 yX6_weighAll ∈ wsG := wsG_in 685 (by decide +kernel) (by decide +kernel)
theorem k_686 : Cond.methodLink RX4 42 yX6_weighSand ∈ wsG := wsG_in 686 (by decide +kernel) (by decide +kernel)
theorem k_687 : Cond.methodLink RX4 45 yX2_become ∈ wsG := wsG_in 687 (by decide +kernel) (by decide +kernel)
theorem k_688 : Cond.methodLink RX4 51 yJ9_max_7cf53 ∈ wsG := wsG_in 688 (by decide +kernel) (by decide +kernel)
theorem k_689 : Cond.methodLink RX4 60 yX2_hang ∈ wsG := wsG_in 689 (by decide +kernel) (by decide +kernel)
theorem k_690 : Cond.methodLink RX4 64 yX2_isWorseThan ∈ wsG := wsG_in 690 (by decide +kernel) (by decide +kernel)
theorem k_691 : Cond.instanceMethod yX2_isWorseThan ∈ wsG := wsG_in 691 (by decide +kernel) (by decide +kernel)
theorem k_692 : Cond.selects RX2 yX2_isWorseThan yX2_isWorseThan ∈ wsG := wsG_in 692 (by decide +kernel) (by decide +kernel)
theorem k_693 : Cond.code yX2_isWorseThan cX2_isWorseThan 2 (some FieldType.boolean) ∈ wsG := wsG_in 693 (by decide +kernel) (by decide +kernel)
theorem k_694 : Cond.methodLink RL 96 yX7_worst ∈ wsG := wsG_in 694 (by decide +kernel) (by decide +kernel)
theorem k_695 : Cond.instanceMethod yX7_worst ∈ wsG := wsG_in 695 (by decide +kernel) (by decide +kernel)
theorem k_696 : Cond.selects RX7 yX7_worst yX7_worst ∈ wsG := wsG_in 696 (by decide +kernel) (by decide +kernel)
theorem k_697 : Cond.code yX7_worst cX7_worst 3 (some FieldType.int) ∈ wsG := wsG_in 697 (by decide +kernel) (by decide +kernel)
theorem k_698 : Cond.constant RX7 242 (-100000003) ∈ wsG := wsG_in 698 (by decide +kernel) (by decide +kernel)
theorem k_699 : Cond.methodLink RL 100 yX7_image ∈ wsG := wsG_in 699 (by decide +kernel) (by decide +kernel)
theorem k_700 : Cond.instanceMethod yX7_image ∈ wsG := wsG_in 700 (by decide +kernel) (by decide +kernel)
theorem k_701 : Cond.selects RX7 yX7_image yX7_image ∈ wsG := wsG_in 701 (by decide +kernel) (by decide +kernel)
theorem k_702 : Cond.code yX7_image cX7_image 1 (some FieldType.int) ∈ wsG := wsG_in 702 (by decide +kernel) (by decide +kernel)
theorem k_703 : Cond.methodLink RX7 243 yX6_become ∈ wsG := wsG_in 703 (by decide +kernel) (by decide +kernel)
theorem k_704 : Cond.instanceMethod yX6_become ∈ wsG := wsG_in 704 (by decide +kernel) (by decide +kernel)
theorem k_705 : Cond.selects RX6 yX6_become yX6_become ∈ wsG := wsG_in 705 (by decide +kernel) (by decide +kernel)
theorem k_706 : Cond.code yX6_become cX6_become 2 none ∈ wsG := wsG_in 706 (by decide +kernel) (by decide +kernel)
theorem k_707 : Cond.methodLink RX6 37 (⟨"java/lang/System", "arraycopy", "(Ljava/lang/Object;ILjava/lang/Object;II)V"⟩ : MethodName) ∈ wsG := wsG_in 707 (by decide +kernel) (by decide +kernel)
theorem k_708 : Cond.static (⟨"java/lang/System", "arraycopy", "(Ljava/lang/Object;ILjava/lang/Object;II)V"⟩ : MethodName) ∈ wsG := wsG_in 708 (by decide +kernel) (by decide +kernel)
theorem k_709 : Cond.native (⟨"java/lang/System", "arraycopy", "(Ljava/lang/Object;ILjava/lang/Object;II)V"⟩ : MethodName) ∈ wsG := wsG_in 709 (by decide +kernel) (by decide +kernel)
theorem k_710 : Cond.methodLink RL 104 yX7_restore ∈ wsG := wsG_in 710 (by decide +kernel) (by decide +kernel)
theorem k_711 : Cond.instanceMethod yX7_restore ∈ wsG := wsG_in 711 (by decide +kernel) (by decide +kernel)
theorem k_712 : Cond.selects RX7 yX7_restore yX7_restore ∈ wsG := wsG_in 712 (by decide +kernel) (by decide +kernel)
theorem k_713 : Cond.code yX7_restore cX7_restore 1 (some FieldType.int) ∈ wsG := wsG_in 713 (by decide +kernel) (by decide +kernel)
theorem k_714 : Cond.methodLink RL 108 yX7_pour ∈ wsG := wsG_in 714 (by decide +kernel) (by decide +kernel)
theorem k_715 : Cond.instanceMethod yX7_pour ∈ wsG := wsG_in 715 (by decide +kernel) (by decide +kernel)
theorem k_716 : Cond.selects RX7 yX7_pour yX7_pour ∈ wsG := wsG_in 716 (by decide +kernel) (by decide +kernel)
theorem k_717 : Cond.code yX7_pour cX7_pour 8 (some FieldType.int) ∈ wsG := wsG_in 717 (by decide +kernel) (by decide +kernel)
theorem k_718 : Cond.methodLink RX7 246 yX7_refusalOfRow ∈ wsG := wsG_in 718 (by decide +kernel) (by decide +kernel)
theorem k_720 : Cond.instanceMethod yX7_refusalOfRow ∈ wsG := wsG_in 720 (by decide +kernel) (by decide +kernel)
theorem k_721 : Cond.code yX7_refusalOfRow cX7_refusalOfRow 5 (some FieldType.int) ∈ wsG := wsG_in 721 (by decide +kernel) (by decide +kernel)
theorem k_722 : Cond.methodLink RX7 265 yX7_isSheet ∈ wsG := wsG_in 722 (by decide +kernel) (by decide +kernel)
theorem k_723 : Cond.static yX7_isSheet ∈ wsG := wsG_in 723 (by decide +kernel) (by decide +kernel)
theorem k_724 : Cond.code yX7_isSheet cX7_isSheet 1 (some FieldType.boolean) ∈ wsG := wsG_in 724 (by decide +kernel) (by decide +kernel)
theorem k_725 : Cond.methodLink RX7 278 yX3_hasPart ∈ wsG := wsG_in 725 (by decide +kernel) (by decide +kernel)
theorem k_726 : Cond.instanceMethod yX3_hasPart ∈ wsG := wsG_in 726 (by decide +kernel) (by decide +kernel)
theorem k_727 : Cond.selects RX3 yX3_hasPart yX3_hasPart ∈ wsG := wsG_in 727 (by decide +kernel) (by decide +kernel)
theorem k_728 : Cond.code yX3_hasPart cX3_hasPart 3 (some FieldType.boolean) ∈ wsG := wsG_in 728 (by decide +kernel) (by decide +kernel)
theorem k_729 : Cond.methodLink RX7 250 yX6_weighRiders ∈ wsG := wsG_in 729 (by decide +kernel) (by decide +kernel)
theorem k_730 : Cond.instanceMethod yX6_weighRiders ∈ wsG := wsG_in 730 (by decide +kernel) (by decide +kernel)
theorem k_731 : Cond.selects RX6 yX6_weighRiders yX6_weighRiders ∈ wsG := wsG_in 731 (by decide +kernel) (by decide +kernel)
theorem k_732 : Cond.code yX6_weighRiders cX6_weighRiders 2 none ∈ wsG := wsG_in 732 (by decide +kernel) (by decide +kernel)
theorem k_733 : Cond.methodLink RX7 256 (⟨"java/lang/System", "arraycopy", "(Ljava/lang/Object;ILjava/lang/Object;II)V"⟩ : MethodName) ∈ wsG := wsG_in 733 (by decide +kernel) (by decide +kernel)
theorem k_734 : Cond.methodLink RL 112 yX7_film ∈ wsG := wsG_in 734 (by decide +kernel) (by decide +kernel)
theorem k_735 : Cond.instanceMethod yX7_film ∈ wsG := wsG_in 735 (by decide +kernel) (by decide +kernel)
theorem k_736 : Cond.selects RX7 yX7_film yX7_film ∈ wsG := wsG_in 736 (by decide +kernel) (by decide +kernel)
theorem k_737 : Cond.code yX7_film cX7_film 6 (some FieldType.int) ∈ wsG := wsG_in 737 (by decide +kernel) (by decide +kernel)
theorem k_738 : Cond.methodLink RX7 262 yX3_write ∈ wsG := wsG_in 738 (by decide +kernel) (by decide +kernel)
theorem k_739 : Cond.instanceMethod yX3_write ∈ wsG := wsG_in 739 (by decide +kernel) (by decide +kernel)
theorem k_740 : Cond.selects RX3 yX3_write yX3_write ∈ wsG := wsG_in 740 (by decide +kernel) (by decide +kernel)
theorem k_741 : Cond.code yX3_write cX3_write 3 none ∈ wsG := wsG_in 741 (by decide +kernel) (by decide +kernel)
theorem k_742 : Cond.methodLink RL 116 yX7_sheet ∈ wsG := wsG_in 742 (by decide +kernel) (by decide +kernel)
theorem k_743 : Cond.instanceMethod yX7_sheet ∈ wsG := wsG_in 743 (by decide +kernel) (by decide +kernel)
theorem k_744 : Cond.selects RX7 yX7_sheet yX7_sheet ∈ wsG := wsG_in 744 (by decide +kernel) (by decide +kernel)
theorem k_745 : Cond.code yX7_sheet cX7_sheet 4 (some FieldType.int) ∈ wsG := wsG_in 745 (by decide +kernel) (by decide +kernel)
theorem k_746 : Cond.methodLink RX7 268 yX3_renew ∈ wsG := wsG_in 746 (by decide +kernel) (by decide +kernel)
theorem k_747 : Cond.instanceMethod yX3_renew ∈ wsG := wsG_in 747 (by decide +kernel) (by decide +kernel)
theorem k_748 : Cond.selects RX3 yX3_renew yX3_renew ∈ wsG := wsG_in 748 (by decide +kernel) (by decide +kernel)
theorem k_749 : Cond.code yX3_renew cX3_renew 4 none ∈ wsG := wsG_in 749 (by decide +kernel) (by decide +kernel)
theorem k_750 : Cond.methodLink RL 120 yX7_drop ∈ wsG := wsG_in 750 (by decide +kernel) (by decide +kernel)
theorem k_751 : Cond.instanceMethod yX7_drop ∈ wsG := wsG_in 751 (by decide +kernel) (by decide +kernel)
theorem k_752 : Cond.selects RX7 yX7_drop yX7_drop ∈ wsG := wsG_in 752 (by decide +kernel) (by decide +kernel)
theorem k_753 : Cond.code yX7_drop cX7_drop 2 (some FieldType.int) ∈ wsG := wsG_in 753 (by decide +kernel) (by decide +kernel)
theorem k_754 : Cond.methodLink RL 124 yX7_item ∈ wsG := wsG_in 754 (by decide +kernel) (by decide +kernel)
theorem k_755 : Cond.instanceMethod yX7_item ∈ wsG := wsG_in 755 (by decide +kernel) (by decide +kernel)
theorem k_756 : Cond.selects RX7 yX7_item yX7_item ∈ wsG := wsG_in 756 (by decide +kernel) (by decide +kernel)
theorem k_757 : Cond.code yX7_item cX7_item 6 (some FieldType.int) ∈ wsG := wsG_in 757 (by decide +kernel) (by decide +kernel)
theorem k_758 : Cond.methodLink RL 129 yX7_copy ∈ wsG := wsG_in 758 (by decide +kernel) (by decide +kernel)
theorem k_759 : Cond.instanceMethod yX7_copy ∈ wsG := wsG_in 759 (by decide +kernel) (by decide +kernel)
theorem k_760 : Cond.selects RX7 yX7_copy yX7_copy ∈ wsG := wsG_in 760 (by decide +kernel) (by decide +kernel)
theorem k_761 : Cond.code yX7_copy cX7_copy 8 (some FieldType.int) ∈ wsG := wsG_in 761 (by decide +kernel) (by decide +kernel)
theorem k_762 : Cond.classLink RL 10 "TwelveCarsModel" ∈ wsG := wsG_in 762 (by decide +kernel) (by decide +kernel)
theorem k_763 : Cond.instantiable RX8 35 ∈ wsG := wsG_in 763 (by decide +kernel) (by decide +kernel)
theorem k_764 : Cond.methodLink RL 12 yX8_init ∈ wsG := wsG_in 764 (by decide +kernel) (by decide +kernel)
theorem k_765 : Cond.instanceMethod yX8_init ∈ wsG := wsG_in 765 (by decide +kernel) (by decide +kernel)
theorem k_766 : Cond.code yX8_init cX8_init 2 none ∈ wsG := wsG_in 766 (by decide +kernel) (by decide +kernel)
theorem k_767 : Cond.methodLink RX8 1 objectInit ∈ wsG := wsG_in 767 (by decide +kernel) (by decide +kernel)
theorem k_768 : Cond.fieldLink RX8 7 "TwelveCarsModel" "kinds" "[I" ∈ wsG := wsG_in 768 (by decide +kernel) (by decide +kernel)
theorem k_769 : Cond.fieldLink RX8 13 "TwelveCarsModel" "weights" "[I" ∈ wsG := wsG_in 769 (by decide +kernel) (by decide +kernel)
theorem k_770 : Cond.fieldLink RX8 16 "TwelveCarsModel" "cars" "[I" ∈ wsG := wsG_in 770 (by decide +kernel) (by decide +kernel)
theorem k_771 : Cond.fieldLink RX8 19 "TwelveCarsModel" "since" "[I" ∈ wsG := wsG_in 771 (by decide +kernel) (by decide +kernel)
theorem k_772 : Cond.fieldLink RX8 69 "TwelveCarsModel" "many" "I" ∈ wsG := wsG_in 772 (by decide +kernel) (by decide +kernel)
theorem k_773 : Cond.fieldLink RX8 22 "TwelveCarsModel" "sand" "[I" ∈ wsG := wsG_in 773 (by decide +kernel) (by decide +kernel)
theorem k_774 : Cond.fieldLink RX8 25 "TwelveCarsModel" "limit" "I" ∈ wsG := wsG_in 774 (by decide +kernel) (by decide +kernel)
theorem k_775 : Cond.fieldLink RX8 156 "TwelveCarsModel" "minute" "I" ∈ wsG := wsG_in 775 (by decide +kernel) (by decide +kernel)
theorem k_776 : Cond.fieldLink RX8 159 "TwelveCarsModel" "foot" "I" ∈ wsG := wsG_in 776 (by decide +kernel) (by decide +kernel)
theorem k_777 : Cond.fieldLink RX8 29 "TwelveCarsModel" "loads" "[I" ∈ wsG := wsG_in 777 (by decide +kernel) (by decide +kernel)
theorem k_778 : Cond.fieldLink RX8 107 "TwelveCarsModel" "p" "I" ∈ wsG := wsG_in 778 (by decide +kernel) (by decide +kernel)
theorem k_779 : Cond.fieldLink RX8 110 "TwelveCarsModel" "q" "I" ∈ wsG := wsG_in 779 (by decide +kernel) (by decide +kernel)
theorem k_780 : Cond.fieldLink RX8 113 "TwelveCarsModel" "s" "I" ∈ wsG := wsG_in 780 (by decide +kernel) (by decide +kernel)
theorem k_781 : Cond.fieldLink RX8 116 "TwelveCarsModel" "t" "I" ∈ wsG := wsG_in 781 (by decide +kernel) (by decide +kernel)
theorem k_782 : Cond.fieldLink RX8 123 "TwelveCarsModel" "squareA" "J" ∈ wsG := wsG_in 782 (by decide +kernel) (by decide +kernel)
theorem k_783 : Cond.fieldLink RX8 129 "TwelveCarsModel" "squareB" "J" ∈ wsG := wsG_in 783 (by decide +kernel) (by decide +kernel)
theorem k_784 : Cond.fieldLink RX8 32 "TwelveCarsModel" "tape" "[I" ∈ wsG := wsG_in 784 (by decide +kernel) (by decide +kernel)
theorem k_785 : Cond.fieldLink RX8 170 "TwelveCarsModel" "taped" "I" ∈ wsG := wsG_in 785 (by decide +kernel) (by decide +kernel)
theorem k_786 : Cond.fieldLink RX8 173 "TwelveCarsModel" "place" "I" ∈ wsG := wsG_in 786 (by decide +kernel) (by decide +kernel)
theorem k_787 : Cond.fieldLink RX8 190 "TwelveCarsModel" "reads" "I" ∈ wsG := wsG_in 787 (by decide +kernel) (by decide +kernel)
theorem k_788 : Cond.fieldLink RX8 35 "TwelveCarsModel" "read" "[I" ∈ wsG := wsG_in 788 (by decide +kernel) (by decide +kernel)
theorem k_789 : Cond.fieldLink RX8 38 "TwelveCarsModel" "who" "[I" ∈ wsG := wsG_in 789 (by decide +kernel) (by decide +kernel)
theorem k_790 : Cond.fieldLink RX8 41 "TwelveCarsModel" "times" "[I" ∈ wsG := wsG_in 790 (by decide +kernel) (by decide +kernel)
theorem k_791 : Cond.fieldLink RX8 44 "TwelveCarsModel" "first" "[I" ∈ wsG := wsG_in 791 (by decide +kernel) (by decide +kernel)
theorem k_792 : Cond.fieldLink RX8 232 "TwelveCarsModel" "whoMany" "I" ∈ wsG := wsG_in 792 (by decide +kernel) (by decide +kernel)
theorem k_793 : Cond.fieldLink RX8 47 "TwelveCarsModel" "can" "[Z" ∈ wsG := wsG_in 793 (by decide +kernel) (by decide +kernel)
theorem k_794 : Cond.fieldLink RX8 51 "TwelveCarsModel" "then" "[Z" ∈ wsG := wsG_in 794 (by decide +kernel) (by decide +kernel)
theorem k_795 : Cond.fieldLink RX8 262 "TwelveCarsModel" "worstA" "J" ∈ wsG := wsG_in 795 (by decide +kernel) (by decide +kernel)
theorem k_796 : Cond.fieldLink RX8 265 "TwelveCarsModel" "worstB" "J" ∈ wsG := wsG_in 796 (by decide +kernel) (by decide +kernel)
theorem k_797 : Cond.fieldLink RX8 276 "TwelveCarsModel" "isKept" "Z" ∈ wsG := wsG_in 797 (by decide +kernel) (by decide +kernel)
theorem k_798 : Cond.fieldLink RX8 54 "TwelveCarsModel" "kept" "[I" ∈ wsG := wsG_in 798 (by decide +kernel) (by decide +kernel)
theorem k_799 : Cond.fieldLink RX8 57 "TwelveCarsModel" "lanes" "[I" ∈ wsG := wsG_in 799 (by decide +kernel) (by decide +kernel)
theorem k_800 : Cond.fieldLink RX8 60 "TwelveCarsModel" "rowSizes" "[I" ∈ wsG := wsG_in 800 (by decide +kernel) (by decide +kernel)
theorem k_801 : Cond.fieldLink RX8 63 "TwelveCarsModel" "items" "[I" ∈ wsG := wsG_in 801 (by decide +kernel) (by decide +kernel)
theorem k_802 : Cond.fieldLink RX8 66 "TwelveCarsModel" "moved" "[I" ∈ wsG := wsG_in 802 (by decide +kernel) (by decide +kernel)
theorem k_874 : Cond.arrayClass FieldType.boolean ∈ wsG := wsG_in 874 (by decide +kernel) (by decide +kernel)
theorem k_875 : Cond.methodLink RL 17 yX8_person ∈ wsG := wsG_in 875 (by decide +kernel) (by decide +kernel)
theorem k_876 : Cond.instanceMethod yX8_person ∈ wsG := wsG_in 876 (by decide +kernel) (by decide +kernel)
theorem k_877 : Cond.selects RX8 yX8_person yX8_person ∈ wsG := wsG_in 877 (by decide +kernel) (by decide +kernel)
theorem k_878 : Cond.code yX8_person cX8_person 3 (some FieldType.int) ∈ wsG := wsG_in 878 (by decide +kernel) (by decide +kernel)
theorem k_879 : Cond.constantLong RX8 78 (3) ∈ wsG := wsG_in 879 (by decide +kernel) (by decide +kernel)
theorem k_880 : Cond.methodLink RX8 72 yX8_in ∈ wsG := wsG_in 880 (by decide +kernel) (by decide +kernel)
theorem k_881 : Cond.static yX8_in ∈ wsG := wsG_in 881 (by decide +kernel) (by decide +kernel)
theorem k_882 : Cond.code yX8_in cX8_in 6 (some FieldType.boolean) ∈ wsG := wsG_in 882 (by decide +kernel) (by decide +kernel)
theorem k_883 : Cond.constantLong RX8 80 (99) ∈ wsG := wsG_in 883 (by decide +kernel) (by decide +kernel)
theorem k_884 : Cond.methodLink RX8 82 yX8_add ∈ wsG := wsG_in 884 (by decide +kernel) (by decide +kernel)
theorem k_886 : Cond.instanceMethod yX8_add ∈ wsG := wsG_in 886 (by decide +kernel) (by decide +kernel)
theorem k_887 : Cond.code yX8_add cX8_add 3 none ∈ wsG := wsG_in 887 (by decide +kernel) (by decide +kernel)
theorem k_888 : Cond.methodLink RL 21 yX8_told ∈ wsG := wsG_in 888 (by decide +kernel) (by decide +kernel)
theorem k_889 : Cond.instanceMethod yX8_told ∈ wsG := wsG_in 889 (by decide +kernel) (by decide +kernel)
theorem k_890 : Cond.selects RX8 yX8_told yX8_told ∈ wsG := wsG_in 890 (by decide +kernel) (by decide +kernel)
theorem k_891 : Cond.code yX8_told cX8_told 3 (some FieldType.int) ∈ wsG := wsG_in 891 (by decide +kernel) (by decide +kernel)
theorem k_892 : Cond.methodLink RX8 86 yX8_isOne ∈ wsG := wsG_in 892 (by decide +kernel) (by decide +kernel)
theorem k_894 : Cond.instanceMethod yX8_isOne ∈ wsG := wsG_in 894 (by decide +kernel) (by decide +kernel)
theorem k_895 : Cond.code yX8_isOne cX8_isOne 2 (some FieldType.boolean) ∈ wsG := wsG_in 895 (by decide +kernel) (by decide +kernel)
theorem k_896 : Cond.methodLink RL 25 yX8_car ∈ wsG := wsG_in 896 (by decide +kernel) (by decide +kernel)
theorem k_897 : Cond.instanceMethod yX8_car ∈ wsG := wsG_in 897 (by decide +kernel) (by decide +kernel)
theorem k_898 : Cond.selects RX8 yX8_car yX8_car ∈ wsG := wsG_in 898 (by decide +kernel) (by decide +kernel)
theorem k_899 : Cond.code yX8_car cX8_car 4 (some FieldType.int) ∈ wsG := wsG_in 899 (by decide +kernel) (by decide +kernel)
theorem k_900 : Cond.methodLink RX8 98 yX8_isCar ∈ wsG := wsG_in 900 (by decide +kernel) (by decide +kernel)
theorem k_901 : Cond.static yX8_isCar ∈ wsG := wsG_in 901 (by decide +kernel) (by decide +kernel)
theorem k_902 : Cond.code yX8_isCar cX8_isCar 1 (some FieldType.boolean) ∈ wsG := wsG_in 902 (by decide +kernel) (by decide +kernel)
theorem k_903 : Cond.constantLong RX8 76 (11) ∈ wsG := wsG_in 903 (by decide +kernel) (by decide +kernel)
theorem k_904 : Cond.methodLink RX8 101 yX8_whoIn ∈ wsG := wsG_in 904 (by decide +kernel) (by decide +kernel)
theorem k_906 : Cond.instanceMethod yX8_whoIn ∈ wsG := wsG_in 906 (by decide +kernel) (by decide +kernel)
theorem k_907 : Cond.code yX8_whoIn cX8_whoIn 4 (some FieldType.int) ∈ wsG := wsG_in 907 (by decide +kernel) (by decide +kernel)
theorem k_908 : Cond.methodLink RX8 104 yX8_weightOf ∈ wsG := wsG_in 908 (by decide +kernel) (by decide +kernel)
theorem k_910 : Cond.instanceMethod yX8_weightOf ∈ wsG := wsG_in 910 (by decide +kernel) (by decide +kernel)
theorem k_911 : Cond.code yX8_weightOf cX8_weightOf 4 (some FieldType.int) ∈ wsG := wsG_in 911 (by decide +kernel) (by decide +kernel)
theorem k_912 : Cond.methodLink RX8 90 yX8_has ∈ wsG := wsG_in 912 (by decide +kernel) (by decide +kernel)
theorem k_913 : Cond.static yX8_has ∈ wsG := wsG_in 913 (by decide +kernel) (by decide +kernel)
theorem k_914 : Cond.code yX8_has cX8_has 2 (some FieldType.boolean) ∈ wsG := wsG_in 914 (by decide +kernel) (by decide +kernel)
theorem k_915 : Cond.methodLink RX8 94 yX8_seatsOf ∈ wsG := wsG_in 915 (by decide +kernel) (by decide +kernel)
theorem k_917 : Cond.instanceMethod yX8_seatsOf ∈ wsG := wsG_in 917 (by decide +kernel) (by decide +kernel)
theorem k_918 : Cond.code yX8_seatsOf cX8_seatsOf 4 (some FieldType.int) ∈ wsG := wsG_in 918 (by decide +kernel) (by decide +kernel)
theorem k_919 : Cond.methodLink RL 30 yX8_limit ∈ wsG := wsG_in 919 (by decide +kernel) (by decide +kernel)
theorem k_920 : Cond.instanceMethod yX8_limit ∈ wsG := wsG_in 920 (by decide +kernel) (by decide +kernel)
theorem k_921 : Cond.selects RX8 yX8_limit yX8_limit ∈ wsG := wsG_in 921 (by decide +kernel) (by decide +kernel)
theorem k_922 : Cond.code yX8_limit cX8_limit 3 (some FieldType.int) ∈ wsG := wsG_in 922 (by decide +kernel) (by decide +kernel)
theorem k_923 : Cond.constantLong RX8 148 (999) ∈ wsG := wsG_in 923 (by decide +kernel) (by decide +kernel)
theorem k_924 : Cond.methodLink RX8 150 yX8_isEven ∈ wsG := wsG_in 924 (by decide +kernel) (by decide +kernel)
theorem k_926 : Cond.instanceMethod yX8_isEven ∈ wsG := wsG_in 926 (by decide +kernel) (by decide +kernel)
theorem k_927 : Cond.code yX8_isEven cX8_isEven 1 (some FieldType.boolean) ∈ wsG := wsG_in 927 (by decide +kernel) (by decide +kernel)
theorem k_928 : Cond.methodLink RX8 141 yX8_findLoads ∈ wsG := wsG_in 928 (by decide +kernel) (by decide +kernel)
theorem k_930 : Cond.instanceMethod yX8_findLoads ∈ wsG := wsG_in 930 (by decide +kernel) (by decide +kernel)
theorem k_931 : Cond.code yX8_findLoads cX8_findLoads 2 none ∈ wsG := wsG_in 931 (by decide +kernel) (by decide +kernel)
theorem k_932 : Cond.methodLink RX8 144 yX8_isEvenNow ∈ wsG := wsG_in 932 (by decide +kernel) (by decide +kernel)
theorem k_934 : Cond.instanceMethod yX8_isEvenNow ∈ wsG := wsG_in 934 (by decide +kernel) (by decide +kernel)
theorem k_935 : Cond.code yX8_isEvenNow cX8_isEvenNow 1 (some FieldType.boolean) ∈ wsG := wsG_in 935 (by decide +kernel) (by decide +kernel)
theorem k_936 : Cond.methodLink RX8 132 yX8_findSquare ∈ wsG := wsG_in 936 (by decide +kernel) (by decide +kernel)
theorem k_938 : Cond.instanceMethod yX8_findSquare ∈ wsG := wsG_in 938 (by decide +kernel) (by decide +kernel)
theorem k_939 : Cond.code yX8_findSquare cX8_findSquare 2 none ∈ wsG := wsG_in 939 (by decide +kernel) (by decide +kernel)
theorem k_940 : Cond.methodLink RX8 119 yX8_cosine ∈ wsG := wsG_in 940 (by decide +kernel) (by decide +kernel)
theorem k_941 : Cond.static yX8_cosine ∈ wsG := wsG_in 941 (by decide +kernel) (by decide +kernel)
theorem k_942 : Cond.code yX8_cosine cX8_cosine 3 (some FieldType.int) ∈ wsG := wsG_in 942 (by decide +kernel) (by decide +kernel)
theorem k_943 : Cond.constantLong RX8 127 (2) ∈ wsG := wsG_in 943 (by decide +kernel) (by decide +kernel)
theorem k_944 : Cond.constantLong RX8 135 (4) ∈ wsG := wsG_in 944 (by decide +kernel) (by decide +kernel)
theorem k_945 : Cond.methodLink RX8 137 yX8_isNoMore ∈ wsG := wsG_in 945 (by decide +kernel) (by decide +kernel)
theorem k_946 : Cond.static yX8_isNoMore ∈ wsG := wsG_in 946 (by decide +kernel) (by decide +kernel)
theorem k_947 : Cond.code yX8_isNoMore cX8_isNoMore 4 (some FieldType.boolean) ∈ wsG := wsG_in 947 (by decide +kernel) (by decide +kernel)
theorem k_948 : Cond.methodLink RL 34 yX8_out ∈ wsG := wsG_in 948 (by decide +kernel) (by decide +kernel)
theorem k_949 : Cond.instanceMethod yX8_out ∈ wsG := wsG_in 949 (by decide +kernel) (by decide +kernel)
theorem k_950 : Cond.selects RX8 yX8_out yX8_out ∈ wsG := wsG_in 950 (by decide +kernel) (by decide +kernel)
theorem k_951 : Cond.code yX8_out cX8_out 2 (some FieldType.int) ∈ wsG := wsG_in 951 (by decide +kernel) (by decide +kernel)
theorem k_952 : Cond.constantLong RX8 153 (5) ∈ wsG := wsG_in 952 (by decide +kernel) (by decide +kernel)
theorem k_953 : Cond.constant RX8 155 (-100000001) ∈ wsG := wsG_in 953 (by decide +kernel) (by decide +kernel)
theorem k_954 : Cond.methodLink RL 54 yX8_count ∈ wsG := wsG_in 954 (by decide +kernel) (by decide +kernel)
theorem k_955 : Cond.instanceMethod yX8_count ∈ wsG := wsG_in 955 (by decide +kernel) (by decide +kernel)
theorem k_956 : Cond.selects RX8 yX8_count yX8_count ∈ wsG := wsG_in 956 (by decide +kernel) (by decide +kernel)
theorem k_957 : Cond.code yX8_count cX8_count 5 (some FieldType.int) ∈ wsG := wsG_in 957 (by decide +kernel) (by decide +kernel)
theorem k_958 : Cond.methodLink RL 41 yX8_type ∈ wsG := wsG_in 958 (by decide +kernel) (by decide +kernel)
theorem k_959 : Cond.instanceMethod yX8_type ∈ wsG := wsG_in 959 (by decide +kernel) (by decide +kernel)
theorem k_960 : Cond.selects RX8 yX8_type yX8_type ∈ wsG := wsG_in 960 (by decide +kernel) (by decide +kernel)
theorem k_961 : Cond.code yX8_type cX8_type 5 (some FieldType.int) ∈ wsG := wsG_in 961 (by decide +kernel) (by decide +kernel)
theorem k_962 : Cond.constantLong RX8 162 (8) ∈ wsG := wsG_in 962 (by decide +kernel) (by decide +kernel)
theorem k_963 : Cond.constantLong RX8 164 (255) ∈ wsG := wsG_in 963 (by decide +kernel) (by decide +kernel)
theorem k_964 : Cond.constantLong RX8 166 (32) ∈ wsG := wsG_in 964 (by decide +kernel) (by decide +kernel)
theorem k_965 : Cond.constantLong RX8 168 (126) ∈ wsG := wsG_in 965 (by decide +kernel) (by decide +kernel)
theorem k_966 : Cond.methodLink RL 46 yX8_people ∈ wsG := wsG_in 966 (by decide +kernel) (by decide +kernel)
theorem k_967 : Cond.instanceMethod yX8_people ∈ wsG := wsG_in 967 (by decide +kernel) (by decide +kernel)
theorem k_968 : Cond.selects RX8 yX8_people yX8_people ∈ wsG := wsG_in 968 (by decide +kernel) (by decide +kernel)
theorem k_969 : Cond.code yX8_people cX8_people 3 (some FieldType.int) ∈ wsG := wsG_in 969 (by decide +kernel) (by decide +kernel)
theorem k_970 : Cond.methodLink RX8 193 yX8_readPeople ∈ wsG := wsG_in 970 (by decide +kernel) (by decide +kernel)
theorem k_972 : Cond.instanceMethod yX8_readPeople ∈ wsG := wsG_in 972 (by decide +kernel) (by decide +kernel)
theorem k_973 : Cond.code yX8_readPeople cX8_readPeople 3 (some FieldType.boolean) ∈ wsG := wsG_in 973 (by decide +kernel) (by decide +kernel)
theorem k_974 : Cond.methodLink RX8 187 yX8_readOne ∈ wsG := wsG_in 974 (by decide +kernel) (by decide +kernel)
theorem k_976 : Cond.instanceMethod yX8_readOne ∈ wsG := wsG_in 976 (by decide +kernel) (by decide +kernel)
theorem k_977 : Cond.code yX8_readOne cX8_readOne 3 (some FieldType.boolean) ∈ wsG := wsG_in 977 (by decide +kernel) (by decide +kernel)
theorem k_978 : Cond.methodLink RX8 176 yX8_nextByte ∈ wsG := wsG_in 978 (by decide +kernel) (by decide +kernel)
theorem k_980 : Cond.instanceMethod yX8_nextByte ∈ wsG := wsG_in 980 (by decide +kernel) (by decide +kernel)
theorem k_981 : Cond.code yX8_nextByte cX8_nextByte 1 (some FieldType.int) ∈ wsG := wsG_in 981 (by decide +kernel) (by decide +kernel)
theorem k_982 : Cond.methodLink RX8 184 yX8_readNumber ∈ wsG := wsG_in 982 (by decide +kernel) (by decide +kernel)
theorem k_984 : Cond.instanceMethod yX8_readNumber ∈ wsG := wsG_in 984 (by decide +kernel) (by decide +kernel)
theorem k_985 : Cond.code yX8_readNumber cX8_readNumber 5 (some FieldType.int) ∈ wsG := wsG_in 985 (by decide +kernel) (by decide +kernel)
theorem k_986 : Cond.constantLong RX8 180 (48) ∈ wsG := wsG_in 986 (by decide +kernel) (by decide +kernel)
theorem k_987 : Cond.constantLong RX8 182 (57) ∈ wsG := wsG_in 987 (by decide +kernel) (by decide +kernel)
theorem k_988 : Cond.methodLink RL 50 yX8_evening ∈ wsG := wsG_in 988 (by decide +kernel) (by decide +kernel)
theorem k_989 : Cond.instanceMethod yX8_evening ∈ wsG := wsG_in 989 (by decide +kernel) (by decide +kernel)
theorem k_990 : Cond.selects RX8 yX8_evening yX8_evening ∈ wsG := wsG_in 990 (by decide +kernel) (by decide +kernel)
theorem k_991 : Cond.code yX8_evening cX8_evening 4 (some FieldType.int) ∈ wsG := wsG_in 991 (by decide +kernel) (by decide +kernel)
theorem k_992 : Cond.methodLink RX8 212 yX8_readEvening ∈ wsG := wsG_in 992 (by decide +kernel) (by decide +kernel)
theorem k_994 : Cond.instanceMethod yX8_readEvening ∈ wsG := wsG_in 994 (by decide +kernel) (by decide +kernel)
theorem k_995 : Cond.code yX8_readEvening cX8_readEvening 2 (some FieldType.boolean) ∈ wsG := wsG_in 995 (by decide +kernel) (by decide +kernel)
theorem k_996 : Cond.methodLink RX8 198 yX8_readAct ∈ wsG := wsG_in 996 (by decide +kernel) (by decide +kernel)
theorem k_998 : Cond.instanceMethod yX8_readAct ∈ wsG := wsG_in 998 (by decide +kernel) (by decide +kernel)
theorem k_999 : Cond.code yX8_readAct cX8_readAct 3 (some FieldType.boolean) ∈ wsG := wsG_in 999 (by decide +kernel) (by decide +kernel)
theorem k_1000 : Cond.constantLong RX8 196 (9) ∈ wsG := wsG_in 1000 (by decide +kernel) (by decide +kernel)
theorem k_1001 : Cond.methodLink RX8 215 yX8_does ∈ wsG := wsG_in 1001 (by decide +kernel) (by decide +kernel)
theorem k_1003 : Cond.instanceMethod yX8_does ∈ wsG := wsG_in 1003 (by decide +kernel) (by decide +kernel)
theorem k_1004 : Cond.code yX8_does cX8_does 3 (some FieldType.boolean) ∈ wsG := wsG_in 1004 (by decide +kernel) (by decide +kernel)
theorem k_1005 : Cond.methodLink RX8 201 yX8_board ∈ wsG := wsG_in 1005 (by decide +kernel) (by decide +kernel)
theorem k_1006 : Cond.instanceMethod yX8_board ∈ wsG := wsG_in 1006 (by decide +kernel) (by decide +kernel)
theorem k_1007 : Cond.selects RX8 yX8_board yX8_board ∈ wsG := wsG_in 1007 (by decide +kernel) (by decide +kernel)
theorem k_1008 : Cond.code yX8_board cX8_board 2 (some FieldType.int) ∈ wsG := wsG_in 1008 (by decide +kernel) (by decide +kernel)
theorem k_1009 : Cond.methodLink RX8 221 yX8_mayBoard ∈ wsG := wsG_in 1009 (by decide +kernel) (by decide +kernel)
theorem k_1011 : Cond.instanceMethod yX8_mayBoard ∈ wsG := wsG_in 1011 (by decide +kernel) (by decide +kernel)
theorem k_1012 : Cond.code yX8_mayBoard cX8_mayBoard 4 (some FieldType.boolean) ∈ wsG := wsG_in 1012 (by decide +kernel) (by decide +kernel)
theorem k_1013 : Cond.methodLink RX8 218 yX8_fits ∈ wsG := wsG_in 1013 (by decide +kernel) (by decide +kernel)
theorem k_1015 : Cond.instanceMethod yX8_fits ∈ wsG := wsG_in 1015 (by decide +kernel) (by decide +kernel)
theorem k_1016 : Cond.code yX8_fits cX8_fits 6 (some FieldType.boolean) ∈ wsG := wsG_in 1016 (by decide +kernel) (by decide +kernel)
theorem k_1017 : Cond.methodLink RX8 204 yX8_leave ∈ wsG := wsG_in 1017 (by decide +kernel) (by decide +kernel)
theorem k_1018 : Cond.instanceMethod yX8_leave ∈ wsG := wsG_in 1018 (by decide +kernel) (by decide +kernel)
theorem k_1019 : Cond.selects RX8 yX8_leave yX8_leave ∈ wsG := wsG_in 1019 (by decide +kernel) (by decide +kernel)
theorem k_1020 : Cond.code yX8_leave cX8_leave 2 (some FieldType.int) ∈ wsG := wsG_in 1020 (by decide +kernel) (by decide +kernel)
theorem k_1021 : Cond.methodLink RX8 224 yX8_mayLeave ∈ wsG := wsG_in 1021 (by decide +kernel) (by decide +kernel)
theorem k_1023 : Cond.instanceMethod yX8_mayLeave ∈ wsG := wsG_in 1023 (by decide +kernel) (by decide +kernel)
theorem k_1024 : Cond.code yX8_mayLeave cX8_mayLeave 3 (some FieldType.boolean) ∈ wsG := wsG_in 1024 (by decide +kernel) (by decide +kernel)
theorem k_1025 : Cond.methodLink RX8 207 yX8_sand ∈ wsG := wsG_in 1025 (by decide +kernel) (by decide +kernel)
theorem k_1026 : Cond.instanceMethod yX8_sand ∈ wsG := wsG_in 1026 (by decide +kernel) (by decide +kernel)
theorem k_1027 : Cond.selects RX8 yX8_sand yX8_sand ∈ wsG := wsG_in 1027 (by decide +kernel) (by decide +kernel)
theorem k_1028 : Cond.code yX8_sand cX8_sand 3 (some FieldType.int) ∈ wsG := wsG_in 1028 (by decide +kernel) (by decide +kernel)
theorem k_1029 : Cond.methodLink RX8 209 yX8_turn ∈ wsG := wsG_in 1029 (by decide +kernel) (by decide +kernel)
theorem k_1030 : Cond.instanceMethod yX8_turn ∈ wsG := wsG_in 1030 (by decide +kernel) (by decide +kernel)
theorem k_1031 : Cond.selects RX8 yX8_turn yX8_turn ∈ wsG := wsG_in 1031 (by decide +kernel) (by decide +kernel)
theorem k_1032 : Cond.code yX8_turn cX8_turn 2 (some FieldType.int) ∈ wsG := wsG_in 1032 (by decide +kernel) (by decide +kernel)
theorem k_1033 : Cond.constantLong RX8 227 (60) ∈ wsG := wsG_in 1033 (by decide +kernel) (by decide +kernel)
theorem k_1034 : Cond.methodLink RL 58 yX8_board ∈ wsG := wsG_in 1034 (by decide +kernel) (by decide +kernel)
theorem k_1035 : Cond.methodLink RL 62 yX8_leave ∈ wsG := wsG_in 1035 (by decide +kernel) (by decide +kernel)
theorem k_1036 : Cond.methodLink RL 66 yX8_sand ∈ wsG := wsG_in 1036 (by decide +kernel) (by decide +kernel)
theorem k_1037 : Cond.methodLink RL 70 yX8_turn ∈ wsG := wsG_in 1037 (by decide +kernel) (by decide +kernel)
theorem k_1038 : Cond.methodLink RL 74 yX8_may ∈ wsG := wsG_in 1038 (by decide +kernel) (by decide +kernel)
theorem k_1039 : Cond.instanceMethod yX8_may ∈ wsG := wsG_in 1039 (by decide +kernel) (by decide +kernel)
theorem k_1040 : Cond.selects RX8 yX8_may yX8_may ∈ wsG := wsG_in 1040 (by decide +kernel) (by decide +kernel)
theorem k_1041 : Cond.code yX8_may cX8_may 5 (some FieldType.int) ∈ wsG := wsG_in 1041 (by decide +kernel) (by decide +kernel)
theorem k_1042 : Cond.methodLink RL 78 yX8_soonest ∈ wsG := wsG_in 1042 (by decide +kernel) (by decide +kernel)
theorem k_1043 : Cond.instanceMethod yX8_soonest ∈ wsG := wsG_in 1043 (by decide +kernel) (by decide +kernel)
theorem k_1044 : Cond.selects RX8 yX8_soonest yX8_soonest ∈ wsG := wsG_in 1044 (by decide +kernel) (by decide +kernel)
theorem k_1045 : Cond.code yX8_soonest cX8_soonest 3 (some FieldType.int) ∈ wsG := wsG_in 1045 (by decide +kernel) (by decide +kernel)
theorem k_1046 : Cond.methodLink RX8 244 yX8_isAllIn ∈ wsG := wsG_in 1046 (by decide +kernel) (by decide +kernel)
theorem k_1048 : Cond.instanceMethod yX8_isAllIn ∈ wsG := wsG_in 1048 (by decide +kernel) (by decide +kernel)
theorem k_1049 : Cond.code yX8_isAllIn cX8_isAllIn 3 (some FieldType.boolean) ∈ wsG := wsG_in 1049 (by decide +kernel) (by decide +kernel)
theorem k_1050 : Cond.methodLink RX8 229 yX8_ones ∈ wsG := wsG_in 1050 (by decide +kernel) (by decide +kernel)
theorem k_1051 : Cond.static yX8_ones ∈ wsG := wsG_in 1051 (by decide +kernel) (by decide +kernel)
theorem k_1052 : Cond.code yX8_ones cX8_ones 3 (some FieldType.int) ∈ wsG := wsG_in 1052 (by decide +kernel) (by decide +kernel)
theorem k_1053 : Cond.methodLink RX8 247 yX8_findSoonest ∈ wsG := wsG_in 1053 (by decide +kernel) (by decide +kernel)
theorem k_1055 : Cond.instanceMethod yX8_findSoonest ∈ wsG := wsG_in 1055 (by decide +kernel) (by decide +kernel)
theorem k_1056 : Cond.code yX8_findSoonest cX8_findSoonest 7 (some FieldType.int) ∈ wsG := wsG_in 1056 (by decide +kernel) (by decide +kernel)
theorem k_1057 : Cond.methodLink RX8 235 yX8_areSo ∈ wsG := wsG_in 1057 (by decide +kernel) (by decide +kernel)
theorem k_1059 : Cond.instanceMethod yX8_areSo ∈ wsG := wsG_in 1059 (by decide +kernel) (by decide +kernel)
theorem k_1060 : Cond.code yX8_areSo cX8_areSo 4 (some FieldType.boolean) ∈ wsG := wsG_in 1060 (by decide +kernel) (by decide +kernel)
theorem k_1061 : Cond.methodLink RX8 238 yX8_canBoard ∈ wsG := wsG_in 1061 (by decide +kernel) (by decide +kernel)
theorem k_1063 : Cond.instanceMethod yX8_canBoard ∈ wsG := wsG_in 1063 (by decide +kernel) (by decide +kernel)
theorem k_1064 : Cond.code yX8_canBoard cX8_canBoard 5 (some FieldType.boolean) ∈ wsG := wsG_in 1064 (by decide +kernel) (by decide +kernel)
theorem k_1065 : Cond.methodLink RX8 241 yX8_nextTimes ∈ wsG := wsG_in 1065 (by decide +kernel) (by decide +kernel)
theorem k_1067 : Cond.instanceMethod yX8_nextTimes ∈ wsG := wsG_in 1067 (by decide +kernel) (by decide +kernel)
theorem k_1068 : Cond.code yX8_nextTimes cX8_nextTimes 2 (some FieldType.boolean) ∈ wsG := wsG_in 1068 (by decide +kernel) (by decide +kernel)
theorem k_1069 : Cond.methodLink RL 83 yX8_when ∈ wsG := wsG_in 1069 (by decide +kernel) (by decide +kernel)
theorem k_1070 : Cond.instanceMethod yX8_when ∈ wsG := wsG_in 1070 (by decide +kernel) (by decide +kernel)
theorem k_1071 : Cond.selects RX8 yX8_when yX8_when ∈ wsG := wsG_in 1071 (by decide +kernel) (by decide +kernel)
theorem k_1072 : Cond.code yX8_when cX8_when 5 (some FieldType.int) ∈ wsG := wsG_in 1072 (by decide +kernel) (by decide +kernel)
theorem k_1073 : Cond.methodLink RL 87 yX8_empty ∈ wsG := wsG_in 1073 (by decide +kernel) (by decide +kernel)
theorem k_1074 : Cond.instanceMethod yX8_empty ∈ wsG := wsG_in 1074 (by decide +kernel) (by decide +kernel)
theorem k_1075 : Cond.selects RX8 yX8_empty yX8_empty ∈ wsG := wsG_in 1075 (by decide +kernel) (by decide +kernel)
theorem k_1076 : Cond.code yX8_empty cX8_empty 3 (some FieldType.int) ∈ wsG := wsG_in 1076 (by decide +kernel) (by decide +kernel)
theorem k_1077 : Cond.methodLink RX8 250 yX8_count ∈ wsG := wsG_in 1077 (by decide +kernel) (by decide +kernel)
theorem k_1078 : Cond.methodLink RX8 253 yX8_getOut ∈ wsG := wsG_in 1078 (by decide +kernel) (by decide +kernel)
theorem k_1080 : Cond.instanceMethod yX8_getOut ∈ wsG := wsG_in 1080 (by decide +kernel) (by decide +kernel)
theorem k_1081 : Cond.code yX8_getOut cX8_getOut 6 none ∈ wsG := wsG_in 1081 (by decide +kernel) (by decide +kernel)
theorem k_1082 : Cond.methodLink RX8 257 yX8_isEvenWith ∈ wsG := wsG_in 1082 (by decide +kernel) (by decide +kernel)
theorem k_1084 : Cond.instanceMethod yX8_isEvenWith ∈ wsG := wsG_in 1084 (by decide +kernel) (by decide +kernel)
theorem k_1085 : Cond.code yX8_isEvenWith cX8_isEvenWith 3 (some FieldType.boolean) ∈ wsG := wsG_in 1085 (by decide +kernel) (by decide +kernel)
theorem k_1086 : Cond.methodLink RL 91 yX8_least ∈ wsG := wsG_in 1086 (by decide +kernel) (by decide +kernel)
theorem k_1087 : Cond.instanceMethod yX8_least ∈ wsG := wsG_in 1087 (by decide +kernel) (by decide +kernel)
theorem k_1088 : Cond.selects RX8 yX8_least yX8_least ∈ wsG := wsG_in 1088 (by decide +kernel) (by decide +kernel)
theorem k_1089 : Cond.code yX8_least cX8_least 8 (some FieldType.int) ∈ wsG := wsG_in 1089 (by decide +kernel) (by decide +kernel)
theorem k_1090 : Cond.methodLink RL 95 yX8_sure ∈ wsG := wsG_in 1090 (by decide +kernel) (by decide +kernel)
theorem k_1091 : Cond.instanceMethod yX8_sure ∈ wsG := wsG_in 1091 (by decide +kernel) (by decide +kernel)
theorem k_1092 : Cond.selects RX8 yX8_sure yX8_sure ∈ wsG := wsG_in 1092 (by decide +kernel) (by decide +kernel)
theorem k_1093 : Cond.code yX8_sure cX8_sure 2 (some FieldType.int) ∈ wsG := wsG_in 1093 (by decide +kernel) (by decide +kernel)
theorem k_1094 : Cond.methodLink RX8 268 yX8_findWorst ∈ wsG := wsG_in 1094 (by decide +kernel) (by decide +kernel)
theorem k_1096 : Cond.instanceMethod yX8_findWorst ∈ wsG := wsG_in 1096 (by decide +kernel) (by decide +kernel)
theorem k_1097 : Cond.code yX8_findWorst cX8_findWorst 8 none ∈ wsG := wsG_in 1097 (by decide +kernel) (by decide +kernel)
theorem k_1098 : Cond.constantLong RX8 260 (-1) ∈ wsG := wsG_in 1098 (by decide +kernel) (by decide +kernel)
theorem k_1099 : Cond.methodLink RL 99 yX8_worst ∈ wsG := wsG_in 1099 (by decide +kernel) (by decide +kernel)
theorem k_1100 : Cond.instanceMethod yX8_worst ∈ wsG := wsG_in 1100 (by decide +kernel) (by decide +kernel)
theorem k_1101 : Cond.selects RX8 yX8_worst yX8_worst ∈ wsG := wsG_in 1101 (by decide +kernel) (by decide +kernel)
theorem k_1102 : Cond.code yX8_worst cX8_worst 3 (some FieldType.int) ∈ wsG := wsG_in 1102 (by decide +kernel) (by decide +kernel)
theorem k_1103 : Cond.constant RX8 271 (-100000003) ∈ wsG := wsG_in 1103 (by decide +kernel) (by decide +kernel)
theorem k_1104 : Cond.methodLink RL 103 yX8_image ∈ wsG := wsG_in 1104 (by decide +kernel) (by decide +kernel)
theorem k_1105 : Cond.instanceMethod yX8_image ∈ wsG := wsG_in 1105 (by decide +kernel) (by decide +kernel)
theorem k_1106 : Cond.selects RX8 yX8_image yX8_image ∈ wsG := wsG_in 1106 (by decide +kernel) (by decide +kernel)
theorem k_1107 : Cond.code yX8_image cX8_image 2 (some FieldType.int) ∈ wsG := wsG_in 1107 (by decide +kernel) (by decide +kernel)
theorem k_1108 : Cond.methodLink RX8 272 yX8_carried ∈ wsG := wsG_in 1108 (by decide +kernel) (by decide +kernel)
theorem k_1110 : Cond.instanceMethod yX8_carried ∈ wsG := wsG_in 1110 (by decide +kernel) (by decide +kernel)
theorem k_1111 : Cond.code yX8_carried cX8_carried 6 (some FieldType.int) ∈ wsG := wsG_in 1111 (by decide +kernel) (by decide +kernel)
theorem k_1112 : Cond.methodLink RL 107 yX8_restore ∈ wsG := wsG_in 1112 (by decide +kernel) (by decide +kernel)
theorem k_1113 : Cond.instanceMethod yX8_restore ∈ wsG := wsG_in 1113 (by decide +kernel) (by decide +kernel)
theorem k_1114 : Cond.selects RX8 yX8_restore yX8_restore ∈ wsG := wsG_in 1114 (by decide +kernel) (by decide +kernel)
theorem k_1115 : Cond.code yX8_restore cX8_restore 2 (some FieldType.int) ∈ wsG := wsG_in 1115 (by decide +kernel) (by decide +kernel)
theorem k_1116 : Cond.methodLink RL 119 yX8_sheet ∈ wsG := wsG_in 1116 (by decide +kernel) (by decide +kernel)
theorem k_1117 : Cond.instanceMethod yX8_sheet ∈ wsG := wsG_in 1117 (by decide +kernel) (by decide +kernel)
theorem k_1118 : Cond.selects RX8 yX8_sheet yX8_sheet ∈ wsG := wsG_in 1118 (by decide +kernel) (by decide +kernel)
theorem k_1119 : Cond.code yX8_sheet cX8_sheet 5 (some FieldType.int) ∈ wsG := wsG_in 1119 (by decide +kernel) (by decide +kernel)
theorem k_1120 : Cond.methodLink RX8 280 yX8_isSheet ∈ wsG := wsG_in 1120 (by decide +kernel) (by decide +kernel)
theorem k_1121 : Cond.static yX8_isSheet ∈ wsG := wsG_in 1121 (by decide +kernel) (by decide +kernel)
theorem k_1122 : Cond.code yX8_isSheet cX8_isSheet 2 (some FieldType.boolean) ∈ wsG := wsG_in 1122 (by decide +kernel) (by decide +kernel)
theorem k_1123 : Cond.methodLink RL 123 yX8_drop ∈ wsG := wsG_in 1123 (by decide +kernel) (by decide +kernel)
theorem k_1124 : Cond.instanceMethod yX8_drop ∈ wsG := wsG_in 1124 (by decide +kernel) (by decide +kernel)
theorem k_1125 : Cond.selects RX8 yX8_drop yX8_drop ∈ wsG := wsG_in 1125 (by decide +kernel) (by decide +kernel)
theorem k_1126 : Cond.code yX8_drop cX8_drop 2 (some FieldType.int) ∈ wsG := wsG_in 1126 (by decide +kernel) (by decide +kernel)
theorem k_1127 : Cond.methodLink RL 128 yX8_item ∈ wsG := wsG_in 1127 (by decide +kernel) (by decide +kernel)
theorem k_1128 : Cond.instanceMethod yX8_item ∈ wsG := wsG_in 1128 (by decide +kernel) (by decide +kernel)
theorem k_1129 : Cond.selects RX8 yX8_item yX8_item ∈ wsG := wsG_in 1129 (by decide +kernel) (by decide +kernel)
theorem k_1130 : Cond.code yX8_item cX8_item 6 (some FieldType.int) ∈ wsG := wsG_in 1130 (by decide +kernel) (by decide +kernel)
theorem k_1131 : Cond.methodLink RX8 283 yX8_lacksRow ∈ wsG := wsG_in 1131 (by decide +kernel) (by decide +kernel)
theorem k_1133 : Cond.instanceMethod yX8_lacksRow ∈ wsG := wsG_in 1133 (by decide +kernel) (by decide +kernel)
theorem k_1134 : Cond.code yX8_lacksRow cX8_lacksRow 5 (some FieldType.int) ∈ wsG := wsG_in 1134 (by decide +kernel) (by decide +kernel)
theorem k_1135 : Cond.methodLink RX8 287 yX8_asLane ∈ wsG := wsG_in 1135 (by decide +kernel) (by decide +kernel)
theorem k_1136 : Cond.static yX8_asLane ∈ wsG := wsG_in 1136 (by decide +kernel) (by decide +kernel)
theorem k_1137 : Cond.code yX8_asLane cX8_asLane 2 (some FieldType.int) ∈ wsG := wsG_in 1137 (by decide +kernel) (by decide +kernel)
theorem k_1138 : Cond.methodLink RL 111 yX8_pour ∈ wsG := wsG_in 1138 (by decide +kernel) (by decide +kernel)
theorem k_1139 : Cond.instanceMethod yX8_pour ∈ wsG := wsG_in 1139 (by decide +kernel) (by decide +kernel)
theorem k_1140 : Cond.selects RX8 yX8_pour yX8_pour ∈ wsG := wsG_in 1140 (by decide +kernel) (by decide +kernel)
theorem k_1141 : Cond.code yX8_pour cX8_pour 8 (some FieldType.int) ∈ wsG := wsG_in 1141 (by decide +kernel) (by decide +kernel)
theorem k_1142 : Cond.methodLink RL 115 yX8_film ∈ wsG := wsG_in 1142 (by decide +kernel) (by decide +kernel)
theorem k_1143 : Cond.instanceMethod yX8_film ∈ wsG := wsG_in 1143 (by decide +kernel) (by decide +kernel)
theorem k_1144 : Cond.selects RX8 yX8_film yX8_film ∈ wsG := wsG_in 1144 (by decide +kernel) (by decide +kernel)
theorem k_1145 : Cond.code yX8_film cX8_film 6 (some FieldType.int) ∈ wsG := wsG_in 1145 (by decide +kernel) (by decide +kernel)
theorem k_1146 : Cond.methodLink RL 133 yX8_copy ∈ wsG := wsG_in 1146 (by decide +kernel) (by decide +kernel)
theorem k_1147 : Cond.instanceMethod yX8_copy ∈ wsG := wsG_in 1147 (by decide +kernel) (by decide +kernel)
theorem k_1148 : Cond.selects RX8 yX8_copy yX8_copy ∈ wsG := wsG_in 1148 (by decide +kernel) (by decide +kernel)
theorem k_1149 : Cond.code yX8_copy cX8_copy 7 (some FieldType.int) ∈ wsG := wsG_in 1149 (by decide +kernel) (by decide +kernel)
theorem k_1150 : Cond.constantLong RL 35 (4294967295) ∈ wsG := wsG_in 1150 (by decide +kernel) (by decide +kernel)
theorem k_1151 : Cond.fieldLink RJ0 15 "java/lang/String" "coder" "B" ∈ wsG := wsG_in 1151 (by decide +kernel) (by decide +kernel)
theorem k_1152 : Cond.fieldLink RJ0 9 "java/lang/String" "value" "[B" ∈ wsG := wsG_in 1152 (by decide +kernel) (by decide +kernel)
theorem kp_0 : Cond.selects RX5 yX5_readEntries yX5_readEntries ∈ wsG := wsG_sel 0 (by decide +kernel) (by decide +kernel)
theorem kp_1 : Cond.selects RX5 yX5_readLetter yX5_readLetter ∈ wsG := wsG_sel 1 (by decide +kernel) (by decide +kernel)
theorem kp_2 : Cond.selects RX5 yX5_next yX5_next ∈ wsG := wsG_sel 2 (by decide +kernel) (by decide +kernel)
theorem kp_3 : Cond.selects RX5 yX5_readNumber yX5_readNumber ∈ wsG := wsG_sel 3 (by decide +kernel) (by decide +kernel)
theorem kp_4 : Cond.selects RX5 yX5_readWhatFollows yX5_readWhatFollows ∈ wsG := wsG_sel 4 (by decide +kernel) (by decide +kernel)
theorem kp_5 : Cond.selects RX5 yX5_readDigit yX5_readDigit ∈ wsG := wsG_sel 5 (by decide +kernel) (by decide +kernel)
theorem kp_6 : Cond.selects RX7 yX7_happens yX7_happens ∈ wsG := wsG_sel 6 (by decide +kernel) (by decide +kernel)
theorem kp_7 : Cond.selects RX7 yX7_canBeAskedFor yX7_canBeAskedFor ∈ wsG := wsG_sel 7 (by decide +kernel) (by decide +kernel)
theorem kp_8 : Cond.selects RX0 yX0_goOn yX0_goOn ∈ wsG := wsG_sel 8 (by decide +kernel) (by decide +kernel)
theorem kp_9 : Cond.selects RX0 yX0_mayGoTogether yX0_mayGoTogether ∈ wsG := wsG_sel 9 (by decide +kernel) (by decide +kernel)
theorem kp_10 : Cond.selects RX0 yX0_putIn yX0_putIn ∈ wsG := wsG_sel 10 (by decide +kernel) (by decide +kernel)
theorem kp_11 : Cond.selects RX0 yX0_rowOf yX0_rowOf ∈ wsG := wsG_sel 11 (by decide +kernel) (by decide +kernel)
theorem kp_12 : Cond.selects RX0 yX0_shiftOf yX0_shiftOf ∈ wsG := wsG_sel 12 (by decide +kernel) (by decide +kernel)
theorem kp_13 : Cond.selects RX1 yX1_stepAt yX1_stepAt ∈ wsG := wsG_sel 13 (by decide +kernel) (by decide +kernel)
theorem kp_14 : Cond.selects RX1 yX1_letOut yX1_letOut ∈ wsG := wsG_sel 14 (by decide +kernel) (by decide +kernel)
theorem kp_15 : Cond.selects RX1 yX1_mayRide yX1_mayRide ∈ wsG := wsG_sel 15 (by decide +kernel) (by decide +kernel)
theorem kp_16 : Cond.selects RX7 yX7_helpsBySand yX7_helpsBySand ∈ wsG := wsG_sel 16 (by decide +kernel) (by decide +kernel)
theorem kp_17 : Cond.selects RX4 yX4_listRiders yX4_listRiders ∈ wsG := wsG_sel 17 (by decide +kernel) (by decide +kernel)
theorem kp_18 : Cond.selects RX7 yX7_refusalOfRow yX7_refusalOfRow ∈ wsG := wsG_sel 18 (by decide +kernel) (by decide +kernel)
theorem kp_19 : Cond.selects RX8 yX8_add yX8_add ∈ wsG := wsG_sel 19 (by decide +kernel) (by decide +kernel)
theorem kp_20 : Cond.selects RX8 yX8_isOne yX8_isOne ∈ wsG := wsG_sel 20 (by decide +kernel) (by decide +kernel)
theorem kp_21 : Cond.selects RX8 yX8_whoIn yX8_whoIn ∈ wsG := wsG_sel 21 (by decide +kernel) (by decide +kernel)
theorem kp_22 : Cond.selects RX8 yX8_weightOf yX8_weightOf ∈ wsG := wsG_sel 22 (by decide +kernel) (by decide +kernel)
theorem kp_23 : Cond.selects RX8 yX8_seatsOf yX8_seatsOf ∈ wsG := wsG_sel 23 (by decide +kernel) (by decide +kernel)
theorem kp_24 : Cond.selects RX8 yX8_isEven yX8_isEven ∈ wsG := wsG_sel 24 (by decide +kernel) (by decide +kernel)
theorem kp_25 : Cond.selects RX8 yX8_findLoads yX8_findLoads ∈ wsG := wsG_sel 25 (by decide +kernel) (by decide +kernel)
theorem kp_26 : Cond.selects RX8 yX8_isEvenNow yX8_isEvenNow ∈ wsG := wsG_sel 26 (by decide +kernel) (by decide +kernel)
theorem kp_27 : Cond.selects RX8 yX8_findSquare yX8_findSquare ∈ wsG := wsG_sel 27 (by decide +kernel) (by decide +kernel)
theorem kp_28 : Cond.selects RX8 yX8_readPeople yX8_readPeople ∈ wsG := wsG_sel 28 (by decide +kernel) (by decide +kernel)
theorem kp_29 : Cond.selects RX8 yX8_readOne yX8_readOne ∈ wsG := wsG_sel 29 (by decide +kernel) (by decide +kernel)
theorem kp_30 : Cond.selects RX8 yX8_nextByte yX8_nextByte ∈ wsG := wsG_sel 30 (by decide +kernel) (by decide +kernel)
theorem kp_31 : Cond.selects RX8 yX8_readNumber yX8_readNumber ∈ wsG := wsG_sel 31 (by decide +kernel) (by decide +kernel)
theorem kp_32 : Cond.selects RX8 yX8_readEvening yX8_readEvening ∈ wsG := wsG_sel 32 (by decide +kernel) (by decide +kernel)
theorem kp_33 : Cond.selects RX8 yX8_readAct yX8_readAct ∈ wsG := wsG_sel 33 (by decide +kernel) (by decide +kernel)
theorem kp_34 : Cond.selects RX8 yX8_does yX8_does ∈ wsG := wsG_sel 34 (by decide +kernel) (by decide +kernel)
theorem kp_35 : Cond.selects RX8 yX8_mayBoard yX8_mayBoard ∈ wsG := wsG_sel 35 (by decide +kernel) (by decide +kernel)
theorem kp_36 : Cond.selects RX8 yX8_fits yX8_fits ∈ wsG := wsG_sel 36 (by decide +kernel) (by decide +kernel)
theorem kp_37 : Cond.selects RX8 yX8_mayLeave yX8_mayLeave ∈ wsG := wsG_sel 37 (by decide +kernel) (by decide +kernel)
theorem kp_38 : Cond.selects RX8 yX8_isAllIn yX8_isAllIn ∈ wsG := wsG_sel 38 (by decide +kernel) (by decide +kernel)
theorem kp_39 : Cond.selects RX8 yX8_findSoonest yX8_findSoonest ∈ wsG := wsG_sel 39 (by decide +kernel) (by decide +kernel)
theorem kp_40 : Cond.selects RX8 yX8_areSo yX8_areSo ∈ wsG := wsG_sel 40 (by decide +kernel) (by decide +kernel)
theorem kp_41 : Cond.selects RX8 yX8_canBoard yX8_canBoard ∈ wsG := wsG_sel 41 (by decide +kernel) (by decide +kernel)
theorem kp_42 : Cond.selects RX8 yX8_nextTimes yX8_nextTimes ∈ wsG := wsG_sel 42 (by decide +kernel) (by decide +kernel)
theorem kp_43 : Cond.selects RX8 yX8_getOut yX8_getOut ∈ wsG := wsG_sel 43 (by decide +kernel) (by decide +kernel)
theorem kp_44 : Cond.selects RX8 yX8_isEvenWith yX8_isEvenWith ∈ wsG := wsG_sel 44 (by decide +kernel) (by decide +kernel)
theorem kp_45 : Cond.selects RX8 yX8_findWorst yX8_findWorst ∈ wsG := wsG_sel 45 (by decide +kernel) (by decide +kernel)
theorem kp_46 : Cond.selects RX8 yX8_carried yX8_carried ∈ wsG := wsG_sel 46 (by decide +kernel) (by decide +kernel)
theorem kp_47 : Cond.selects RX8 yX8_lacksRow yX8_lacksRow ∈ wsG := wsG_sel 47 (by decide +kernel) (by decide +kernel)
end
section
theorem dX0_init_0 : decode cX0_init 0 = .ok (.aload_n 0, 1) := by decide +kernel
theorem dX0_init_1 : decode cX0_init 1 = .ok (.invokespecial 5, 3) := by decide +kernel
theorem dX0_init_4 : decode cX0_init 4 = .ok (.aload_n 0, 1) := by decide +kernel
theorem dX0_init_5 : decode cX0_init 5 = .ok (.new 11, 3) := by decide +kernel
theorem dX0_init_8 : decode cX0_init 8 = .ok (.dup, 1) := by decide +kernel
theorem dX0_init_9 : decode cX0_init 9 = .ok (.invokespecial 13, 3) := by decide +kernel
theorem dX0_init_12 : decode cX0_init 12 = .ok (.putfield 14, 3) := by decide +kernel
theorem dX0_init_15 : decode cX0_init 15 = .ok (.aload_n 0, 1) := by decide +kernel
theorem dX0_init_16 : decode cX0_init 16 = .ok (.aload_n 1, 1) := by decide +kernel
theorem dX0_init_17 : decode cX0_init 17 = .ok (.putfield 18, 3) := by decide +kernel
theorem dX0_init_20 : decode cX0_init 20 = .ok (.return_, 1) := by decide +kernel
theorem dX0_search_0 : decode cX0_search 0 = .ok (.aload_n 0, 1) := by decide +kernel
theorem dX0_search_1 : decode cX0_search 1 = .ok (.iload_n 1, 1) := by decide +kernel
theorem dX0_search_2 : decode cX0_search 2 = .ok (.putfield 22, 3) := by decide +kernel
theorem dX0_search_5 : decode cX0_search 5 = .ok (.aload_n 0, 1) := by decide +kernel
theorem dX0_search_6 : decode cX0_search 6 = .ok (.iload_n 2, 1) := by decide +kernel
theorem dX0_search_7 : decode cX0_search 7 = .ok (.putfield 26, 3) := by decide +kernel
theorem dX0_search_10 : decode cX0_search 10 = .ok (.aload_n 0, 1) := by decide +kernel
theorem dX0_search_11 : decode cX0_search 11 = .ok (.ldc 29, 2) := by decide +kernel
theorem dX0_search_13 : decode cX0_search 13 = .ok (.putfield 30, 3) := by decide +kernel
theorem dX0_search_16 : decode cX0_search 16 = .ok (.aload_n 0, 1) := by decide +kernel
theorem dX0_search_17 : decode cX0_search 17 = .ok (.getfield 18, 3) := by decide +kernel
theorem dX0_search_20 : decode cX0_search 20 = .ok (.aload_n 0, 1) := by decide +kernel
theorem dX0_search_21 : decode cX0_search 21 = .ok (.getfield 14, 3) := by decide +kernel
theorem dX0_search_24 : decode cX0_search 24 = .ok (.invokevirtual 33, 3) := by decide +kernel
theorem dX0_search_27 : decode cX0_search 27 = .ok (.aload_n 0, 1) := by decide +kernel
theorem dX0_search_28 : decode cX0_search 28 = .ok (.iconst 0, 1) := by decide +kernel
theorem dX0_search_29 : decode cX0_search 29 = .ok (.iload_n 1, 1) := by decide +kernel
theorem dX0_search_30 : decode cX0_search 30 = .ok (.iconst 0, 1) := by decide +kernel
theorem dX0_search_31 : decode cX0_search 31 = .ok (.invokevirtual 39, 3) := by decide +kernel
theorem dX0_search_34 : decode cX0_search 34 = .ok (.aload_n 0, 1) := by decide +kernel
theorem dX0_search_35 : decode cX0_search 35 = .ok (.getfield 30, 3) := by decide +kernel
theorem dX0_search_38 : decode cX0_search 38 = .ok (.ldc 29, 2) := by decide +kernel
theorem dX0_search_40 : decode cX0_search 40 = .ok (.if_icmp .ge 7, 3) := by decide +kernel
theorem dX0_search_43 : decode cX0_search 43 = .ok (.iconst 1, 1) := by decide +kernel
theorem dX0_search_44 : decode cX0_search 44 = .ok (.goto 4, 3) := by decide +kernel
theorem dX0_search_47 : decode cX0_search 47 = .ok (.iconst 0, 1) := by decide +kernel
theorem dX0_search_48 : decode cX0_search 48 = .ok (.ireturn, 1) := by decide +kernel
theorem dX0_soonestMinute_0 : decode cX0_soonestMinute 0 = .ok (.aload_n 0, 1) := by decide +kernel
theorem dX0_soonestMinute_1 : decode cX0_soonestMinute 1 = .ok (.getfield 30, 3) := by decide +kernel
theorem dX0_soonestMinute_4 : decode cX0_soonestMinute 4 = .ok (.bipush 16, 2) := by decide +kernel
theorem dX0_soonestMinute_6 : decode cX0_soonestMinute 6 = .ok (.ishr, 1) := by decide +kernel
theorem dX0_soonestMinute_7 : decode cX0_soonestMinute 7 = .ok (.ireturn, 1) := by decide +kernel
theorem dX0_minuteOf_0 : decode cX0_minuteOf 0 = .ok (.aload_n 0, 1) := by decide +kernel
theorem dX0_minuteOf_1 : decode cX0_minuteOf 1 = .ok (.getfield 30, 3) := by decide +kernel
theorem dX0_minuteOf_4 : decode cX0_minuteOf 4 = .ok (.aload_n 0, 1) := by decide +kernel
theorem dX0_minuteOf_5 : decode cX0_minuteOf 5 = .ok (.iload_n 1, 1) := by decide +kernel
theorem dX0_minuteOf_6 : decode cX0_minuteOf 6 = .ok (.invokevirtual 43, 3) := by decide +kernel
theorem dX0_minuteOf_9 : decode cX0_minuteOf 9 = .ok (.ishr, 1) := by decide +kernel
theorem dX0_minuteOf_10 : decode cX0_minuteOf 10 = .ok (.bipush 15, 2) := by decide +kernel
theorem dX0_minuteOf_12 : decode cX0_minuteOf 12 = .ok (.iand, 1) := by decide +kernel
theorem dX0_minuteOf_13 : decode cX0_minuteOf 13 = .ok (.ireturn, 1) := by decide +kernel
theorem dX0_shiftOf_0 : decode cX0_shiftOf 0 = .ok (.aload_n 0, 1) := by decide +kernel
theorem dX0_shiftOf_1 : decode cX0_shiftOf 1 = .ok (.getfield 22, 3) := by decide +kernel
theorem dX0_shiftOf_4 : decode cX0_shiftOf 4 = .ok (.iconst 1, 1) := by decide +kernel
theorem dX0_shiftOf_5 : decode cX0_shiftOf 5 = .ok (.iload_n 1, 1) := by decide +kernel
theorem dX0_shiftOf_6 : decode cX0_shiftOf 6 = .ok (.ishl, 1) := by decide +kernel
theorem dX0_shiftOf_7 : decode cX0_shiftOf 7 = .ok (.iconst 1, 1) := by decide +kernel
theorem dX0_shiftOf_8 : decode cX0_shiftOf 8 = .ok (.isub, 1) := by decide +kernel
theorem dX0_shiftOf_9 : decode cX0_shiftOf 9 = .ok (.iand, 1) := by decide +kernel
theorem dX0_shiftOf_10 : decode cX0_shiftOf 10 = .ok (.invokestatic 47, 3) := by decide +kernel
theorem dX0_shiftOf_13 : decode cX0_shiftOf 13 = .ok (.istore_n 2, 1) := by decide +kernel
theorem dX0_shiftOf_14 : decode cX0_shiftOf 14 = .ok (.iconst 4, 1) := by decide +kernel
theorem dX0_shiftOf_15 : decode cX0_shiftOf 15 = .ok (.iconst 3, 1) := by decide +kernel
theorem dX0_shiftOf_16 : decode cX0_shiftOf 16 = .ok (.iload_n 2, 1) := by decide +kernel
theorem dX0_shiftOf_17 : decode cX0_shiftOf 17 = .ok (.isub, 1) := by decide +kernel
theorem dX0_shiftOf_18 : decode cX0_shiftOf 18 = .ok (.imul, 1) := by decide +kernel
theorem dX0_shiftOf_19 : decode cX0_shiftOf 19 = .ok (.ireturn, 1) := by decide +kernel
theorem dX0_goOn_0 : decode cX0_goOn 0 = .ok (.iload_n 1, 1) := by decide +kernel
theorem dX0_goOn_1 : decode cX0_goOn 1 = .ok (.bipush 11, 2) := by decide +kernel
theorem dX0_goOn_3 : decode cX0_goOn 3 = .ok (.if_icmp .gt 14, 3) := by decide +kernel
theorem dX0_goOn_6 : decode cX0_goOn 6 = .ok (.iload_n 1, 1) := by decide +kernel
theorem dX0_goOn_7 : decode cX0_goOn 7 = .ok (.aload_n 0, 1) := by decide +kernel
theorem dX0_goOn_8 : decode cX0_goOn 8 = .ok (.getfield 30, 3) := by decide +kernel
theorem dX0_goOn_11 : decode cX0_goOn 11 = .ok (.bipush 16, 2) := by decide +kernel
theorem dX0_goOn_13 : decode cX0_goOn 13 = .ok (.ishr, 1) := by decide +kernel
theorem dX0_goOn_14 : decode cX0_goOn 14 = .ok (.if_icmp .le 4, 3) := by decide +kernel
theorem dX0_goOn_17 : decode cX0_goOn 17 = .ok (.return_, 1) := by decide +kernel
theorem dX0_goOn_18 : decode cX0_goOn 18 = .ok (.aload_n 0, 1) := by decide +kernel
theorem dX0_goOn_19 : decode cX0_goOn 19 = .ok (.getfield 18, 3) := by decide +kernel
theorem dX0_goOn_22 : decode cX0_goOn 22 = .ok (.aload_n 0, 1) := by decide +kernel
theorem dX0_goOn_23 : decode cX0_goOn 23 = .ok (.getfield 18, 3) := by decide +kernel
theorem dX0_goOn_26 : decode cX0_goOn 26 = .ok (.invokevirtual 52, 3) := by decide +kernel
theorem dX0_goOn_29 : decode cX0_goOn 29 = .ok (.iload_n 1, 1) := by decide +kernel
theorem dX0_goOn_30 : decode cX0_goOn 30 = .ok (.iadd, 1) := by decide +kernel
theorem dX0_goOn_31 : decode cX0_goOn 31 = .ok (.bipush 12, 2) := by decide +kernel
theorem dX0_goOn_33 : decode cX0_goOn 33 = .ok (.irem, 1) := by decide +kernel
theorem dX0_goOn_34 : decode cX0_goOn 34 = .ok (.invokevirtual 56, 3) := by decide +kernel
theorem dX0_goOn_37 : decode cX0_goOn 37 = .ok (.istore 4, 2) := by decide +kernel
theorem dX0_goOn_39 : decode cX0_goOn 39 = .ok (.iload_n 2, 1) := by decide +kernel
theorem dX0_goOn_40 : decode cX0_goOn 40 = .ok (.istore 5, 2) := by decide +kernel
theorem dX0_goOn_42 : decode cX0_goOn 42 = .ok (.iconst 0, 1) := by decide +kernel
theorem dX0_goOn_43 : decode cX0_goOn 43 = .ok (.istore 6, 2) := by decide +kernel
theorem dX0_goOn_45 : decode cX0_goOn 45 = .ok (.iload 6, 2) := by decide +kernel
theorem dX0_goOn_47 : decode cX0_goOn 47 = .ok (.bipush 16, 2) := by decide +kernel
theorem dX0_goOn_49 : decode cX0_goOn 49 = .ok (.if_icmp .ge 59, 3) := by decide +kernel
theorem dX0_goOn_52 : decode cX0_goOn 52 = .ok (.iload 5, 2) := by decide +kernel
theorem dX0_goOn_54 : decode cX0_goOn 54 = .ok (.ifCond .ne 6, 3) := by decide +kernel
theorem dX0_goOn_57 : decode cX0_goOn 57 = .ok (.goto 51, 3) := by decide +kernel
theorem dX0_goOn_60 : decode cX0_goOn 60 = .ok (.aload_n 0, 1) := by decide +kernel
theorem dX0_goOn_61 : decode cX0_goOn 61 = .ok (.iload 5, 2) := by decide +kernel
theorem dX0_goOn_63 : decode cX0_goOn 63 = .ok (.iload_n 2, 1) := by decide +kernel
theorem dX0_goOn_64 : decode cX0_goOn 64 = .ok (.invokevirtual 59, 3) := by decide +kernel
theorem dX0_goOn_67 : decode cX0_goOn 67 = .ok (.ifCond .eq 27, 3) := by decide +kernel
theorem dX0_goOn_70 : decode cX0_goOn 70 = .ok (.aload_n 0, 1) := by decide +kernel
theorem dX0_goOn_71 : decode cX0_goOn 71 = .ok (.getfield 18, 3) := by decide +kernel
theorem dX0_goOn_74 : decode cX0_goOn 74 = .ok (.iload 4, 2) := by decide +kernel
theorem dX0_goOn_76 : decode cX0_goOn 76 = .ok (.iload 5, 2) := by decide +kernel
theorem dX0_goOn_78 : decode cX0_goOn 78 = .ok (.ior, 1) := by decide +kernel
theorem dX0_goOn_79 : decode cX0_goOn 79 = .ok (.invokevirtual 63, 3) := by decide +kernel
theorem dX0_goOn_82 : decode cX0_goOn 82 = .ok (.ifCond .eq 12, 3) := by decide +kernel
theorem dX0_goOn_85 : decode cX0_goOn 85 = .ok (.aload_n 0, 1) := by decide +kernel
theorem dX0_goOn_86 : decode cX0_goOn 86 = .ok (.iload_n 1, 1) := by decide +kernel
theorem dX0_goOn_87 : decode cX0_goOn 87 = .ok (.iload_n 2, 1) := by decide +kernel
theorem dX0_goOn_88 : decode cX0_goOn 88 = .ok (.iload_n 3, 1) := by decide +kernel
theorem dX0_goOn_89 : decode cX0_goOn 89 = .ok (.iload 5, 2) := by decide +kernel
theorem dX0_goOn_91 : decode cX0_goOn 91 = .ok (.invokevirtual 67, 3) := by decide +kernel
theorem dX0_goOn_94 : decode cX0_goOn 94 = .ok (.iload 5, 2) := by decide +kernel
theorem dX0_goOn_96 : decode cX0_goOn 96 = .ok (.iconst 1, 1) := by decide +kernel
theorem dX0_goOn_97 : decode cX0_goOn 97 = .ok (.isub, 1) := by decide +kernel
theorem dX0_goOn_98 : decode cX0_goOn 98 = .ok (.iload_n 2, 1) := by decide +kernel
theorem dX0_goOn_99 : decode cX0_goOn 99 = .ok (.iand, 1) := by decide +kernel
theorem dX0_goOn_100 : decode cX0_goOn 100 = .ok (.istore 5, 2) := by decide +kernel
theorem dX0_goOn_102 : decode cX0_goOn 102 = .ok (.iinc 6 1, 3) := by decide +kernel
theorem dX0_goOn_105 : decode cX0_goOn 105 = .ok (.goto (-60), 3) := by decide +kernel
theorem dX0_goOn_108 : decode cX0_goOn 108 = .ok (.aload_n 0, 1) := by decide +kernel
theorem dX0_goOn_109 : decode cX0_goOn 109 = .ok (.iload_n 1, 1) := by decide +kernel
theorem dX0_goOn_110 : decode cX0_goOn 110 = .ok (.iconst 1, 1) := by decide +kernel
theorem dX0_goOn_111 : decode cX0_goOn 111 = .ok (.iadd, 1) := by decide +kernel
theorem dX0_goOn_112 : decode cX0_goOn 112 = .ok (.iload_n 2, 1) := by decide +kernel
theorem dX0_goOn_113 : decode cX0_goOn 113 = .ok (.iload_n 3, 1) := by decide +kernel
theorem dX0_goOn_114 : decode cX0_goOn 114 = .ok (.invokevirtual 39, 3) := by decide +kernel
theorem dX0_goOn_117 : decode cX0_goOn 117 = .ok (.return_, 1) := by decide +kernel
theorem dX0_mayGoTogether_0 : decode cX0_mayGoTogether 0 = .ok (.iload_n 2, 1) := by decide +kernel
theorem dX0_mayGoTogether_1 : decode cX0_mayGoTogether 1 = .ok (.iload_n 1, 1) := by decide +kernel
theorem dX0_mayGoTogether_2 : decode cX0_mayGoTogether 2 = .ok (.iconst (-1), 1) := by decide +kernel
theorem dX0_mayGoTogether_3 : decode cX0_mayGoTogether 3 = .ok (.ixor, 1) := by decide +kernel
theorem dX0_mayGoTogether_4 : decode cX0_mayGoTogether 4 = .ok (.iand, 1) := by decide +kernel
theorem dX0_mayGoTogether_5 : decode cX0_mayGoTogether 5 = .ok (.istore_n 3, 1) := by decide +kernel
theorem dX0_mayGoTogether_6 : decode cX0_mayGoTogether 6 = .ok (.iload_n 3, 1) := by decide +kernel
theorem dX0_mayGoTogether_7 : decode cX0_mayGoTogether 7 = .ok (.ifCond .ne 5, 3) := by decide +kernel
theorem dX0_mayGoTogether_10 : decode cX0_mayGoTogether 10 = .ok (.iconst 1, 1) := by decide +kernel
theorem dX0_mayGoTogether_11 : decode cX0_mayGoTogether 11 = .ok (.ireturn, 1) := by decide +kernel
theorem dX0_mayGoTogether_12 : decode cX0_mayGoTogether 12 = .ok (.aload_n 0, 1) := by decide +kernel
theorem dX0_mayGoTogether_13 : decode cX0_mayGoTogether 13 = .ok (.getfield 26, 3) := by decide +kernel
theorem dX0_mayGoTogether_16 : decode cX0_mayGoTogether 16 = .ok (.iconst 1, 1) := by decide +kernel
theorem dX0_mayGoTogether_17 : decode cX0_mayGoTogether 17 = .ok (.if_icmp .ne 21, 3) := by decide +kernel
theorem dX0_mayGoTogether_20 : decode cX0_mayGoTogether 20 = .ok (.iload_n 3, 1) := by decide +kernel
theorem dX0_mayGoTogether_21 : decode cX0_mayGoTogether 21 = .ok (.iload_n 3, 1) := by decide +kernel
theorem dX0_mayGoTogether_22 : decode cX0_mayGoTogether 22 = .ok (.ineg, 1) := by decide +kernel
theorem dX0_mayGoTogether_23 : decode cX0_mayGoTogether 23 = .ok (.iand, 1) := by decide +kernel
theorem dX0_mayGoTogether_24 : decode cX0_mayGoTogether 24 = .ok (.istore 4, 2) := by decide +kernel
theorem dX0_mayGoTogether_26 : decode cX0_mayGoTogether 26 = .ok (.iload 4, 2) := by decide +kernel
theorem dX0_mayGoTogether_28 : decode cX0_mayGoTogether 28 = .ok (.iload_n 1, 1) := by decide +kernel
theorem dX0_mayGoTogether_29 : decode cX0_mayGoTogether 29 = .ok (.if_icmp .le 7, 3) := by decide +kernel
theorem dX0_mayGoTogether_32 : decode cX0_mayGoTogether 32 = .ok (.iconst 1, 1) := by decide +kernel
theorem dX0_mayGoTogether_33 : decode cX0_mayGoTogether 33 = .ok (.goto 4, 3) := by decide +kernel
theorem dX0_mayGoTogether_36 : decode cX0_mayGoTogether 36 = .ok (.iconst 0, 1) := by decide +kernel
theorem dX0_mayGoTogether_37 : decode cX0_mayGoTogether 37 = .ok (.ireturn, 1) := by decide +kernel
theorem dX0_mayGoTogether_38 : decode cX0_mayGoTogether 38 = .ok (.aload_n 0, 1) := by decide +kernel
theorem dX0_mayGoTogether_39 : decode cX0_mayGoTogether 39 = .ok (.getfield 26, 3) := by decide +kernel
theorem dX0_mayGoTogether_42 : decode cX0_mayGoTogether 42 = .ok (.iconst 2, 1) := by decide +kernel
theorem dX0_mayGoTogether_43 : decode cX0_mayGoTogether 43 = .ok (.if_icmp .eq 7, 3) := by decide +kernel
theorem dX0_mayGoTogether_46 : decode cX0_mayGoTogether 46 = .ok (.iconst 1, 1) := by decide +kernel
theorem dX0_mayGoTogether_47 : decode cX0_mayGoTogether 47 = .ok (.goto 4, 3) := by decide +kernel
theorem dX0_mayGoTogether_50 : decode cX0_mayGoTogether 50 = .ok (.iconst 0, 1) := by decide +kernel
theorem dX0_mayGoTogether_51 : decode cX0_mayGoTogether 51 = .ok (.ireturn, 1) := by decide +kernel
theorem dX0_putIn_0 : decode cX0_putIn 0 = .ok (.aload_n 0, 1) := by decide +kernel
theorem dX0_putIn_1 : decode cX0_putIn 1 = .ok (.getfield 18, 3) := by decide +kernel
theorem dX0_putIn_4 : decode cX0_putIn 4 = .ok (.invokevirtual 52, 3) := by decide +kernel
theorem dX0_putIn_7 : decode cX0_putIn 7 = .ok (.iload_n 1, 1) := by decide +kernel
theorem dX0_putIn_8 : decode cX0_putIn 8 = .ok (.iadd, 1) := by decide +kernel
theorem dX0_putIn_9 : decode cX0_putIn 9 = .ok (.bipush 12, 2) := by decide +kernel
theorem dX0_putIn_11 : decode cX0_putIn 11 = .ok (.irem, 1) := by decide +kernel
theorem dX0_putIn_12 : decode cX0_putIn 12 = .ok (.istore 5, 2) := by decide +kernel
theorem dX0_putIn_14 : decode cX0_putIn 14 = .ok (.aload_n 0, 1) := by decide +kernel
theorem dX0_putIn_15 : decode cX0_putIn 15 = .ok (.getfield 18, 3) := by decide +kernel
theorem dX0_putIn_18 : decode cX0_putIn 18 = .ok (.iload 4, 2) := by decide +kernel
theorem dX0_putIn_20 : decode cX0_putIn 20 = .ok (.invokevirtual 71, 3) := by decide +kernel
theorem dX0_putIn_23 : decode cX0_putIn 23 = .ok (.istore 6, 2) := by decide +kernel
theorem dX0_putIn_25 : decode cX0_putIn 25 = .ok (.aload_n 0, 1) := by decide +kernel
theorem dX0_putIn_26 : decode cX0_putIn 26 = .ok (.getfield 14, 3) := by decide +kernel
theorem dX0_putIn_29 : decode cX0_putIn 29 = .ok (.iload 5, 2) := by decide +kernel
theorem dX0_putIn_31 : decode cX0_putIn 31 = .ok (.iload 6, 2) := by decide +kernel
theorem dX0_putIn_33 : decode cX0_putIn 33 = .ok (.invokevirtual 74, 3) := by decide +kernel
theorem dX0_putIn_36 : decode cX0_putIn 36 = .ok (.aload_n 0, 1) := by decide +kernel
theorem dX0_putIn_37 : decode cX0_putIn 37 = .ok (.getfield 14, 3) := by decide +kernel
theorem dX0_putIn_40 : decode cX0_putIn 40 = .ok (.aload_n 0, 1) := by decide +kernel
theorem dX0_putIn_41 : decode cX0_putIn 41 = .ok (.getfield 18, 3) := by decide +kernel
theorem dX0_putIn_44 : decode cX0_putIn 44 = .ok (.getfield 78, 3) := by decide +kernel
theorem dX0_putIn_47 : decode cX0_putIn 47 = .ok (.invokevirtual 81, 3) := by decide +kernel
theorem dX0_putIn_50 : decode cX0_putIn 50 = .ok (.ifCond .eq 56, 3) := by decide +kernel
theorem dX0_putIn_53 : decode cX0_putIn 53 = .ok (.iload_n 3, 1) := by decide +kernel
theorem dX0_putIn_54 : decode cX0_putIn 54 = .ok (.aload_n 0, 1) := by decide +kernel
theorem dX0_putIn_55 : decode cX0_putIn 55 = .ok (.iload 4, 2) := by decide +kernel
theorem dX0_putIn_57 : decode cX0_putIn 57 = .ok (.iload_n 1, 1) := by decide +kernel
theorem dX0_putIn_58 : decode cX0_putIn 58 = .ok (.invokevirtual 84, 3) := by decide +kernel
theorem dX0_putIn_61 : decode cX0_putIn 61 = .ok (.ior, 1) := by decide +kernel
theorem dX0_putIn_62 : decode cX0_putIn 62 = .ok (.istore 7, 2) := by decide +kernel
theorem dX0_putIn_64 : decode cX0_putIn 64 = .ok (.iload 4, 2) := by decide +kernel
theorem dX0_putIn_66 : decode cX0_putIn 66 = .ok (.iload_n 2, 1) := by decide +kernel
theorem dX0_putIn_67 : decode cX0_putIn 67 = .ok (.if_icmp .ne 24, 3) := by decide +kernel
theorem dX0_putIn_70 : decode cX0_putIn 70 = .ok (.aload_n 0, 1) := by decide +kernel
theorem dX0_putIn_71 : decode cX0_putIn 71 = .ok (.aload_n 0, 1) := by decide +kernel
theorem dX0_putIn_72 : decode cX0_putIn 72 = .ok (.getfield 30, 3) := by decide +kernel
theorem dX0_putIn_75 : decode cX0_putIn 75 = .ok (.iload_n 1, 1) := by decide +kernel
theorem dX0_putIn_76 : decode cX0_putIn 76 = .ok (.bipush 16, 2) := by decide +kernel
theorem dX0_putIn_78 : decode cX0_putIn 78 = .ok (.ishl, 1) := by decide +kernel
theorem dX0_putIn_79 : decode cX0_putIn 79 = .ok (.iload 7, 2) := by decide +kernel
theorem dX0_putIn_81 : decode cX0_putIn 81 = .ok (.ior, 1) := by decide +kernel
theorem dX0_putIn_82 : decode cX0_putIn 82 = .ok (.invokestatic 88, 3) := by decide +kernel
theorem dX0_putIn_85 : decode cX0_putIn 85 = .ok (.putfield 30, 3) := by decide +kernel
theorem dX0_putIn_88 : decode cX0_putIn 88 = .ok (.goto 18, 3) := by decide +kernel
theorem dX0_putIn_91 : decode cX0_putIn 91 = .ok (.aload_n 0, 1) := by decide +kernel
theorem dX0_putIn_92 : decode cX0_putIn 92 = .ok (.iload_n 1, 1) := by decide +kernel
theorem dX0_putIn_93 : decode cX0_putIn 93 = .ok (.iconst 1, 1) := by decide +kernel
theorem dX0_putIn_94 : decode cX0_putIn 94 = .ok (.iadd, 1) := by decide +kernel
theorem dX0_putIn_95 : decode cX0_putIn 95 = .ok (.iload_n 2, 1) := by decide +kernel
theorem dX0_putIn_96 : decode cX0_putIn 96 = .ok (.iload 4, 2) := by decide +kernel
theorem dX0_putIn_98 : decode cX0_putIn 98 = .ok (.iconst (-1), 1) := by decide +kernel
theorem dX0_putIn_99 : decode cX0_putIn 99 = .ok (.ixor, 1) := by decide +kernel
theorem dX0_putIn_100 : decode cX0_putIn 100 = .ok (.iand, 1) := by decide +kernel
theorem dX0_putIn_101 : decode cX0_putIn 101 = .ok (.iload 7, 2) := by decide +kernel
theorem dX0_putIn_103 : decode cX0_putIn 103 = .ok (.invokevirtual 39, 3) := by decide +kernel
theorem dX0_putIn_106 : decode cX0_putIn 106 = .ok (.aload_n 0, 1) := by decide +kernel
theorem dX0_putIn_107 : decode cX0_putIn 107 = .ok (.getfield 14, 3) := by decide +kernel
theorem dX0_putIn_110 : decode cX0_putIn 110 = .ok (.iload 5, 2) := by decide +kernel
theorem dX0_putIn_112 : decode cX0_putIn 112 = .ok (.iload 6, 2) := by decide +kernel
theorem dX0_putIn_114 : decode cX0_putIn 114 = .ok (.ineg, 1) := by decide +kernel
theorem dX0_putIn_115 : decode cX0_putIn 115 = .ok (.invokevirtual 74, 3) := by decide +kernel
theorem dX0_putIn_118 : decode cX0_putIn 118 = .ok (.return_, 1) := by decide +kernel
theorem dX0_rowOf_0 : decode cX0_rowOf 0 = .ok (.iconst 0, 1) := by decide +kernel
theorem dX0_rowOf_1 : decode cX0_rowOf 1 = .ok (.istore_n 3, 1) := by decide +kernel
theorem dX0_rowOf_2 : decode cX0_rowOf 2 = .ok (.iconst 0, 1) := by decide +kernel
theorem dX0_rowOf_3 : decode cX0_rowOf 3 = .ok (.istore 4, 2) := by decide +kernel
theorem dX0_rowOf_5 : decode cX0_rowOf 5 = .ok (.iload 4, 2) := by decide +kernel
theorem dX0_rowOf_7 : decode cX0_rowOf 7 = .ok (.bipush 10, 2) := by decide +kernel
theorem dX0_rowOf_9 : decode cX0_rowOf 9 = .ok (.if_icmp .ge 29, 3) := by decide +kernel
theorem dX0_rowOf_12 : decode cX0_rowOf 12 = .ok (.iload_n 1, 1) := by decide +kernel
theorem dX0_rowOf_13 : decode cX0_rowOf 13 = .ok (.iload 4, 2) := by decide +kernel
theorem dX0_rowOf_15 : decode cX0_rowOf 15 = .ok (.ishr, 1) := by decide +kernel
theorem dX0_rowOf_16 : decode cX0_rowOf 16 = .ok (.iconst 1, 1) := by decide +kernel
theorem dX0_rowOf_17 : decode cX0_rowOf 17 = .ok (.iand, 1) := by decide +kernel
theorem dX0_rowOf_18 : decode cX0_rowOf 18 = .ok (.ifCond .eq 14, 3) := by decide +kernel
theorem dX0_rowOf_21 : decode cX0_rowOf 21 = .ok (.iload_n 3, 1) := by decide +kernel
theorem dX0_rowOf_22 : decode cX0_rowOf 22 = .ok (.iload_n 2, 1) := by decide +kernel
theorem dX0_rowOf_23 : decode cX0_rowOf 23 = .ok (.aload_n 0, 1) := by decide +kernel
theorem dX0_rowOf_24 : decode cX0_rowOf 24 = .ok (.iload 4, 2) := by decide +kernel
theorem dX0_rowOf_26 : decode cX0_rowOf 26 = .ok (.invokevirtual 43, 3) := by decide +kernel
theorem dX0_rowOf_29 : decode cX0_rowOf 29 = .ok (.ishl, 1) := by decide +kernel
theorem dX0_rowOf_30 : decode cX0_rowOf 30 = .ok (.ior, 1) := by decide +kernel
theorem dX0_rowOf_31 : decode cX0_rowOf 31 = .ok (.istore_n 3, 1) := by decide +kernel
theorem dX0_rowOf_32 : decode cX0_rowOf 32 = .ok (.iinc 4 1, 3) := by decide +kernel
theorem dX0_rowOf_35 : decode cX0_rowOf 35 = .ok (.goto (-30), 3) := by decide +kernel
theorem dX0_rowOf_38 : decode cX0_rowOf 38 = .ok (.iload_n 3, 1) := by decide +kernel
theorem dX0_rowOf_39 : decode cX0_rowOf 39 = .ok (.ireturn, 1) := by decide +kernel
theorem dX1_init_0 : decode cX1_init 0 = .ok (.aload_n 0, 1) := by decide +kernel
theorem dX1_init_1 : decode cX1_init 1 = .ok (.invokespecial 3, 3) := by decide +kernel
theorem dX1_init_4 : decode cX1_init 4 = .ok (.aload_n 0, 1) := by decide +kernel
theorem dX1_init_5 : decode cX1_init 5 = .ok (.new 9, 3) := by decide +kernel
theorem dX1_init_8 : decode cX1_init 8 = .ok (.dup, 1) := by decide +kernel
theorem dX1_init_9 : decode cX1_init 9 = .ok (.invokespecial 11, 3) := by decide +kernel
theorem dX1_init_12 : decode cX1_init 12 = .ok (.putfield 12, 3) := by decide +kernel
theorem dX1_init_15 : decode cX1_init 15 = .ok (.aload_n 0, 1) := by decide +kernel
theorem dX1_init_16 : decode cX1_init 16 = .ok (.new 9, 3) := by decide +kernel
theorem dX1_init_19 : decode cX1_init 19 = .ok (.dup, 1) := by decide +kernel
theorem dX1_init_20 : decode cX1_init 20 = .ok (.invokespecial 11, 3) := by decide +kernel
theorem dX1_init_23 : decode cX1_init 23 = .ok (.putfield 18, 3) := by decide +kernel
theorem dX1_init_26 : decode cX1_init 26 = .ok (.aload_n 0, 1) := by decide +kernel
theorem dX1_init_27 : decode cX1_init 27 = .ok (.sipush 1024, 3) := by decide +kernel
theorem dX1_init_30 : decode cX1_init 30 = .ok (.newarray .int, 2) := by decide +kernel
theorem dX1_init_32 : decode cX1_init 32 = .ok (.putfield 21, 3) := by decide +kernel
theorem dX1_init_35 : decode cX1_init 35 = .ok (.aload_n 0, 1) := by decide +kernel
theorem dX1_init_36 : decode cX1_init 36 = .ok (.aload_n 1, 1) := by decide +kernel
theorem dX1_init_37 : decode cX1_init 37 = .ok (.putfield 25, 3) := by decide +kernel
theorem dX1_init_40 : decode cX1_init 40 = .ok (.return_, 1) := by decide +kernel
theorem dX1_fewestMinutes_0 : decode cX1_fewestMinutes 0 = .ok (.aload_n 0, 1) := by decide +kernel
theorem dX1_fewestMinutes_1 : decode cX1_fewestMinutes 1 = .ok (.getfield 25, 3) := by decide +kernel
theorem dX1_fewestMinutes_4 : decode cX1_fewestMinutes 4 = .ok (.invokevirtual 29, 3) := by decide +kernel
theorem dX1_fewestMinutes_7 : decode cX1_fewestMinutes 7 = .ok (.istore_n 1, 1) := by decide +kernel
theorem dX1_fewestMinutes_8 : decode cX1_fewestMinutes 8 = .ok (.iconst 0, 1) := by decide +kernel
theorem dX1_fewestMinutes_9 : decode cX1_fewestMinutes 9 = .ok (.istore_n 2, 1) := by decide +kernel
theorem dX1_fewestMinutes_10 : decode cX1_fewestMinutes 10 = .ok (.iload_n 2, 1) := by decide +kernel
theorem dX1_fewestMinutes_11 : decode cX1_fewestMinutes 11 = .ok (.iload_n 1, 1) := by decide +kernel
theorem dX1_fewestMinutes_12 : decode cX1_fewestMinutes 12 = .ok (.if_icmp .gt 16, 3) := by decide +kernel
theorem dX1_fewestMinutes_15 : decode cX1_fewestMinutes 15 = .ok (.aload_n 0, 1) := by decide +kernel
theorem dX1_fewestMinutes_16 : decode cX1_fewestMinutes 16 = .ok (.getfield 21, 3) := by decide +kernel
theorem dX1_fewestMinutes_19 : decode cX1_fewestMinutes 19 = .ok (.iload_n 2, 1) := by decide +kernel
theorem dX1_fewestMinutes_20 : decode cX1_fewestMinutes 20 = .ok (.iconst 0, 1) := by decide +kernel
theorem dX1_fewestMinutes_21 : decode cX1_fewestMinutes 21 = .ok (.iastore, 1) := by decide +kernel
theorem dX1_fewestMinutes_22 : decode cX1_fewestMinutes 22 = .ok (.iinc 2 1, 3) := by decide +kernel
theorem dX1_fewestMinutes_25 : decode cX1_fewestMinutes 25 = .ok (.goto (-15), 3) := by decide +kernel
theorem dX1_fewestMinutes_28 : decode cX1_fewestMinutes 28 = .ok (.aload_n 0, 1) := by decide +kernel
theorem dX1_fewestMinutes_29 : decode cX1_fewestMinutes 29 = .ok (.getfield 21, 3) := by decide +kernel
theorem dX1_fewestMinutes_32 : decode cX1_fewestMinutes 32 = .ok (.iload_n 1, 1) := by decide +kernel
theorem dX1_fewestMinutes_33 : decode cX1_fewestMinutes 33 = .ok (.iconst 1, 1) := by decide +kernel
theorem dX1_fewestMinutes_34 : decode cX1_fewestMinutes 34 = .ok (.iastore, 1) := by decide +kernel
theorem dX1_fewestMinutes_35 : decode cX1_fewestMinutes 35 = .ok (.aload_n 0, 1) := by decide +kernel
theorem dX1_fewestMinutes_36 : decode cX1_fewestMinutes 36 = .ok (.getfield 25, 3) := by decide +kernel
theorem dX1_fewestMinutes_39 : decode cX1_fewestMinutes 39 = .ok (.aload_n 0, 1) := by decide +kernel
theorem dX1_fewestMinutes_40 : decode cX1_fewestMinutes 40 = .ok (.getfield 12, 3) := by decide +kernel
theorem dX1_fewestMinutes_43 : decode cX1_fewestMinutes 43 = .ok (.invokevirtual 35, 3) := by decide +kernel
theorem dX1_fewestMinutes_46 : decode cX1_fewestMinutes 46 = .ok (.iconst 0, 1) := by decide +kernel
theorem dX1_fewestMinutes_47 : decode cX1_fewestMinutes 47 = .ok (.istore_n 2, 1) := by decide +kernel
theorem dX1_fewestMinutes_48 : decode cX1_fewestMinutes 48 = .ok (.iload_n 2, 1) := by decide +kernel
theorem dX1_fewestMinutes_49 : decode cX1_fewestMinutes 49 = .ok (.bipush 23, 2) := by decide +kernel
theorem dX1_fewestMinutes_51 : decode cX1_fewestMinutes 51 = .ok (.if_icmp .gt 38, 3) := by decide +kernel
theorem dX1_fewestMinutes_54 : decode cX1_fewestMinutes 54 = .ok (.aload_n 0, 1) := by decide +kernel
theorem dX1_fewestMinutes_55 : decode cX1_fewestMinutes 55 = .ok (.aload_n 0, 1) := by decide +kernel
theorem dX1_fewestMinutes_56 : decode cX1_fewestMinutes 56 = .ok (.getfield 25, 3) := by decide +kernel
theorem dX1_fewestMinutes_59 : decode cX1_fewestMinutes 59 = .ok (.invokevirtual 39, 3) := by decide +kernel
theorem dX1_fewestMinutes_62 : decode cX1_fewestMinutes 62 = .ok (.iload_n 2, 1) := by decide +kernel
theorem dX1_fewestMinutes_63 : decode cX1_fewestMinutes 63 = .ok (.iadd, 1) := by decide +kernel
theorem dX1_fewestMinutes_64 : decode cX1_fewestMinutes 64 = .ok (.bipush 12, 2) := by decide +kernel
theorem dX1_fewestMinutes_66 : decode cX1_fewestMinutes 66 = .ok (.irem, 1) := by decide +kernel
theorem dX1_fewestMinutes_67 : decode cX1_fewestMinutes 67 = .ok (.iload_n 1, 1) := by decide +kernel
theorem dX1_fewestMinutes_68 : decode cX1_fewestMinutes 68 = .ok (.invokevirtual 42, 3) := by decide +kernel
theorem dX1_fewestMinutes_71 : decode cX1_fewestMinutes 71 = .ok (.aload_n 0, 1) := by decide +kernel
theorem dX1_fewestMinutes_72 : decode cX1_fewestMinutes 72 = .ok (.getfield 21, 3) := by decide +kernel
theorem dX1_fewestMinutes_75 : decode cX1_fewestMinutes 75 = .ok (.iconst 0, 1) := by decide +kernel
theorem dX1_fewestMinutes_76 : decode cX1_fewestMinutes 76 = .ok (.iaload, 1) := by decide +kernel
theorem dX1_fewestMinutes_77 : decode cX1_fewestMinutes 77 = .ok (.iconst 1, 1) := by decide +kernel
theorem dX1_fewestMinutes_78 : decode cX1_fewestMinutes 78 = .ok (.if_icmp .ne 5, 3) := by decide +kernel
theorem dX1_fewestMinutes_81 : decode cX1_fewestMinutes 81 = .ok (.iload_n 2, 1) := by decide +kernel
theorem dX1_fewestMinutes_82 : decode cX1_fewestMinutes 82 = .ok (.ireturn, 1) := by decide +kernel
theorem dX1_fewestMinutes_83 : decode cX1_fewestMinutes 83 = .ok (.iinc 2 1, 3) := by decide +kernel
theorem dX1_fewestMinutes_86 : decode cX1_fewestMinutes 86 = .ok (.goto (-38), 3) := by decide +kernel
theorem dX1_fewestMinutes_89 : decode cX1_fewestMinutes 89 = .ok (.bipush (-4), 2) := by decide +kernel
theorem dX1_fewestMinutes_91 : decode cX1_fewestMinutes 91 = .ok (.ireturn, 1) := by decide +kernel
theorem dX1_stepAt_0 : decode cX1_stepAt 0 = .ok (.aload_n 0, 1) := by decide +kernel
theorem dX1_stepAt_1 : decode cX1_stepAt 1 = .ok (.getfield 25, 3) := by decide +kernel
theorem dX1_stepAt_4 : decode cX1_stepAt 4 = .ok (.iload_n 1, 1) := by decide +kernel
theorem dX1_stepAt_5 : decode cX1_stepAt 5 = .ok (.invokevirtual 46, 3) := by decide +kernel
theorem dX1_stepAt_8 : decode cX1_stepAt 8 = .ok (.istore_n 3, 1) := by decide +kernel
theorem dX1_stepAt_9 : decode cX1_stepAt 9 = .ok (.iload_n 3, 1) := by decide +kernel
theorem dX1_stepAt_10 : decode cX1_stepAt 10 = .ok (.ifCond .ne 4, 3) := by decide +kernel
theorem dX1_stepAt_13 : decode cX1_stepAt 13 = .ok (.return_, 1) := by decide +kernel
theorem dX1_stepAt_14 : decode cX1_stepAt 14 = .ok (.iload_n 2, 1) := by decide +kernel
theorem dX1_stepAt_15 : decode cX1_stepAt 15 = .ok (.istore 4, 2) := by decide +kernel
theorem dX1_stepAt_17 : decode cX1_stepAt 17 = .ok (.iload 4, 2) := by decide +kernel
theorem dX1_stepAt_19 : decode cX1_stepAt 19 = .ok (.ifCond .le 34, 3) := by decide +kernel
theorem dX1_stepAt_22 : decode cX1_stepAt 22 = .ok (.aload_n 0, 1) := by decide +kernel
theorem dX1_stepAt_23 : decode cX1_stepAt 23 = .ok (.getfield 21, 3) := by decide +kernel
theorem dX1_stepAt_26 : decode cX1_stepAt 26 = .ok (.iload 4, 2) := by decide +kernel
theorem dX1_stepAt_28 : decode cX1_stepAt 28 = .ok (.iaload, 1) := by decide +kernel
theorem dX1_stepAt_29 : decode cX1_stepAt 29 = .ok (.iconst 1, 1) := by decide +kernel
theorem dX1_stepAt_30 : decode cX1_stepAt 30 = .ok (.if_icmp .ne 17, 3) := by decide +kernel
theorem dX1_stepAt_33 : decode cX1_stepAt 33 = .ok (.iload 4, 2) := by decide +kernel
theorem dX1_stepAt_35 : decode cX1_stepAt 35 = .ok (.iload_n 3, 1) := by decide +kernel
theorem dX1_stepAt_36 : decode cX1_stepAt 36 = .ok (.iand, 1) := by decide +kernel
theorem dX1_stepAt_37 : decode cX1_stepAt 37 = .ok (.ifCond .eq 10, 3) := by decide +kernel
theorem dX1_stepAt_40 : decode cX1_stepAt 40 = .ok (.aload_n 0, 1) := by decide +kernel
theorem dX1_stepAt_41 : decode cX1_stepAt 41 = .ok (.iload 4, 2) := by decide +kernel
theorem dX1_stepAt_43 : decode cX1_stepAt 43 = .ok (.iload_n 3, 1) := by decide +kernel
theorem dX1_stepAt_44 : decode cX1_stepAt 44 = .ok (.invokevirtual 50, 3) := by decide +kernel
theorem dX1_stepAt_47 : decode cX1_stepAt 47 = .ok (.iinc 4 (-1), 3) := by decide +kernel
theorem dX1_stepAt_50 : decode cX1_stepAt 50 = .ok (.goto (-33), 3) := by decide +kernel
theorem dX1_stepAt_53 : decode cX1_stepAt 53 = .ok (.return_, 1) := by decide +kernel
theorem dX1_letOut_0 : decode cX1_letOut 0 = .ok (.iload_n 1, 1) := by decide +kernel
theorem dX1_letOut_1 : decode cX1_letOut 1 = .ok (.iload_n 2, 1) := by decide +kernel
theorem dX1_letOut_2 : decode cX1_letOut 2 = .ok (.iand, 1) := by decide +kernel
theorem dX1_letOut_3 : decode cX1_letOut 3 = .ok (.istore_n 3, 1) := by decide +kernel
theorem dX1_letOut_4 : decode cX1_letOut 4 = .ok (.iload_n 3, 1) := by decide +kernel
theorem dX1_letOut_5 : decode cX1_letOut 5 = .ok (.istore 4, 2) := by decide +kernel
theorem dX1_letOut_7 : decode cX1_letOut 7 = .ok (.iload 4, 2) := by decide +kernel
theorem dX1_letOut_9 : decode cX1_letOut 9 = .ok (.ifCond .le 54, 3) := by decide +kernel
theorem dX1_letOut_12 : decode cX1_letOut 12 = .ok (.iload_n 1, 1) := by decide +kernel
theorem dX1_letOut_13 : decode cX1_letOut 13 = .ok (.iload 4, 2) := by decide +kernel
theorem dX1_letOut_15 : decode cX1_letOut 15 = .ok (.iconst (-1), 1) := by decide +kernel
theorem dX1_letOut_16 : decode cX1_letOut 16 = .ok (.ixor, 1) := by decide +kernel
theorem dX1_letOut_17 : decode cX1_letOut 17 = .ok (.iand, 1) := by decide +kernel
theorem dX1_letOut_18 : decode cX1_letOut 18 = .ok (.istore 5, 2) := by decide +kernel
theorem dX1_letOut_20 : decode cX1_letOut 20 = .ok (.aload_n 0, 1) := by decide +kernel
theorem dX1_letOut_21 : decode cX1_letOut 21 = .ok (.getfield 21, 3) := by decide +kernel
theorem dX1_letOut_24 : decode cX1_letOut 24 = .ok (.iload 5, 2) := by decide +kernel
theorem dX1_letOut_26 : decode cX1_letOut 26 = .ok (.iaload, 1) := by decide +kernel
theorem dX1_letOut_27 : decode cX1_letOut 27 = .ok (.ifCond .ne 25, 3) := by decide +kernel
theorem dX1_letOut_30 : decode cX1_letOut 30 = .ok (.aload_n 0, 1) := by decide +kernel
theorem dX1_letOut_31 : decode cX1_letOut 31 = .ok (.getfield 21, 3) := by decide +kernel
theorem dX1_letOut_34 : decode cX1_letOut 34 = .ok (.iload 5, 2) := by decide +kernel
theorem dX1_letOut_36 : decode cX1_letOut 36 = .ok (.aload_n 0, 1) := by decide +kernel
theorem dX1_letOut_37 : decode cX1_letOut 37 = .ok (.iload 5, 2) := by decide +kernel
theorem dX1_letOut_39 : decode cX1_letOut 39 = .ok (.iload_n 2, 1) := by decide +kernel
theorem dX1_letOut_40 : decode cX1_letOut 40 = .ok (.invokevirtual 53, 3) := by decide +kernel
theorem dX1_letOut_43 : decode cX1_letOut 43 = .ok (.ifCond .eq 7, 3) := by decide +kernel
theorem dX1_letOut_46 : decode cX1_letOut 46 = .ok (.iconst 1, 1) := by decide +kernel
theorem dX1_letOut_47 : decode cX1_letOut 47 = .ok (.goto 4, 3) := by decide +kernel
theorem dX1_letOut_50 : decode cX1_letOut 50 = .ok (.iconst 2, 1) := by decide +kernel
theorem dX1_letOut_51 : decode cX1_letOut 51 = .ok (.iastore, 1) := by decide +kernel
theorem dX1_letOut_52 : decode cX1_letOut 52 = .ok (.iload 4, 2) := by decide +kernel
theorem dX1_letOut_54 : decode cX1_letOut 54 = .ok (.iconst 1, 1) := by decide +kernel
theorem dX1_letOut_55 : decode cX1_letOut 55 = .ok (.isub, 1) := by decide +kernel
theorem dX1_letOut_56 : decode cX1_letOut 56 = .ok (.iload_n 3, 1) := by decide +kernel
theorem dX1_letOut_57 : decode cX1_letOut 57 = .ok (.iand, 1) := by decide +kernel
theorem dX1_letOut_58 : decode cX1_letOut 58 = .ok (.istore 4, 2) := by decide +kernel
theorem dX1_letOut_60 : decode cX1_letOut 60 = .ok (.goto (-53), 3) := by decide +kernel
theorem dX1_letOut_63 : decode cX1_letOut 63 = .ok (.return_, 1) := by decide +kernel
theorem dX1_mayRide_0 : decode cX1_mayRide 0 = .ok (.aload_n 0, 1) := by decide +kernel
theorem dX1_mayRide_1 : decode cX1_mayRide 1 = .ok (.getfield 25, 3) := by decide +kernel
theorem dX1_mayRide_4 : decode cX1_mayRide 4 = .ok (.iload_n 1, 1) := by decide +kernel
theorem dX1_mayRide_5 : decode cX1_mayRide 5 = .ok (.iload_n 2, 1) := by decide +kernel
theorem dX1_mayRide_6 : decode cX1_mayRide 6 = .ok (.iand, 1) := by decide +kernel
theorem dX1_mayRide_7 : decode cX1_mayRide 7 = .ok (.invokevirtual 57, 3) := by decide +kernel
theorem dX1_mayRide_10 : decode cX1_mayRide 10 = .ok (.ifCond .ne 5, 3) := by decide +kernel
theorem dX1_mayRide_13 : decode cX1_mayRide 13 = .ok (.iconst 0, 1) := by decide +kernel
theorem dX1_mayRide_14 : decode cX1_mayRide 14 = .ok (.ireturn, 1) := by decide +kernel
theorem dX1_mayRide_15 : decode cX1_mayRide 15 = .ok (.aload_n 0, 1) := by decide +kernel
theorem dX1_mayRide_16 : decode cX1_mayRide 16 = .ok (.getfield 18, 3) := by decide +kernel
theorem dX1_mayRide_19 : decode cX1_mayRide 19 = .ok (.aload_n 0, 1) := by decide +kernel
theorem dX1_mayRide_20 : decode cX1_mayRide 20 = .ok (.getfield 12, 3) := by decide +kernel
theorem dX1_mayRide_23 : decode cX1_mayRide 23 = .ok (.invokevirtual 61, 3) := by decide +kernel
theorem dX1_mayRide_26 : decode cX1_mayRide 26 = .ok (.aload_n 0, 1) := by decide +kernel
theorem dX1_mayRide_27 : decode cX1_mayRide 27 = .ok (.getfield 25, 3) := by decide +kernel
theorem dX1_mayRide_30 : decode cX1_mayRide 30 = .ok (.iload_n 1, 1) := by decide +kernel
theorem dX1_mayRide_31 : decode cX1_mayRide 31 = .ok (.aload_n 0, 1) := by decide +kernel
theorem dX1_mayRide_32 : decode cX1_mayRide 32 = .ok (.getfield 18, 3) := by decide +kernel
theorem dX1_mayRide_35 : decode cX1_mayRide 35 = .ok (.invokevirtual 64, 3) := by decide +kernel
theorem dX1_mayRide_38 : decode cX1_mayRide 38 = .ok (.aload_n 0, 1) := by decide +kernel
theorem dX1_mayRide_39 : decode cX1_mayRide 39 = .ok (.getfield 18, 3) := by decide +kernel
theorem dX1_mayRide_42 : decode cX1_mayRide 42 = .ok (.aload_n 0, 1) := by decide +kernel
theorem dX1_mayRide_43 : decode cX1_mayRide 43 = .ok (.getfield 25, 3) := by decide +kernel
theorem dX1_mayRide_46 : decode cX1_mayRide 46 = .ok (.getfield 68, 3) := by decide +kernel
theorem dX1_mayRide_49 : decode cX1_mayRide 49 = .ok (.invokevirtual 72, 3) := by decide +kernel
theorem dX1_mayRide_52 : decode cX1_mayRide 52 = .ok (.ireturn, 1) := by decide +kernel
theorem dX2_init_0 : decode cX2_init 0 = .ok (.aload_n 0, 1) := by decide +kernel
theorem dX2_init_1 : decode cX2_init 1 = .ok (.invokespecial 3, 3) := by decide +kernel
theorem dX2_init_4 : decode cX2_init 4 = .ok (.return_, 1) := by decide +kernel
theorem dX2_clear_0 : decode cX2_clear 0 = .ok (.aload_n 0, 1) := by decide +kernel
theorem dX2_clear_1 : decode cX2_clear 1 = .ok (.iconst 0, 1) := by decide +kernel
theorem dX2_clear_2 : decode cX2_clear 2 = .ok (.putfield 9, 3) := by decide +kernel
theorem dX2_clear_5 : decode cX2_clear 5 = .ok (.aload_n 0, 1) := by decide +kernel
theorem dX2_clear_6 : decode cX2_clear 6 = .ok (.iconst 0, 1) := by decide +kernel
theorem dX2_clear_7 : decode cX2_clear 7 = .ok (.putfield 15, 3) := by decide +kernel
theorem dX2_clear_10 : decode cX2_clear 10 = .ok (.aload_n 0, 1) := by decide +kernel
theorem dX2_clear_11 : decode cX2_clear 11 = .ok (.iconst 0, 1) := by decide +kernel
theorem dX2_clear_12 : decode cX2_clear 12 = .ok (.putfield 18, 3) := by decide +kernel
theorem dX2_clear_15 : decode cX2_clear 15 = .ok (.aload_n 0, 1) := by decide +kernel
theorem dX2_clear_16 : decode cX2_clear 16 = .ok (.iconst 0, 1) := by decide +kernel
theorem dX2_clear_17 : decode cX2_clear 17 = .ok (.putfield 21, 3) := by decide +kernel
theorem dX2_clear_20 : decode cX2_clear 20 = .ok (.return_, 1) := by decide +kernel
theorem dX2_become_0 : decode cX2_become 0 = .ok (.aload_n 0, 1) := by decide +kernel
theorem dX2_become_1 : decode cX2_become 1 = .ok (.aload_n 1, 1) := by decide +kernel
theorem dX2_become_2 : decode cX2_become 2 = .ok (.getfield 9, 3) := by decide +kernel
theorem dX2_become_5 : decode cX2_become 5 = .ok (.putfield 9, 3) := by decide +kernel
theorem dX2_become_8 : decode cX2_become 8 = .ok (.aload_n 0, 1) := by decide +kernel
theorem dX2_become_9 : decode cX2_become 9 = .ok (.aload_n 1, 1) := by decide +kernel
theorem dX2_become_10 : decode cX2_become 10 = .ok (.getfield 15, 3) := by decide +kernel
theorem dX2_become_13 : decode cX2_become 13 = .ok (.putfield 15, 3) := by decide +kernel
theorem dX2_become_16 : decode cX2_become 16 = .ok (.aload_n 0, 1) := by decide +kernel
theorem dX2_become_17 : decode cX2_become 17 = .ok (.aload_n 1, 1) := by decide +kernel
theorem dX2_become_18 : decode cX2_become 18 = .ok (.getfield 18, 3) := by decide +kernel
theorem dX2_become_21 : decode cX2_become 21 = .ok (.putfield 18, 3) := by decide +kernel
theorem dX2_become_24 : decode cX2_become 24 = .ok (.aload_n 0, 1) := by decide +kernel
theorem dX2_become_25 : decode cX2_become 25 = .ok (.aload_n 1, 1) := by decide +kernel
theorem dX2_become_26 : decode cX2_become 26 = .ok (.getfield 21, 3) := by decide +kernel
theorem dX2_become_29 : decode cX2_become 29 = .ok (.putfield 21, 3) := by decide +kernel
theorem dX2_become_32 : decode cX2_become 32 = .ok (.return_, 1) := by decide +kernel
theorem dX2_hang_0 : decode cX2_hang 0 = .ok (.iload_n 1, 1) := by decide +kernel
theorem dX2_hang_1 : decode cX2_hang 1 = .ok (.ifCond .lt 9, 3) := by decide +kernel
theorem dX2_hang_4 : decode cX2_hang 4 = .ok (.iload_n 1, 1) := by decide +kernel
theorem dX2_hang_5 : decode cX2_hang 5 = .ok (.bipush 12, 2) := by decide +kernel
theorem dX2_hang_7 : decode cX2_hang 7 = .ok (.if_icmp .lt 4, 3) := by decide +kernel
theorem dX2_hang_10 : decode cX2_hang 10 = .ok (.return_, 1) := by decide +kernel
theorem dX2_hang_11 : decode cX2_hang 11 = .ok (.aload_n 0, 1) := by decide +kernel
theorem dX2_hang_12 : decode cX2_hang 12 = .ok (.dup, 1) := by decide +kernel
theorem dX2_hang_13 : decode cX2_hang 13 = .ok (.getfield 9, 3) := by decide +kernel
theorem dX2_hang_16 : decode cX2_hang 16 = .ok (.iload_n 2, 1) := by decide +kernel
theorem dX2_hang_17 : decode cX2_hang 17 = .ok (.getstatic 24, 3) := by decide +kernel
theorem dX2_hang_20 : decode cX2_hang 20 = .ok (.iload_n 1, 1) := by decide +kernel
theorem dX2_hang_21 : decode cX2_hang 21 = .ok (.iaload, 1) := by decide +kernel
theorem dX2_hang_22 : decode cX2_hang 22 = .ok (.imul, 1) := by decide +kernel
theorem dX2_hang_23 : decode cX2_hang 23 = .ok (.iadd, 1) := by decide +kernel
theorem dX2_hang_24 : decode cX2_hang 24 = .ok (.putfield 9, 3) := by decide +kernel
theorem dX2_hang_27 : decode cX2_hang 27 = .ok (.aload_n 0, 1) := by decide +kernel
theorem dX2_hang_28 : decode cX2_hang 28 = .ok (.dup, 1) := by decide +kernel
theorem dX2_hang_29 : decode cX2_hang 29 = .ok (.getfield 15, 3) := by decide +kernel
theorem dX2_hang_32 : decode cX2_hang 32 = .ok (.iload_n 2, 1) := by decide +kernel
theorem dX2_hang_33 : decode cX2_hang 33 = .ok (.getstatic 28, 3) := by decide +kernel
theorem dX2_hang_36 : decode cX2_hang 36 = .ok (.iload_n 1, 1) := by decide +kernel
theorem dX2_hang_37 : decode cX2_hang 37 = .ok (.iaload, 1) := by decide +kernel
theorem dX2_hang_38 : decode cX2_hang 38 = .ok (.imul, 1) := by decide +kernel
theorem dX2_hang_39 : decode cX2_hang 39 = .ok (.iadd, 1) := by decide +kernel
theorem dX2_hang_40 : decode cX2_hang 40 = .ok (.putfield 15, 3) := by decide +kernel
theorem dX2_hang_43 : decode cX2_hang 43 = .ok (.aload_n 0, 1) := by decide +kernel
theorem dX2_hang_44 : decode cX2_hang 44 = .ok (.dup, 1) := by decide +kernel
theorem dX2_hang_45 : decode cX2_hang 45 = .ok (.getfield 18, 3) := by decide +kernel
theorem dX2_hang_48 : decode cX2_hang 48 = .ok (.iload_n 2, 1) := by decide +kernel
theorem dX2_hang_49 : decode cX2_hang 49 = .ok (.getstatic 31, 3) := by decide +kernel
theorem dX2_hang_52 : decode cX2_hang 52 = .ok (.iload_n 1, 1) := by decide +kernel
theorem dX2_hang_53 : decode cX2_hang 53 = .ok (.iaload, 1) := by decide +kernel
theorem dX2_hang_54 : decode cX2_hang 54 = .ok (.imul, 1) := by decide +kernel
theorem dX2_hang_55 : decode cX2_hang 55 = .ok (.iadd, 1) := by decide +kernel
theorem dX2_hang_56 : decode cX2_hang 56 = .ok (.putfield 18, 3) := by decide +kernel
theorem dX2_hang_59 : decode cX2_hang 59 = .ok (.aload_n 0, 1) := by decide +kernel
theorem dX2_hang_60 : decode cX2_hang 60 = .ok (.dup, 1) := by decide +kernel
theorem dX2_hang_61 : decode cX2_hang 61 = .ok (.getfield 21, 3) := by decide +kernel
theorem dX2_hang_64 : decode cX2_hang 64 = .ok (.iload_n 2, 1) := by decide +kernel
theorem dX2_hang_65 : decode cX2_hang 65 = .ok (.getstatic 34, 3) := by decide +kernel
theorem dX2_hang_68 : decode cX2_hang 68 = .ok (.iload_n 1, 1) := by decide +kernel
theorem dX2_hang_69 : decode cX2_hang 69 = .ok (.iaload, 1) := by decide +kernel
theorem dX2_hang_70 : decode cX2_hang 70 = .ok (.imul, 1) := by decide +kernel
theorem dX2_hang_71 : decode cX2_hang 71 = .ok (.iadd, 1) := by decide +kernel
theorem dX2_hang_72 : decode cX2_hang 72 = .ok (.putfield 21, 3) := by decide +kernel
theorem dX2_hang_75 : decode cX2_hang 75 = .ok (.return_, 1) := by decide +kernel
theorem dX2_wholePart_0 : decode cX2_wholePart 0 = .ok (.aload_n 0, 1) := by decide +kernel
theorem dX2_wholePart_1 : decode cX2_wholePart 1 = .ok (.getfield 9, 3) := by decide +kernel
theorem dX2_wholePart_4 : decode cX2_wholePart 4 = .ok (.i2l, 1) := by decide +kernel
theorem dX2_wholePart_5 : decode cX2_wholePart 5 = .ok (.aload_n 0, 1) := by decide +kernel
theorem dX2_wholePart_6 : decode cX2_wholePart 6 = .ok (.getfield 9, 3) := by decide +kernel
theorem dX2_wholePart_9 : decode cX2_wholePart 9 = .ok (.i2l, 1) := by decide +kernel
theorem dX2_wholePart_10 : decode cX2_wholePart 10 = .ok (.lmul, 1) := by decide +kernel
theorem dX2_wholePart_11 : decode cX2_wholePart 11 = .ok (.ldc2_w 37, 3) := by decide +kernel
theorem dX2_wholePart_14 : decode cX2_wholePart 14 = .ok (.aload_n 0, 1) := by decide +kernel
theorem dX2_wholePart_15 : decode cX2_wholePart 15 = .ok (.getfield 15, 3) := by decide +kernel
theorem dX2_wholePart_18 : decode cX2_wholePart 18 = .ok (.i2l, 1) := by decide +kernel
theorem dX2_wholePart_19 : decode cX2_wholePart 19 = .ok (.lmul, 1) := by decide +kernel
theorem dX2_wholePart_20 : decode cX2_wholePart 20 = .ok (.aload_n 0, 1) := by decide +kernel
theorem dX2_wholePart_21 : decode cX2_wholePart 21 = .ok (.getfield 15, 3) := by decide +kernel
theorem dX2_wholePart_24 : decode cX2_wholePart 24 = .ok (.i2l, 1) := by decide +kernel
theorem dX2_wholePart_25 : decode cX2_wholePart 25 = .ok (.lmul, 1) := by decide +kernel
theorem dX2_wholePart_26 : decode cX2_wholePart 26 = .ok (.ladd, 1) := by decide +kernel
theorem dX2_wholePart_27 : decode cX2_wholePart 27 = .ok (.aload_n 0, 1) := by decide +kernel
theorem dX2_wholePart_28 : decode cX2_wholePart 28 = .ok (.getfield 18, 3) := by decide +kernel
theorem dX2_wholePart_31 : decode cX2_wholePart 31 = .ok (.i2l, 1) := by decide +kernel
theorem dX2_wholePart_32 : decode cX2_wholePart 32 = .ok (.aload_n 0, 1) := by decide +kernel
theorem dX2_wholePart_33 : decode cX2_wholePart 33 = .ok (.getfield 18, 3) := by decide +kernel
theorem dX2_wholePart_36 : decode cX2_wholePart 36 = .ok (.i2l, 1) := by decide +kernel
theorem dX2_wholePart_37 : decode cX2_wholePart 37 = .ok (.lmul, 1) := by decide +kernel
theorem dX2_wholePart_38 : decode cX2_wholePart 38 = .ok (.ladd, 1) := by decide +kernel
theorem dX2_wholePart_39 : decode cX2_wholePart 39 = .ok (.ldc2_w 37, 3) := by decide +kernel
theorem dX2_wholePart_42 : decode cX2_wholePart 42 = .ok (.aload_n 0, 1) := by decide +kernel
theorem dX2_wholePart_43 : decode cX2_wholePart 43 = .ok (.getfield 21, 3) := by decide +kernel
theorem dX2_wholePart_46 : decode cX2_wholePart 46 = .ok (.i2l, 1) := by decide +kernel
theorem dX2_wholePart_47 : decode cX2_wholePart 47 = .ok (.lmul, 1) := by decide +kernel
theorem dX2_wholePart_48 : decode cX2_wholePart 48 = .ok (.aload_n 0, 1) := by decide +kernel
theorem dX2_wholePart_49 : decode cX2_wholePart 49 = .ok (.getfield 21, 3) := by decide +kernel
theorem dX2_wholePart_52 : decode cX2_wholePart 52 = .ok (.i2l, 1) := by decide +kernel
theorem dX2_wholePart_53 : decode cX2_wholePart 53 = .ok (.lmul, 1) := by decide +kernel
theorem dX2_wholePart_54 : decode cX2_wholePart 54 = .ok (.ladd, 1) := by decide +kernel
theorem dX2_wholePart_55 : decode cX2_wholePart 55 = .ok (.lreturn, 1) := by decide +kernel
theorem dX2_rootPart_0 : decode cX2_rootPart 0 = .ok (.ldc2_w 39, 3) := by decide +kernel
theorem dX2_rootPart_3 : decode cX2_rootPart 3 = .ok (.aload_n 0, 1) := by decide +kernel
theorem dX2_rootPart_4 : decode cX2_rootPart 4 = .ok (.getfield 9, 3) := by decide +kernel
theorem dX2_rootPart_7 : decode cX2_rootPart 7 = .ok (.i2l, 1) := by decide +kernel
theorem dX2_rootPart_8 : decode cX2_rootPart 8 = .ok (.aload_n 0, 1) := by decide +kernel
theorem dX2_rootPart_9 : decode cX2_rootPart 9 = .ok (.getfield 15, 3) := by decide +kernel
theorem dX2_rootPart_12 : decode cX2_rootPart 12 = .ok (.i2l, 1) := by decide +kernel
theorem dX2_rootPart_13 : decode cX2_rootPart 13 = .ok (.lmul, 1) := by decide +kernel
theorem dX2_rootPart_14 : decode cX2_rootPart 14 = .ok (.aload_n 0, 1) := by decide +kernel
theorem dX2_rootPart_15 : decode cX2_rootPart 15 = .ok (.getfield 18, 3) := by decide +kernel
theorem dX2_rootPart_18 : decode cX2_rootPart 18 = .ok (.i2l, 1) := by decide +kernel
theorem dX2_rootPart_19 : decode cX2_rootPart 19 = .ok (.aload_n 0, 1) := by decide +kernel
theorem dX2_rootPart_20 : decode cX2_rootPart 20 = .ok (.getfield 21, 3) := by decide +kernel
theorem dX2_rootPart_23 : decode cX2_rootPart 23 = .ok (.i2l, 1) := by decide +kernel
theorem dX2_rootPart_24 : decode cX2_rootPart 24 = .ok (.lmul, 1) := by decide +kernel
theorem dX2_rootPart_25 : decode cX2_rootPart 25 = .ok (.ladd, 1) := by decide +kernel
theorem dX2_rootPart_26 : decode cX2_rootPart 26 = .ok (.lmul, 1) := by decide +kernel
theorem dX2_rootPart_27 : decode cX2_rootPart 27 = .ok (.lreturn, 1) := by decide +kernel
theorem dX2_isEvenWithin_0 : decode cX2_isEvenWithin 0 = .ok (.aload_n 0, 1) := by decide +kernel
theorem dX2_isEvenWithin_1 : decode cX2_isEvenWithin 1 = .ok (.invokevirtual 41, 3) := by decide +kernel
theorem dX2_isEvenWithin_4 : decode cX2_isEvenWithin 4 = .ok (.ldc2_w 45, 3) := by decide +kernel
theorem dX2_isEvenWithin_7 : decode cX2_isEvenWithin 7 = .ok (.iload_n 1, 1) := by decide +kernel
theorem dX2_isEvenWithin_8 : decode cX2_isEvenWithin 8 = .ok (.i2l, 1) := by decide +kernel
theorem dX2_isEvenWithin_9 : decode cX2_isEvenWithin 9 = .ok (.lmul, 1) := by decide +kernel
theorem dX2_isEvenWithin_10 : decode cX2_isEvenWithin 10 = .ok (.iload_n 1, 1) := by decide +kernel
theorem dX2_isEvenWithin_11 : decode cX2_isEvenWithin 11 = .ok (.i2l, 1) := by decide +kernel
theorem dX2_isEvenWithin_12 : decode cX2_isEvenWithin 12 = .ok (.lmul, 1) := by decide +kernel
theorem dX2_isEvenWithin_13 : decode cX2_isEvenWithin 13 = .ok (.lsub, 1) := by decide +kernel
theorem dX2_isEvenWithin_14 : decode cX2_isEvenWithin 14 = .ok (.aload_n 0, 1) := by decide +kernel
theorem dX2_isEvenWithin_15 : decode cX2_isEvenWithin 15 = .ok (.invokevirtual 47, 3) := by decide +kernel
theorem dX2_isEvenWithin_18 : decode cX2_isEvenWithin 18 = .ok (.invokestatic 50, 3) := by decide +kernel
theorem dX2_isEvenWithin_21 : decode cX2_isEvenWithin 21 = .ok (.ifCond .ne 7, 3) := by decide +kernel
theorem dX2_isEvenWithin_24 : decode cX2_isEvenWithin 24 = .ok (.iconst 1, 1) := by decide +kernel
theorem dX2_isEvenWithin_25 : decode cX2_isEvenWithin 25 = .ok (.goto 4, 3) := by decide +kernel
theorem dX2_isEvenWithin_28 : decode cX2_isEvenWithin 28 = .ok (.iconst 0, 1) := by decide +kernel
theorem dX2_isEvenWithin_29 : decode cX2_isEvenWithin 29 = .ok (.ireturn, 1) := by decide +kernel
theorem dX2_isWorseThan_0 : decode cX2_isWorseThan 0 = .ok (.aload_n 0, 1) := by decide +kernel
theorem dX2_isWorseThan_1 : decode cX2_isWorseThan 1 = .ok (.invokevirtual 41, 3) := by decide +kernel
theorem dX2_isWorseThan_4 : decode cX2_isWorseThan 4 = .ok (.aload_n 1, 1) := by decide +kernel
theorem dX2_isWorseThan_5 : decode cX2_isWorseThan 5 = .ok (.invokevirtual 41, 3) := by decide +kernel
theorem dX2_isWorseThan_8 : decode cX2_isWorseThan 8 = .ok (.lsub, 1) := by decide +kernel
theorem dX2_isWorseThan_9 : decode cX2_isWorseThan 9 = .ok (.aload_n 0, 1) := by decide +kernel
theorem dX2_isWorseThan_10 : decode cX2_isWorseThan 10 = .ok (.invokevirtual 47, 3) := by decide +kernel
theorem dX2_isWorseThan_13 : decode cX2_isWorseThan 13 = .ok (.aload_n 1, 1) := by decide +kernel
theorem dX2_isWorseThan_14 : decode cX2_isWorseThan 14 = .ok (.invokevirtual 47, 3) := by decide +kernel
theorem dX2_isWorseThan_17 : decode cX2_isWorseThan 17 = .ok (.lsub, 1) := by decide +kernel
theorem dX2_isWorseThan_18 : decode cX2_isWorseThan 18 = .ok (.invokestatic 50, 3) := by decide +kernel
theorem dX2_isWorseThan_21 : decode cX2_isWorseThan 21 = .ok (.ireturn, 1) := by decide +kernel
theorem dX2_isAboveZero_0 : decode cX2_isAboveZero 0 = .ok (.lload_n 0, 1) := by decide +kernel
theorem dX2_isAboveZero_1 : decode cX2_isAboveZero 1 = .ok (.lconst 0, 1) := by decide +kernel
theorem dX2_isAboveZero_2 : decode cX2_isAboveZero 2 = .ok (.lcmp, 1) := by decide +kernel
theorem dX2_isAboveZero_3 : decode cX2_isAboveZero 3 = .ok (.ifCond .lt 27, 3) := by decide +kernel
theorem dX2_isAboveZero_6 : decode cX2_isAboveZero 6 = .ok (.lload_n 2, 1) := by decide +kernel
theorem dX2_isAboveZero_7 : decode cX2_isAboveZero 7 = .ok (.lconst 0, 1) := by decide +kernel
theorem dX2_isAboveZero_8 : decode cX2_isAboveZero 8 = .ok (.lcmp, 1) := by decide +kernel
theorem dX2_isAboveZero_9 : decode cX2_isAboveZero 9 = .ok (.ifCond .lt 21, 3) := by decide +kernel
theorem dX2_isAboveZero_12 : decode cX2_isAboveZero 12 = .ok (.lload_n 0, 1) := by decide +kernel
theorem dX2_isAboveZero_13 : decode cX2_isAboveZero 13 = .ok (.lconst 0, 1) := by decide +kernel
theorem dX2_isAboveZero_14 : decode cX2_isAboveZero 14 = .ok (.lcmp, 1) := by decide +kernel
theorem dX2_isAboveZero_15 : decode cX2_isAboveZero 15 = .ok (.ifCond .gt 9, 3) := by decide +kernel
theorem dX2_isAboveZero_18 : decode cX2_isAboveZero 18 = .ok (.lload_n 2, 1) := by decide +kernel
theorem dX2_isAboveZero_19 : decode cX2_isAboveZero 19 = .ok (.lconst 0, 1) := by decide +kernel
theorem dX2_isAboveZero_20 : decode cX2_isAboveZero 20 = .ok (.lcmp, 1) := by decide +kernel
theorem dX2_isAboveZero_21 : decode cX2_isAboveZero 21 = .ok (.ifCond .le 7, 3) := by decide +kernel
theorem dX2_isAboveZero_24 : decode cX2_isAboveZero 24 = .ok (.iconst 1, 1) := by decide +kernel
theorem dX2_isAboveZero_25 : decode cX2_isAboveZero 25 = .ok (.goto 4, 3) := by decide +kernel
theorem dX2_isAboveZero_28 : decode cX2_isAboveZero 28 = .ok (.iconst 0, 1) := by decide +kernel
theorem dX2_isAboveZero_29 : decode cX2_isAboveZero 29 = .ok (.ireturn, 1) := by decide +kernel
theorem dX2_isAboveZero_30 : decode cX2_isAboveZero 30 = .ok (.lload_n 0, 1) := by decide +kernel
theorem dX2_isAboveZero_31 : decode cX2_isAboveZero 31 = .ok (.lconst 0, 1) := by decide +kernel
theorem dX2_isAboveZero_32 : decode cX2_isAboveZero 32 = .ok (.lcmp, 1) := by decide +kernel
theorem dX2_isAboveZero_33 : decode cX2_isAboveZero 33 = .ok (.ifCond .gt 11, 3) := by decide +kernel
theorem dX2_isAboveZero_36 : decode cX2_isAboveZero 36 = .ok (.lload_n 2, 1) := by decide +kernel
theorem dX2_isAboveZero_37 : decode cX2_isAboveZero 37 = .ok (.lconst 0, 1) := by decide +kernel
theorem dX2_isAboveZero_38 : decode cX2_isAboveZero 38 = .ok (.lcmp, 1) := by decide +kernel
theorem dX2_isAboveZero_39 : decode cX2_isAboveZero 39 = .ok (.ifCond .gt 5, 3) := by decide +kernel
theorem dX2_isAboveZero_42 : decode cX2_isAboveZero 42 = .ok (.iconst 0, 1) := by decide +kernel
theorem dX2_isAboveZero_43 : decode cX2_isAboveZero 43 = .ok (.ireturn, 1) := by decide +kernel
theorem dX2_isAboveZero_44 : decode cX2_isAboveZero 44 = .ok (.lload_n 0, 1) := by decide +kernel
theorem dX2_isAboveZero_45 : decode cX2_isAboveZero 45 = .ok (.lconst 0, 1) := by decide +kernel
theorem dX2_isAboveZero_46 : decode cX2_isAboveZero 46 = .ok (.lcmp, 1) := by decide +kernel
theorem dX2_isAboveZero_47 : decode cX2_isAboveZero 47 = .ok (.ifCond .le 25, 3) := by decide +kernel
theorem dX2_isAboveZero_50 : decode cX2_isAboveZero 50 = .ok (.lload_n 0, 1) := by decide +kernel
theorem dX2_isAboveZero_51 : decode cX2_isAboveZero 51 = .ok (.lload_n 0, 1) := by decide +kernel
theorem dX2_isAboveZero_52 : decode cX2_isAboveZero 52 = .ok (.lmul, 1) := by decide +kernel
theorem dX2_isAboveZero_53 : decode cX2_isAboveZero 53 = .ok (.ldc2_w 37, 3) := by decide +kernel
theorem dX2_isAboveZero_56 : decode cX2_isAboveZero 56 = .ok (.lload_n 2, 1) := by decide +kernel
theorem dX2_isAboveZero_57 : decode cX2_isAboveZero 57 = .ok (.lmul, 1) := by decide +kernel
theorem dX2_isAboveZero_58 : decode cX2_isAboveZero 58 = .ok (.lload_n 2, 1) := by decide +kernel
theorem dX2_isAboveZero_59 : decode cX2_isAboveZero 59 = .ok (.lmul, 1) := by decide +kernel
theorem dX2_isAboveZero_60 : decode cX2_isAboveZero 60 = .ok (.lcmp, 1) := by decide +kernel
theorem dX2_isAboveZero_61 : decode cX2_isAboveZero 61 = .ok (.ifCond .le 7, 3) := by decide +kernel
theorem dX2_isAboveZero_64 : decode cX2_isAboveZero 64 = .ok (.iconst 1, 1) := by decide +kernel
theorem dX2_isAboveZero_65 : decode cX2_isAboveZero 65 = .ok (.goto 26, 3) := by decide +kernel
theorem dX2_isAboveZero_68 : decode cX2_isAboveZero 68 = .ok (.iconst 0, 1) := by decide +kernel
theorem dX2_isAboveZero_69 : decode cX2_isAboveZero 69 = .ok (.goto 22, 3) := by decide +kernel
theorem dX2_isAboveZero_72 : decode cX2_isAboveZero 72 = .ok (.ldc2_w 37, 3) := by decide +kernel
theorem dX2_isAboveZero_75 : decode cX2_isAboveZero 75 = .ok (.lload_n 2, 1) := by decide +kernel
theorem dX2_isAboveZero_76 : decode cX2_isAboveZero 76 = .ok (.lmul, 1) := by decide +kernel
theorem dX2_isAboveZero_77 : decode cX2_isAboveZero 77 = .ok (.lload_n 2, 1) := by decide +kernel
theorem dX2_isAboveZero_78 : decode cX2_isAboveZero 78 = .ok (.lmul, 1) := by decide +kernel
theorem dX2_isAboveZero_79 : decode cX2_isAboveZero 79 = .ok (.lload_n 0, 1) := by decide +kernel
theorem dX2_isAboveZero_80 : decode cX2_isAboveZero 80 = .ok (.lload_n 0, 1) := by decide +kernel
theorem dX2_isAboveZero_81 : decode cX2_isAboveZero 81 = .ok (.lmul, 1) := by decide +kernel
theorem dX2_isAboveZero_82 : decode cX2_isAboveZero 82 = .ok (.lcmp, 1) := by decide +kernel
theorem dX2_isAboveZero_83 : decode cX2_isAboveZero 83 = .ok (.ifCond .le 7, 3) := by decide +kernel
theorem dX2_isAboveZero_86 : decode cX2_isAboveZero 86 = .ok (.iconst 1, 1) := by decide +kernel
theorem dX2_isAboveZero_87 : decode cX2_isAboveZero 87 = .ok (.goto 4, 3) := by decide +kernel
theorem dX2_isAboveZero_90 : decode cX2_isAboveZero 90 = .ok (.iconst 0, 1) := by decide +kernel
theorem dX2_isAboveZero_91 : decode cX2_isAboveZero 91 = .ok (.ireturn, 1) := by decide +kernel
theorem dX3_init_0 : decode cX3_init 0 = .ok (.aload_n 0, 1) := by decide +kernel
theorem dX3_init_1 : decode cX3_init 1 = .ok (.invokespecial 3, 3) := by decide +kernel
theorem dX3_init_4 : decode cX3_init 4 = .ok (.aload_n 0, 1) := by decide +kernel
theorem dX3_init_5 : decode cX3_init 5 = .ok (.bipush 24, 2) := by decide +kernel
theorem dX3_init_7 : decode cX3_init 7 = .ok (.newarray .int, 2) := by decide +kernel
theorem dX3_init_9 : decode cX3_init 9 = .ok (.putfield 9, 3) := by decide +kernel
theorem dX3_init_12 : decode cX3_init 12 = .ok (.aload_n 0, 1) := by decide +kernel
theorem dX3_init_13 : decode cX3_init 13 = .ok (.iconst 0, 1) := by decide +kernel
theorem dX3_init_14 : decode cX3_init 14 = .ok (.putfield 15, 3) := by decide +kernel
theorem dX3_init_17 : decode cX3_init 17 = .ok (.aload_n 0, 1) := by decide +kernel
theorem dX3_init_18 : decode cX3_init 18 = .ok (.iconst 0, 1) := by decide +kernel
theorem dX3_init_19 : decode cX3_init 19 = .ok (.putfield 19, 3) := by decide +kernel
theorem dX3_init_22 : decode cX3_init 22 = .ok (.aload_n 0, 1) := by decide +kernel
theorem dX3_init_23 : decode cX3_init 23 = .ok (.iconst 0, 1) := by decide +kernel
theorem dX3_init_24 : decode cX3_init 24 = .ok (.putfield 23, 3) := by decide +kernel
theorem dX3_init_27 : decode cX3_init 27 = .ok (.return_, 1) := by decide +kernel
theorem dX3_renew_0 : decode cX3_renew 0 = .ok (.iconst 0, 1) := by decide +kernel
theorem dX3_renew_1 : decode cX3_renew 1 = .ok (.istore_n 3, 1) := by decide +kernel
theorem dX3_renew_2 : decode cX3_renew 2 = .ok (.iload_n 3, 1) := by decide +kernel
theorem dX3_renew_3 : decode cX3_renew 3 = .ok (.bipush 24, 2) := by decide +kernel
theorem dX3_renew_5 : decode cX3_renew 5 = .ok (.if_icmp .ge 16, 3) := by decide +kernel
theorem dX3_renew_8 : decode cX3_renew 8 = .ok (.aload_n 0, 1) := by decide +kernel
theorem dX3_renew_9 : decode cX3_renew 9 = .ok (.getfield 9, 3) := by decide +kernel
theorem dX3_renew_12 : decode cX3_renew 12 = .ok (.iload_n 3, 1) := by decide +kernel
theorem dX3_renew_13 : decode cX3_renew 13 = .ok (.iconst 0, 1) := by decide +kernel
theorem dX3_renew_14 : decode cX3_renew 14 = .ok (.iastore, 1) := by decide +kernel
theorem dX3_renew_15 : decode cX3_renew 15 = .ok (.iinc 3 1, 3) := by decide +kernel
theorem dX3_renew_18 : decode cX3_renew 18 = .ok (.goto (-16), 3) := by decide +kernel
theorem dX3_renew_21 : decode cX3_renew 21 = .ok (.aload_n 0, 1) := by decide +kernel
theorem dX3_renew_22 : decode cX3_renew 22 = .ok (.iconst 1, 1) := by decide +kernel
theorem dX3_renew_23 : decode cX3_renew 23 = .ok (.putfield 15, 3) := by decide +kernel
theorem dX3_renew_26 : decode cX3_renew 26 = .ok (.aload_n 0, 1) := by decide +kernel
theorem dX3_renew_27 : decode cX3_renew 27 = .ok (.iload_n 1, 1) := by decide +kernel
theorem dX3_renew_28 : decode cX3_renew 28 = .ok (.putfield 19, 3) := by decide +kernel
theorem dX3_renew_31 : decode cX3_renew 31 = .ok (.aload_n 0, 1) := by decide +kernel
theorem dX3_renew_32 : decode cX3_renew 32 = .ok (.iload_n 2, 1) := by decide +kernel
theorem dX3_renew_33 : decode cX3_renew 33 = .ok (.putfield 23, 3) := by decide +kernel
theorem dX3_renew_36 : decode cX3_renew 36 = .ok (.return_, 1) := by decide +kernel
theorem dX3_hasPart_0 : decode cX3_hasPart 0 = .ok (.iload_n 1, 1) := by decide +kernel
theorem dX3_hasPart_1 : decode cX3_hasPart 1 = .ok (.ifCond .lt 29, 3) := by decide +kernel
theorem dX3_hasPart_4 : decode cX3_hasPart 4 = .ok (.iload_n 2, 1) := by decide +kernel
theorem dX3_hasPart_5 : decode cX3_hasPart 5 = .ok (.ifCond .lt 25, 3) := by decide +kernel
theorem dX3_hasPart_8 : decode cX3_hasPart 8 = .ok (.iload_n 1, 1) := by decide +kernel
theorem dX3_hasPart_9 : decode cX3_hasPart 9 = .ok (.aload_n 0, 1) := by decide +kernel
theorem dX3_hasPart_10 : decode cX3_hasPart 10 = .ok (.getfield 23, 3) := by decide +kernel
theorem dX3_hasPart_13 : decode cX3_hasPart 13 = .ok (.if_icmp .gt 17, 3) := by decide +kernel
theorem dX3_hasPart_16 : decode cX3_hasPart 16 = .ok (.iload_n 2, 1) := by decide +kernel
theorem dX3_hasPart_17 : decode cX3_hasPart 17 = .ok (.aload_n 0, 1) := by decide +kernel
theorem dX3_hasPart_18 : decode cX3_hasPart 18 = .ok (.getfield 23, 3) := by decide +kernel
theorem dX3_hasPart_21 : decode cX3_hasPart 21 = .ok (.iload_n 1, 1) := by decide +kernel
theorem dX3_hasPart_22 : decode cX3_hasPart 22 = .ok (.isub, 1) := by decide +kernel
theorem dX3_hasPart_23 : decode cX3_hasPart 23 = .ok (.if_icmp .gt 7, 3) := by decide +kernel
theorem dX3_hasPart_26 : decode cX3_hasPart 26 = .ok (.iconst 1, 1) := by decide +kernel
theorem dX3_hasPart_27 : decode cX3_hasPart 27 = .ok (.goto 4, 3) := by decide +kernel
theorem dX3_hasPart_30 : decode cX3_hasPart 30 = .ok (.iconst 0, 1) := by decide +kernel
theorem dX3_hasPart_31 : decode cX3_hasPart 31 = .ok (.ireturn, 1) := by decide +kernel
theorem dX3_write_0 : decode cX3_write 0 = .ok (.iload_n 1, 1) := by decide +kernel
theorem dX3_write_1 : decode cX3_write 1 = .ok (.ifCond .lt 11, 3) := by decide +kernel
theorem dX3_write_4 : decode cX3_write 4 = .ok (.iload_n 1, 1) := by decide +kernel
theorem dX3_write_5 : decode cX3_write 5 = .ok (.aload_n 0, 1) := by decide +kernel
theorem dX3_write_6 : decode cX3_write 6 = .ok (.getfield 23, 3) := by decide +kernel
theorem dX3_write_9 : decode cX3_write 9 = .ok (.if_icmp .lt 4, 3) := by decide +kernel
theorem dX3_write_12 : decode cX3_write 12 = .ok (.return_, 1) := by decide +kernel
theorem dX3_write_13 : decode cX3_write 13 = .ok (.aload_n 0, 1) := by decide +kernel
theorem dX3_write_14 : decode cX3_write 14 = .ok (.getfield 19, 3) := by decide +kernel
theorem dX3_write_17 : decode cX3_write 17 = .ok (.ifCond .ne 14, 3) := by decide +kernel
theorem dX3_write_20 : decode cX3_write 20 = .ok (.aload_n 0, 1) := by decide +kernel
theorem dX3_write_21 : decode cX3_write 21 = .ok (.getfield 9, 3) := by decide +kernel
theorem dX3_write_24 : decode cX3_write 24 = .ok (.iload_n 1, 1) := by decide +kernel
theorem dX3_write_25 : decode cX3_write 25 = .ok (.iload_n 2, 1) := by decide +kernel
theorem dX3_write_26 : decode cX3_write 26 = .ok (.i2b, 1) := by decide +kernel
theorem dX3_write_27 : decode cX3_write 27 = .ok (.iastore, 1) := by decide +kernel
theorem dX3_write_28 : decode cX3_write 28 = .ok (.goto 29, 3) := by decide +kernel
theorem dX3_write_31 : decode cX3_write 31 = .ok (.aload_n 0, 1) := by decide +kernel
theorem dX3_write_32 : decode cX3_write 32 = .ok (.getfield 19, 3) := by decide +kernel
theorem dX3_write_35 : decode cX3_write 35 = .ok (.iconst 1, 1) := by decide +kernel
theorem dX3_write_36 : decode cX3_write 36 = .ok (.if_icmp .ne 14, 3) := by decide +kernel
theorem dX3_write_39 : decode cX3_write 39 = .ok (.aload_n 0, 1) := by decide +kernel
theorem dX3_write_40 : decode cX3_write 40 = .ok (.getfield 9, 3) := by decide +kernel
theorem dX3_write_43 : decode cX3_write 43 = .ok (.iload_n 1, 1) := by decide +kernel
theorem dX3_write_44 : decode cX3_write 44 = .ok (.iload_n 2, 1) := by decide +kernel
theorem dX3_write_45 : decode cX3_write 45 = .ok (.i2s, 1) := by decide +kernel
theorem dX3_write_46 : decode cX3_write 46 = .ok (.iastore, 1) := by decide +kernel
theorem dX3_write_47 : decode cX3_write 47 = .ok (.goto 10, 3) := by decide +kernel
theorem dX3_write_50 : decode cX3_write 50 = .ok (.aload_n 0, 1) := by decide +kernel
theorem dX3_write_51 : decode cX3_write 51 = .ok (.getfield 9, 3) := by decide +kernel
theorem dX3_write_54 : decode cX3_write 54 = .ok (.iload_n 1, 1) := by decide +kernel
theorem dX3_write_55 : decode cX3_write 55 = .ok (.iload_n 2, 1) := by decide +kernel
theorem dX3_write_56 : decode cX3_write 56 = .ok (.iastore, 1) := by decide +kernel
theorem dX3_write_57 : decode cX3_write 57 = .ok (.return_, 1) := by decide +kernel
theorem dX4_init_0 : decode cX4_init 0 = .ok (.aload_n 0, 1) := by decide +kernel
theorem dX4_init_1 : decode cX4_init 1 = .ok (.invokespecial 3, 3) := by decide +kernel
theorem dX4_init_4 : decode cX4_init 4 = .ok (.aload_n 0, 1) := by decide +kernel
theorem dX4_init_5 : decode cX4_init 5 = .ok (.new 9, 3) := by decide +kernel
theorem dX4_init_8 : decode cX4_init 8 = .ok (.dup, 1) := by decide +kernel
theorem dX4_init_9 : decode cX4_init 9 = .ok (.invokespecial 11, 3) := by decide +kernel
theorem dX4_init_12 : decode cX4_init 12 = .ok (.putfield 12, 3) := by decide +kernel
theorem dX4_init_15 : decode cX4_init 15 = .ok (.aload_n 0, 1) := by decide +kernel
theorem dX4_init_16 : decode cX4_init 16 = .ok (.new 9, 3) := by decide +kernel
theorem dX4_init_19 : decode cX4_init 19 = .ok (.dup, 1) := by decide +kernel
theorem dX4_init_20 : decode cX4_init 20 = .ok (.invokespecial 11, 3) := by decide +kernel
theorem dX4_init_23 : decode cX4_init 23 = .ok (.putfield 18, 3) := by decide +kernel
theorem dX4_init_26 : decode cX4_init 26 = .ok (.aload_n 0, 1) := by decide +kernel
theorem dX4_init_27 : decode cX4_init 27 = .ok (.bipush 10, 2) := by decide +kernel
theorem dX4_init_29 : decode cX4_init 29 = .ok (.newarray .int, 2) := by decide +kernel
theorem dX4_init_31 : decode cX4_init 31 = .ok (.putfield 21, 3) := by decide +kernel
theorem dX4_init_34 : decode cX4_init 34 = .ok (.aload_n 0, 1) := by decide +kernel
theorem dX4_init_35 : decode cX4_init 35 = .ok (.new 9, 3) := by decide +kernel
theorem dX4_init_38 : decode cX4_init 38 = .ok (.dup, 1) := by decide +kernel
theorem dX4_init_39 : decode cX4_init 39 = .ok (.invokespecial 11, 3) := by decide +kernel
theorem dX4_init_42 : decode cX4_init 42 = .ok (.putfield 25, 3) := by decide +kernel
theorem dX4_init_45 : decode cX4_init 45 = .ok (.aload_n 0, 1) := by decide +kernel
theorem dX4_init_46 : decode cX4_init 46 = .ok (.aload_n 1, 1) := by decide +kernel
theorem dX4_init_47 : decode cX4_init 47 = .ok (.putfield 28, 3) := by decide +kernel
theorem dX4_init_50 : decode cX4_init 50 = .ok (.return_, 1) := by decide +kernel
theorem dX4_findWorst_0 : decode cX4_findWorst 0 = .ok (.aload_n 0, 1) := by decide +kernel
theorem dX4_findWorst_1 : decode cX4_findWorst 1 = .ok (.invokevirtual 32, 3) := by decide +kernel
theorem dX4_findWorst_4 : decode cX4_findWorst 4 = .ok (.istore_n 2, 1) := by decide +kernel
theorem dX4_findWorst_5 : decode cX4_findWorst 5 = .ok (.aload_n 0, 1) := by decide +kernel
theorem dX4_findWorst_6 : decode cX4_findWorst 6 = .ok (.getfield 28, 3) := by decide +kernel
theorem dX4_findWorst_9 : decode cX4_findWorst 9 = .ok (.aload_n 0, 1) := by decide +kernel
theorem dX4_findWorst_10 : decode cX4_findWorst 10 = .ok (.getfield 25, 3) := by decide +kernel
theorem dX4_findWorst_13 : decode cX4_findWorst 13 = .ok (.invokevirtual 36, 3) := by decide +kernel
theorem dX4_findWorst_16 : decode cX4_findWorst 16 = .ok (.aload_n 0, 1) := by decide +kernel
theorem dX4_findWorst_17 : decode cX4_findWorst 17 = .ok (.getfield 28, 3) := by decide +kernel
theorem dX4_findWorst_20 : decode cX4_findWorst 20 = .ok (.aload_n 0, 1) := by decide +kernel
theorem dX4_findWorst_21 : decode cX4_findWorst 21 = .ok (.getfield 12, 3) := by decide +kernel
theorem dX4_findWorst_24 : decode cX4_findWorst 24 = .ok (.invokevirtual 42, 3) := by decide +kernel
theorem dX4_findWorst_27 : decode cX4_findWorst 27 = .ok (.iconst 0, 1) := by decide +kernel
theorem dX4_findWorst_28 : decode cX4_findWorst 28 = .ok (.istore_n 3, 1) := by decide +kernel
theorem dX4_findWorst_29 : decode cX4_findWorst 29 = .ok (.iload_n 3, 1) := by decide +kernel
theorem dX4_findWorst_30 : decode cX4_findWorst 30 = .ok (.iconst 1, 1) := by decide +kernel
theorem dX4_findWorst_31 : decode cX4_findWorst 31 = .ok (.iload_n 2, 1) := by decide +kernel
theorem dX4_findWorst_32 : decode cX4_findWorst 32 = .ok (.ishl, 1) := by decide +kernel
theorem dX4_findWorst_33 : decode cX4_findWorst 33 = .ok (.if_icmp .ge 127, 3) := by decide +kernel
theorem dX4_findWorst_36 : decode cX4_findWorst 36 = .ok (.aload_n 0, 1) := by decide +kernel
theorem dX4_findWorst_37 : decode cX4_findWorst 37 = .ok (.getfield 18, 3) := by decide +kernel
theorem dX4_findWorst_40 : decode cX4_findWorst 40 = .ok (.aload_n 0, 1) := by decide +kernel
theorem dX4_findWorst_41 : decode cX4_findWorst 41 = .ok (.getfield 12, 3) := by decide +kernel
theorem dX4_findWorst_44 : decode cX4_findWorst 44 = .ok (.invokevirtual 45, 3) := by decide +kernel
theorem dX4_findWorst_47 : decode cX4_findWorst 47 = .ok (.iconst 0, 1) := by decide +kernel
theorem dX4_findWorst_48 : decode cX4_findWorst 48 = .ok (.istore 4, 2) := by decide +kernel
theorem dX4_findWorst_50 : decode cX4_findWorst 50 = .ok (.iload 4, 2) := by decide +kernel
theorem dX4_findWorst_52 : decode cX4_findWorst 52 = .ok (.iload_n 2, 1) := by decide +kernel
theorem dX4_findWorst_53 : decode cX4_findWorst 53 = .ok (.if_icmp .ge 76, 3) := by decide +kernel
theorem dX4_findWorst_56 : decode cX4_findWorst 56 = .ok (.aload_n 0, 1) := by decide +kernel
theorem dX4_findWorst_57 : decode cX4_findWorst 57 = .ok (.getfield 28, 3) := by decide +kernel
theorem dX4_findWorst_60 : decode cX4_findWorst 60 = .ok (.getfield 48, 3) := by decide +kernel
theorem dX4_findWorst_63 : decode cX4_findWorst 63 = .ok (.aload_n 0, 1) := by decide +kernel
theorem dX4_findWorst_64 : decode cX4_findWorst 64 = .ok (.getfield 21, 3) := by decide +kernel
theorem dX4_findWorst_67 : decode cX4_findWorst 67 = .ok (.iload 4, 2) := by decide +kernel
theorem dX4_findWorst_69 : decode cX4_findWorst 69 = .ok (.iaload, 1) := by decide +kernel
theorem dX4_findWorst_70 : decode cX4_findWorst 70 = .ok (.iaload, 1) := by decide +kernel
theorem dX4_findWorst_71 : decode cX4_findWorst 71 = .ok (.istore 5, 2) := by decide +kernel
theorem dX4_findWorst_73 : decode cX4_findWorst 73 = .ok (.iload_n 3, 1) := by decide +kernel
theorem dX4_findWorst_74 : decode cX4_findWorst 74 = .ok (.iload 4, 2) := by decide +kernel
theorem dX4_findWorst_76 : decode cX4_findWorst 76 = .ok (.ishr, 1) := by decide +kernel
theorem dX4_findWorst_77 : decode cX4_findWorst 77 = .ok (.iconst 1, 1) := by decide +kernel
theorem dX4_findWorst_78 : decode cX4_findWorst 78 = .ok (.iand, 1) := by decide +kernel
theorem dX4_findWorst_79 : decode cX4_findWorst 79 = .ok (.ifCond .eq 10, 3) := by decide +kernel
theorem dX4_findWorst_82 : decode cX4_findWorst 82 = .ok (.iload 5, 2) := by decide +kernel
theorem dX4_findWorst_84 : decode cX4_findWorst 84 = .ok (.iload_n 1, 1) := by decide +kernel
theorem dX4_findWorst_85 : decode cX4_findWorst 85 = .ok (.iadd, 1) := by decide +kernel
theorem dX4_findWorst_86 : decode cX4_findWorst 86 = .ok (.goto 11, 3) := by decide +kernel
theorem dX4_findWorst_89 : decode cX4_findWorst 89 = .ok (.iconst 0, 1) := by decide +kernel
theorem dX4_findWorst_90 : decode cX4_findWorst 90 = .ok (.iload 5, 2) := by decide +kernel
theorem dX4_findWorst_92 : decode cX4_findWorst 92 = .ok (.iload_n 1, 1) := by decide +kernel
theorem dX4_findWorst_93 : decode cX4_findWorst 93 = .ok (.isub, 1) := by decide +kernel
theorem dX4_findWorst_94 : decode cX4_findWorst 94 = .ok (.invokestatic 51, 3) := by decide +kernel
theorem dX4_findWorst_97 : decode cX4_findWorst 97 = .ok (.istore 6, 2) := by decide +kernel
theorem dX4_findWorst_99 : decode cX4_findWorst 99 = .ok (.aload_n 0, 1) := by decide +kernel
theorem dX4_findWorst_100 : decode cX4_findWorst 100 = .ok (.getfield 18, 3) := by decide +kernel
theorem dX4_findWorst_103 : decode cX4_findWorst 103 = .ok (.aload_n 0, 1) := by decide +kernel
theorem dX4_findWorst_104 : decode cX4_findWorst 104 = .ok (.getfield 28, 3) := by decide +kernel
theorem dX4_findWorst_107 : decode cX4_findWorst 107 = .ok (.getfield 57, 3) := by decide +kernel
theorem dX4_findWorst_110 : decode cX4_findWorst 110 = .ok (.aload_n 0, 1) := by decide +kernel
theorem dX4_findWorst_111 : decode cX4_findWorst 111 = .ok (.getfield 21, 3) := by decide +kernel
theorem dX4_findWorst_114 : decode cX4_findWorst 114 = .ok (.iload 4, 2) := by decide +kernel
theorem dX4_findWorst_116 : decode cX4_findWorst 116 = .ok (.iaload, 1) := by decide +kernel
theorem dX4_findWorst_117 : decode cX4_findWorst 117 = .ok (.iaload, 1) := by decide +kernel
theorem dX4_findWorst_118 : decode cX4_findWorst 118 = .ok (.iload 6, 2) := by decide +kernel
theorem dX4_findWorst_120 : decode cX4_findWorst 120 = .ok (.invokevirtual 60, 3) := by decide +kernel
theorem dX4_findWorst_123 : decode cX4_findWorst 123 = .ok (.iinc 4 1, 3) := by decide +kernel
theorem dX4_findWorst_126 : decode cX4_findWorst 126 = .ok (.goto (-76), 3) := by decide +kernel
theorem dX4_findWorst_129 : decode cX4_findWorst 129 = .ok (.aload_n 0, 1) := by decide +kernel
theorem dX4_findWorst_130 : decode cX4_findWorst 130 = .ok (.getfield 18, 3) := by decide +kernel
theorem dX4_findWorst_133 : decode cX4_findWorst 133 = .ok (.aload_n 0, 1) := by decide +kernel
theorem dX4_findWorst_134 : decode cX4_findWorst 134 = .ok (.getfield 25, 3) := by decide +kernel
theorem dX4_findWorst_137 : decode cX4_findWorst 137 = .ok (.invokevirtual 64, 3) := by decide +kernel
theorem dX4_findWorst_140 : decode cX4_findWorst 140 = .ok (.ifCond .eq 14, 3) := by decide +kernel
theorem dX4_findWorst_143 : decode cX4_findWorst 143 = .ok (.aload_n 0, 1) := by decide +kernel
theorem dX4_findWorst_144 : decode cX4_findWorst 144 = .ok (.getfield 25, 3) := by decide +kernel
theorem dX4_findWorst_147 : decode cX4_findWorst 147 = .ok (.aload_n 0, 1) := by decide +kernel
theorem dX4_findWorst_148 : decode cX4_findWorst 148 = .ok (.getfield 18, 3) := by decide +kernel
theorem dX4_findWorst_151 : decode cX4_findWorst 151 = .ok (.invokevirtual 45, 3) := by decide +kernel
theorem dX4_findWorst_154 : decode cX4_findWorst 154 = .ok (.iinc 3 1, 3) := by decide +kernel
theorem dX4_findWorst_157 : decode cX4_findWorst 157 = .ok (.goto (-128), 3) := by decide +kernel
theorem dX4_findWorst_160 : decode cX4_findWorst 160 = .ok (.return_, 1) := by decide +kernel
theorem dX4_listRiders_0 : decode cX4_listRiders 0 = .ok (.aload_n 0, 1) := by decide +kernel
theorem dX4_listRiders_1 : decode cX4_listRiders 1 = .ok (.getfield 28, 3) := by decide +kernel
theorem dX4_listRiders_4 : decode cX4_listRiders 4 = .ok (.invokevirtual 68, 3) := by decide +kernel
theorem dX4_listRiders_7 : decode cX4_listRiders 7 = .ok (.istore_n 1, 1) := by decide +kernel
theorem dX4_listRiders_8 : decode cX4_listRiders 8 = .ok (.iconst 0, 1) := by decide +kernel
theorem dX4_listRiders_9 : decode cX4_listRiders 9 = .ok (.istore_n 2, 1) := by decide +kernel
theorem dX4_listRiders_10 : decode cX4_listRiders 10 = .ok (.iconst 0, 1) := by decide +kernel
theorem dX4_listRiders_11 : decode cX4_listRiders 11 = .ok (.istore_n 3, 1) := by decide +kernel
theorem dX4_listRiders_12 : decode cX4_listRiders 12 = .ok (.iload_n 3, 1) := by decide +kernel
theorem dX4_listRiders_13 : decode cX4_listRiders 13 = .ok (.bipush 10, 2) := by decide +kernel
theorem dX4_listRiders_15 : decode cX4_listRiders 15 = .ok (.if_icmp .ge 27, 3) := by decide +kernel
theorem dX4_listRiders_18 : decode cX4_listRiders 18 = .ok (.iload_n 1, 1) := by decide +kernel
theorem dX4_listRiders_19 : decode cX4_listRiders 19 = .ok (.iload_n 3, 1) := by decide +kernel
theorem dX4_listRiders_20 : decode cX4_listRiders 20 = .ok (.ishr, 1) := by decide +kernel
theorem dX4_listRiders_21 : decode cX4_listRiders 21 = .ok (.iconst 1, 1) := by decide +kernel
theorem dX4_listRiders_22 : decode cX4_listRiders 22 = .ok (.iand, 1) := by decide +kernel
theorem dX4_listRiders_23 : decode cX4_listRiders 23 = .ok (.ifCond .eq 13, 3) := by decide +kernel
theorem dX4_listRiders_26 : decode cX4_listRiders 26 = .ok (.aload_n 0, 1) := by decide +kernel
theorem dX4_listRiders_27 : decode cX4_listRiders 27 = .ok (.getfield 21, 3) := by decide +kernel
theorem dX4_listRiders_30 : decode cX4_listRiders 30 = .ok (.iload_n 2, 1) := by decide +kernel
theorem dX4_listRiders_31 : decode cX4_listRiders 31 = .ok (.iload_n 3, 1) := by decide +kernel
theorem dX4_listRiders_32 : decode cX4_listRiders 32 = .ok (.iastore, 1) := by decide +kernel
theorem dX4_listRiders_33 : decode cX4_listRiders 33 = .ok (.iinc 2 1, 3) := by decide +kernel
theorem dX4_listRiders_36 : decode cX4_listRiders 36 = .ok (.iinc 3 1, 3) := by decide +kernel
theorem dX4_listRiders_39 : decode cX4_listRiders 39 = .ok (.goto (-27), 3) := by decide +kernel
theorem dX4_listRiders_42 : decode cX4_listRiders 42 = .ok (.iload_n 2, 1) := by decide +kernel
theorem dX4_listRiders_43 : decode cX4_listRiders 43 = .ok (.ireturn, 1) := by decide +kernel
theorem dX5_init_0 : decode cX5_init 0 = .ok (.aload_n 0, 1) := by decide +kernel
theorem dX5_init_1 : decode cX5_init 1 = .ok (.invokespecial 3, 3) := by decide +kernel
theorem dX5_init_4 : decode cX5_init 4 = .ok (.aload_n 0, 1) := by decide +kernel
theorem dX5_init_5 : decode cX5_init 5 = .ok (.bipush 120, 2) := by decide +kernel
theorem dX5_init_7 : decode cX5_init 7 = .ok (.newarray .byte, 2) := by decide +kernel
theorem dX5_init_9 : decode cX5_init 9 = .ok (.putfield 11, 3) := by decide +kernel
theorem dX5_init_12 : decode cX5_init 12 = .ok (.aload_n 0, 1) := by decide +kernel
theorem dX5_init_13 : decode cX5_init 13 = .ok (.iconst 0, 1) := by decide +kernel
theorem dX5_init_14 : decode cX5_init 14 = .ok (.putfield 15, 3) := by decide +kernel
theorem dX5_init_17 : decode cX5_init 17 = .ok (.aload_n 0, 1) := by decide +kernel
theorem dX5_init_18 : decode cX5_init 18 = .ok (.bipush 64, 2) := by decide +kernel
theorem dX5_init_20 : decode cX5_init 20 = .ok (.newarray .int, 2) := by decide +kernel
theorem dX5_init_22 : decode cX5_init 22 = .ok (.putfield 19, 3) := by decide +kernel
theorem dX5_init_25 : decode cX5_init 25 = .ok (.aload_n 0, 1) := by decide +kernel
theorem dX5_init_26 : decode cX5_init 26 = .ok (.bipush 64, 2) := by decide +kernel
theorem dX5_init_28 : decode cX5_init 28 = .ok (.newarray .int, 2) := by decide +kernel
theorem dX5_init_30 : decode cX5_init 30 = .ok (.putfield 23, 3) := by decide +kernel
theorem dX5_init_33 : decode cX5_init 33 = .ok (.return_, 1) := by decide +kernel
theorem dX5_isTypable_0 : decode cX5_isTypable 0 = .ok (.iload_n 0, 1) := by decide +kernel
theorem dX5_isTypable_1 : decode cX5_isTypable 1 = .ok (.bipush 32, 2) := by decide +kernel
theorem dX5_isTypable_3 : decode cX5_isTypable 3 = .ok (.if_icmp .lt 13, 3) := by decide +kernel
theorem dX5_isTypable_6 : decode cX5_isTypable 6 = .ok (.iload_n 0, 1) := by decide +kernel
theorem dX5_isTypable_7 : decode cX5_isTypable 7 = .ok (.bipush 126, 2) := by decide +kernel
theorem dX5_isTypable_9 : decode cX5_isTypable 9 = .ok (.if_icmp .gt 7, 3) := by decide +kernel
theorem dX5_isTypable_12 : decode cX5_isTypable 12 = .ok (.iconst 1, 1) := by decide +kernel
theorem dX5_isTypable_13 : decode cX5_isTypable 13 = .ok (.goto 4, 3) := by decide +kernel
theorem dX5_isTypable_16 : decode cX5_isTypable 16 = .ok (.iconst 0, 1) := by decide +kernel
theorem dX5_isTypable_17 : decode cX5_isTypable 17 = .ok (.ireturn, 1) := by decide +kernel
theorem dX5_append_0 : decode cX5_append 0 = .ok (.aload_n 0, 1) := by decide +kernel
theorem dX5_append_1 : decode cX5_append 1 = .ok (.getfield 15, 3) := by decide +kernel
theorem dX5_append_4 : decode cX5_append 4 = .ok (.bipush 120, 2) := by decide +kernel
theorem dX5_append_6 : decode cX5_append 6 = .ok (.if_icmp .ge 24, 3) := by decide +kernel
theorem dX5_append_9 : decode cX5_append 9 = .ok (.aload_n 0, 1) := by decide +kernel
theorem dX5_append_10 : decode cX5_append 10 = .ok (.getfield 11, 3) := by decide +kernel
theorem dX5_append_13 : decode cX5_append 13 = .ok (.aload_n 0, 1) := by decide +kernel
theorem dX5_append_14 : decode cX5_append 14 = .ok (.getfield 15, 3) := by decide +kernel
theorem dX5_append_17 : decode cX5_append 17 = .ok (.iload_n 1, 1) := by decide +kernel
theorem dX5_append_18 : decode cX5_append 18 = .ok (.i2b, 1) := by decide +kernel
theorem dX5_append_19 : decode cX5_append 19 = .ok (.bastore, 1) := by decide +kernel
theorem dX5_append_20 : decode cX5_append 20 = .ok (.aload_n 0, 1) := by decide +kernel
theorem dX5_append_21 : decode cX5_append 21 = .ok (.dup, 1) := by decide +kernel
theorem dX5_append_22 : decode cX5_append 22 = .ok (.getfield 15, 3) := by decide +kernel
theorem dX5_append_25 : decode cX5_append 25 = .ok (.iconst 1, 1) := by decide +kernel
theorem dX5_append_26 : decode cX5_append 26 = .ok (.iadd, 1) := by decide +kernel
theorem dX5_append_27 : decode cX5_append 27 = .ok (.putfield 15, 3) := by decide +kernel
theorem dX5_append_30 : decode cX5_append 30 = .ok (.return_, 1) := by decide +kernel
theorem dX5_readPeople_0 : decode cX5_readPeople 0 = .ok (.aload_n 0, 1) := by decide +kernel
theorem dX5_readPeople_1 : decode cX5_readPeople 1 = .ok (.ldc 26, 2) := by decide +kernel
theorem dX5_readPeople_3 : decode cX5_readPeople 3 = .ok (.bipush 44, 2) := by decide +kernel
theorem dX5_readPeople_5 : decode cX5_readPeople 5 = .ok (.bipush 10, 2) := by decide +kernel
theorem dX5_readPeople_7 : decode cX5_readPeople 7 = .ok (.invokevirtual 28, 3) := by decide +kernel
theorem dX5_readPeople_10 : decode cX5_readPeople 10 = .ok (.ireturn, 1) := by decide +kernel
theorem dX5_readEvening_0 : decode cX5_readEvening 0 = .ok (.aload_n 0, 1) := by decide +kernel
theorem dX5_readEvening_1 : decode cX5_readEvening 1 = .ok (.ldc 32, 2) := by decide +kernel
theorem dX5_readEvening_3 : decode cX5_readEvening 3 = .ok (.bipush 59, 2) := by decide +kernel
theorem dX5_readEvening_5 : decode cX5_readEvening 5 = .ok (.bipush 64, 2) := by decide +kernel
theorem dX5_readEvening_7 : decode cX5_readEvening 7 = .ok (.invokevirtual 28, 3) := by decide +kernel
theorem dX5_readEvening_10 : decode cX5_readEvening 10 = .ok (.ireturn, 1) := by decide +kernel
theorem dX5_readEntries_0 : decode cX5_readEntries 0 = .ok (.aload_n 0, 1) := by decide +kernel
theorem dX5_readEntries_1 : decode cX5_readEntries 1 = .ok (.iconst 0, 1) := by decide +kernel
theorem dX5_readEntries_2 : decode cX5_readEntries 2 = .ok (.putfield 34, 3) := by decide +kernel
theorem dX5_readEntries_5 : decode cX5_readEntries 5 = .ok (.iconst 0, 1) := by decide +kernel
theorem dX5_readEntries_6 : decode cX5_readEntries 6 = .ok (.istore 4, 2) := by decide +kernel
theorem dX5_readEntries_8 : decode cX5_readEntries 8 = .ok (.iload 4, 2) := by decide +kernel
theorem dX5_readEntries_10 : decode cX5_readEntries 10 = .ok (.iload_n 3, 1) := by decide +kernel
theorem dX5_readEntries_11 : decode cX5_readEntries 11 = .ok (.if_icmp .ge 106, 3) := by decide +kernel
theorem dX5_readEntries_14 : decode cX5_readEntries 14 = .ok (.aload_n 0, 1) := by decide +kernel
theorem dX5_readEntries_15 : decode cX5_readEntries 15 = .ok (.aload_n 1, 1) := by decide +kernel
theorem dX5_readEntries_16 : decode cX5_readEntries 16 = .ok (.iload 4, 2) := by decide +kernel
theorem dX5_readEntries_18 : decode cX5_readEntries 18 = .ok (.invokevirtual 37, 3) := by decide +kernel
theorem dX5_readEntries_21 : decode cX5_readEntries 21 = .ok (.istore 5, 2) := by decide +kernel
theorem dX5_readEntries_23 : decode cX5_readEntries 23 = .ok (.iload 5, 2) := by decide +kernel
theorem dX5_readEntries_25 : decode cX5_readEntries 25 = .ok (.ifCond .ne 29, 3) := by decide +kernel
theorem dX5_readEntries_28 : decode cX5_readEntries 28 = .ok (.iload_n 2, 1) := by decide +kernel
theorem dX5_readEntries_29 : decode cX5_readEntries 29 = .ok (.bipush 44, 2) := by decide +kernel
theorem dX5_readEntries_31 : decode cX5_readEntries 31 = .ok (.if_icmp .ne 15, 3) := by decide +kernel
theorem dX5_readEntries_34 : decode cX5_readEntries 34 = .ok (.aload_n 0, 1) := by decide +kernel
theorem dX5_readEntries_35 : decode cX5_readEntries 35 = .ok (.iload 4, 2) := by decide +kernel
theorem dX5_readEntries_37 : decode cX5_readEntries 37 = .ok (.iconst 1, 1) := by decide +kernel
theorem dX5_readEntries_38 : decode cX5_readEntries 38 = .ok (.bipush 99, 2) := by decide +kernel
theorem dX5_readEntries_40 : decode cX5_readEntries 40 = .ok (.invokevirtual 41, 3) := by decide +kernel
theorem dX5_readEntries_43 : decode cX5_readEntries 43 = .ok (.goto 9, 3) := by decide +kernel
theorem dX5_readEntries_46 : decode cX5_readEntries 46 = .ok (.aload_n 0, 1) := by decide +kernel
theorem dX5_readEntries_47 : decode cX5_readEntries 47 = .ok (.iload 4, 2) := by decide +kernel
theorem dX5_readEntries_49 : decode cX5_readEntries 49 = .ok (.invokevirtual 45, 3) := by decide +kernel
theorem dX5_readEntries_52 : decode cX5_readEntries 52 = .ok (.istore 5, 2) := by decide +kernel
theorem dX5_readEntries_54 : decode cX5_readEntries 54 = .ok (.iload 5, 2) := by decide +kernel
theorem dX5_readEntries_56 : decode cX5_readEntries 56 = .ok (.ifCond .eq 6, 3) := by decide +kernel
theorem dX5_readEntries_59 : decode cX5_readEntries 59 = .ok (.iload 5, 2) := by decide +kernel
theorem dX5_readEntries_61 : decode cX5_readEntries 61 = .ok (.ireturn, 1) := by decide +kernel
theorem dX5_readEntries_62 : decode cX5_readEntries 62 = .ok (.aload_n 0, 1) := by decide +kernel
theorem dX5_readEntries_63 : decode cX5_readEntries 63 = .ok (.invokevirtual 49, 3) := by decide +kernel
theorem dX5_readEntries_66 : decode cX5_readEntries 66 = .ok (.istore 6, 2) := by decide +kernel
theorem dX5_readEntries_68 : decode cX5_readEntries 68 = .ok (.iload 6, 2) := by decide +kernel
theorem dX5_readEntries_70 : decode cX5_readEntries 70 = .ok (.iconst (-1), 1) := by decide +kernel
theorem dX5_readEntries_71 : decode cX5_readEntries 71 = .ok (.if_icmp .ne 8, 3) := by decide +kernel
theorem dX5_readEntries_74 : decode cX5_readEntries 74 = .ok (.iload 4, 2) := by decide +kernel
theorem dX5_readEntries_76 : decode cX5_readEntries 76 = .ok (.iconst 1, 1) := by decide +kernel
theorem dX5_readEntries_77 : decode cX5_readEntries 77 = .ok (.iadd, 1) := by decide +kernel
theorem dX5_readEntries_78 : decode cX5_readEntries 78 = .ok (.ireturn, 1) := by decide +kernel
theorem dX5_readEntries_79 : decode cX5_readEntries 79 = .ok (.iload 6, 2) := by decide +kernel
theorem dX5_readEntries_81 : decode cX5_readEntries 81 = .ok (.iload_n 2, 1) := by decide +kernel
theorem dX5_readEntries_82 : decode cX5_readEntries 82 = .ok (.if_icmp .ne 11, 3) := by decide +kernel
theorem dX5_readEntries_85 : decode cX5_readEntries 85 = .ok (.iload 4, 2) := by decide +kernel
theorem dX5_readEntries_87 : decode cX5_readEntries 87 = .ok (.iload_n 3, 1) := by decide +kernel
theorem dX5_readEntries_88 : decode cX5_readEntries 88 = .ok (.iconst 1, 1) := by decide +kernel
theorem dX5_readEntries_89 : decode cX5_readEntries 89 = .ok (.isub, 1) := by decide +kernel
theorem dX5_readEntries_90 : decode cX5_readEntries 90 = .ok (.if_icmp .ne 11, 3) := by decide +kernel
theorem dX5_readEntries_93 : decode cX5_readEntries 93 = .ok (.aload_n 0, 1) := by decide +kernel
theorem dX5_readEntries_94 : decode cX5_readEntries 94 = .ok (.getfield 34, 3) := by decide +kernel
theorem dX5_readEntries_97 : decode cX5_readEntries 97 = .ok (.invokestatic 53, 3) := by decide +kernel
theorem dX5_readEntries_100 : decode cX5_readEntries 100 = .ok (.ireturn, 1) := by decide +kernel
theorem dX5_readEntries_101 : decode cX5_readEntries 101 = .ok (.aload_n 0, 1) := by decide +kernel
theorem dX5_readEntries_102 : decode cX5_readEntries 102 = .ok (.dup, 1) := by decide +kernel
theorem dX5_readEntries_103 : decode cX5_readEntries 103 = .ok (.getfield 34, 3) := by decide +kernel
theorem dX5_readEntries_106 : decode cX5_readEntries 106 = .ok (.iconst 1, 1) := by decide +kernel
theorem dX5_readEntries_107 : decode cX5_readEntries 107 = .ok (.iadd, 1) := by decide +kernel
theorem dX5_readEntries_108 : decode cX5_readEntries 108 = .ok (.putfield 34, 3) := by decide +kernel
theorem dX5_readEntries_111 : decode cX5_readEntries 111 = .ok (.iinc 4 1, 3) := by decide +kernel
theorem dX5_readEntries_114 : decode cX5_readEntries 114 = .ok (.goto (-106), 3) := by decide +kernel
theorem dX5_readEntries_117 : decode cX5_readEntries 117 = .ok (.aload_n 0, 1) := by decide +kernel
theorem dX5_readEntries_118 : decode cX5_readEntries 118 = .ok (.getfield 34, 3) := by decide +kernel
theorem dX5_readEntries_121 : decode cX5_readEntries 121 = .ok (.invokestatic 53, 3) := by decide +kernel
theorem dX5_readEntries_124 : decode cX5_readEntries 124 = .ok (.ireturn, 1) := by decide +kernel
theorem dX5_faultAt_0 : decode cX5_faultAt 0 = .ok (.bipush (-20), 2) := by decide +kernel
theorem dX5_faultAt_2 : decode cX5_faultAt 2 = .ok (.iload_n 0, 1) := by decide +kernel
theorem dX5_faultAt_3 : decode cX5_faultAt 3 = .ok (.isub, 1) := by decide +kernel
theorem dX5_faultAt_4 : decode cX5_faultAt 4 = .ok (.ireturn, 1) := by decide +kernel
theorem dX5_isDigit_0 : decode cX5_isDigit 0 = .ok (.iload_n 0, 1) := by decide +kernel
theorem dX5_isDigit_1 : decode cX5_isDigit 1 = .ok (.bipush 48, 2) := by decide +kernel
theorem dX5_isDigit_3 : decode cX5_isDigit 3 = .ok (.if_icmp .lt 13, 3) := by decide +kernel
theorem dX5_isDigit_6 : decode cX5_isDigit 6 = .ok (.iload_n 0, 1) := by decide +kernel
theorem dX5_isDigit_7 : decode cX5_isDigit 7 = .ok (.bipush 57, 2) := by decide +kernel
theorem dX5_isDigit_9 : decode cX5_isDigit 9 = .ok (.if_icmp .gt 7, 3) := by decide +kernel
theorem dX5_isDigit_12 : decode cX5_isDigit 12 = .ok (.iconst 1, 1) := by decide +kernel
theorem dX5_isDigit_13 : decode cX5_isDigit 13 = .ok (.goto 4, 3) := by decide +kernel
theorem dX5_isDigit_16 : decode cX5_isDigit 16 = .ok (.iconst 0, 1) := by decide +kernel
theorem dX5_isDigit_17 : decode cX5_isDigit 17 = .ok (.ireturn, 1) := by decide +kernel
theorem dX5_next_0 : decode cX5_next 0 = .ok (.aload_n 0, 1) := by decide +kernel
theorem dX5_next_1 : decode cX5_next 1 = .ok (.getfield 34, 3) := by decide +kernel
theorem dX5_next_4 : decode cX5_next 4 = .ok (.aload_n 0, 1) := by decide +kernel
theorem dX5_next_5 : decode cX5_next 5 = .ok (.getfield 15, 3) := by decide +kernel
theorem dX5_next_8 : decode cX5_next 8 = .ok (.if_icmp .ge 30, 3) := by decide +kernel
theorem dX5_next_11 : decode cX5_next 11 = .ok (.aload_n 0, 1) := by decide +kernel
theorem dX5_next_12 : decode cX5_next 12 = .ok (.getfield 11, 3) := by decide +kernel
theorem dX5_next_15 : decode cX5_next 15 = .ok (.aload_n 0, 1) := by decide +kernel
theorem dX5_next_16 : decode cX5_next 16 = .ok (.getfield 34, 3) := by decide +kernel
theorem dX5_next_19 : decode cX5_next 19 = .ok (.baload, 1) := by decide +kernel
theorem dX5_next_20 : decode cX5_next 20 = .ok (.bipush 32, 2) := by decide +kernel
theorem dX5_next_22 : decode cX5_next 22 = .ok (.if_icmp .ne 16, 3) := by decide +kernel
theorem dX5_next_25 : decode cX5_next 25 = .ok (.aload_n 0, 1) := by decide +kernel
theorem dX5_next_26 : decode cX5_next 26 = .ok (.dup, 1) := by decide +kernel
theorem dX5_next_27 : decode cX5_next 27 = .ok (.getfield 34, 3) := by decide +kernel
theorem dX5_next_30 : decode cX5_next 30 = .ok (.iconst 1, 1) := by decide +kernel
theorem dX5_next_31 : decode cX5_next 31 = .ok (.iadd, 1) := by decide +kernel
theorem dX5_next_32 : decode cX5_next 32 = .ok (.putfield 34, 3) := by decide +kernel
theorem dX5_next_35 : decode cX5_next 35 = .ok (.goto (-35), 3) := by decide +kernel
theorem dX5_next_38 : decode cX5_next 38 = .ok (.aload_n 0, 1) := by decide +kernel
theorem dX5_next_39 : decode cX5_next 39 = .ok (.getfield 34, 3) := by decide +kernel
theorem dX5_next_42 : decode cX5_next 42 = .ok (.aload_n 0, 1) := by decide +kernel
theorem dX5_next_43 : decode cX5_next 43 = .ok (.getfield 15, 3) := by decide +kernel
theorem dX5_next_46 : decode cX5_next 46 = .ok (.if_icmp .ge 15, 3) := by decide +kernel
theorem dX5_next_49 : decode cX5_next 49 = .ok (.aload_n 0, 1) := by decide +kernel
theorem dX5_next_50 : decode cX5_next 50 = .ok (.getfield 11, 3) := by decide +kernel
theorem dX5_next_53 : decode cX5_next 53 = .ok (.aload_n 0, 1) := by decide +kernel
theorem dX5_next_54 : decode cX5_next 54 = .ok (.getfield 34, 3) := by decide +kernel
theorem dX5_next_57 : decode cX5_next 57 = .ok (.baload, 1) := by decide +kernel
theorem dX5_next_58 : decode cX5_next 58 = .ok (.goto 4, 3) := by decide +kernel
theorem dX5_next_61 : decode cX5_next 61 = .ok (.iconst (-1), 1) := by decide +kernel
theorem dX5_next_62 : decode cX5_next 62 = .ok (.ireturn, 1) := by decide +kernel
theorem dX5_readLetter_0 : decode cX5_readLetter 0 = .ok (.aload_n 0, 1) := by decide +kernel
theorem dX5_readLetter_1 : decode cX5_readLetter 1 = .ok (.invokevirtual 49, 3) := by decide +kernel
theorem dX5_readLetter_4 : decode cX5_readLetter 4 = .ok (.istore_n 3, 1) := by decide +kernel
theorem dX5_readLetter_5 : decode cX5_readLetter 5 = .ok (.iload_n 3, 1) := by decide +kernel
theorem dX5_readLetter_6 : decode cX5_readLetter 6 = .ok (.iconst (-1), 1) := by decide +kernel
theorem dX5_readLetter_7 : decode cX5_readLetter 7 = .ok (.if_icmp .ne 7, 3) := by decide +kernel
theorem dX5_readLetter_10 : decode cX5_readLetter 10 = .ok (.iconst (-1), 1) := by decide +kernel
theorem dX5_readLetter_11 : decode cX5_readLetter 11 = .ok (.goto 9, 3) := by decide +kernel
theorem dX5_readLetter_14 : decode cX5_readLetter 14 = .ok (.aload_n 1, 1) := by decide +kernel
theorem dX5_readLetter_15 : decode cX5_readLetter 15 = .ok (.iload_n 3, 1) := by decide +kernel
theorem dX5_readLetter_16 : decode cX5_readLetter 16 = .ok (.i2c, 1) := by decide +kernel
theorem dX5_readLetter_17 : decode cX5_readLetter 17 = .ok (.invokevirtual 56, 3) := by decide +kernel
theorem dX5_readLetter_20 : decode cX5_readLetter 20 = .ok (.istore 4, 2) := by decide +kernel
theorem dX5_readLetter_22 : decode cX5_readLetter 22 = .ok (.iload 4, 2) := by decide +kernel
theorem dX5_readLetter_24 : decode cX5_readLetter 24 = .ok (.ifCond .ge 11, 3) := by decide +kernel
theorem dX5_readLetter_27 : decode cX5_readLetter 27 = .ok (.aload_n 0, 1) := by decide +kernel
theorem dX5_readLetter_28 : decode cX5_readLetter 28 = .ok (.getfield 34, 3) := by decide +kernel
theorem dX5_readLetter_31 : decode cX5_readLetter 31 = .ok (.invokestatic 53, 3) := by decide +kernel
theorem dX5_readLetter_34 : decode cX5_readLetter 34 = .ok (.ireturn, 1) := by decide +kernel
theorem dX5_readLetter_35 : decode cX5_readLetter 35 = .ok (.aload_n 0, 1) := by decide +kernel
theorem dX5_readLetter_36 : decode cX5_readLetter 36 = .ok (.getfield 19, 3) := by decide +kernel
theorem dX5_readLetter_39 : decode cX5_readLetter 39 = .ok (.iload_n 2, 1) := by decide +kernel
theorem dX5_readLetter_40 : decode cX5_readLetter 40 = .ok (.iload 4, 2) := by decide +kernel
theorem dX5_readLetter_42 : decode cX5_readLetter 42 = .ok (.iastore, 1) := by decide +kernel
theorem dX5_readLetter_43 : decode cX5_readLetter 43 = .ok (.aload_n 0, 1) := by decide +kernel
theorem dX5_readLetter_44 : decode cX5_readLetter 44 = .ok (.dup, 1) := by decide +kernel
theorem dX5_readLetter_45 : decode cX5_readLetter 45 = .ok (.getfield 34, 3) := by decide +kernel
theorem dX5_readLetter_48 : decode cX5_readLetter 48 = .ok (.iconst 1, 1) := by decide +kernel
theorem dX5_readLetter_49 : decode cX5_readLetter 49 = .ok (.iadd, 1) := by decide +kernel
theorem dX5_readLetter_50 : decode cX5_readLetter 50 = .ok (.putfield 34, 3) := by decide +kernel
theorem dX5_readLetter_53 : decode cX5_readLetter 53 = .ok (.iconst 0, 1) := by decide +kernel
theorem dX5_readLetter_54 : decode cX5_readLetter 54 = .ok (.ireturn, 1) := by decide +kernel
theorem dX5_readWhatFollows_0 : decode cX5_readWhatFollows 0 = .ok (.aload_n 0, 1) := by decide +kernel
theorem dX5_readWhatFollows_1 : decode cX5_readWhatFollows 1 = .ok (.getfield 19, 3) := by decide +kernel
theorem dX5_readWhatFollows_4 : decode cX5_readWhatFollows 4 = .ok (.iload_n 1, 1) := by decide +kernel
theorem dX5_readWhatFollows_5 : decode cX5_readWhatFollows 5 = .ok (.iaload, 1) := by decide +kernel
theorem dX5_readWhatFollows_6 : decode cX5_readWhatFollows 6 = .ok (.tableswitch 41 0 2 #[26, 26, 32], 26) := by decide +kernel
theorem dX5_readWhatFollows_32 : decode cX5_readWhatFollows 32 = .ok (.aload_n 0, 1) := by decide +kernel
theorem dX5_readWhatFollows_33 : decode cX5_readWhatFollows 33 = .ok (.iload_n 1, 1) := by decide +kernel
theorem dX5_readWhatFollows_34 : decode cX5_readWhatFollows 34 = .ok (.invokevirtual 61, 3) := by decide +kernel
theorem dX5_readWhatFollows_37 : decode cX5_readWhatFollows 37 = .ok (.ireturn, 1) := by decide +kernel
theorem dX5_readWhatFollows_38 : decode cX5_readWhatFollows 38 = .ok (.aload_n 0, 1) := by decide +kernel
theorem dX5_readWhatFollows_39 : decode cX5_readWhatFollows 39 = .ok (.iload_n 1, 1) := by decide +kernel
theorem dX5_readWhatFollows_40 : decode cX5_readWhatFollows 40 = .ok (.iconst 0, 1) := by decide +kernel
theorem dX5_readWhatFollows_41 : decode cX5_readWhatFollows 41 = .ok (.bipush 99, 2) := by decide +kernel
theorem dX5_readWhatFollows_43 : decode cX5_readWhatFollows 43 = .ok (.invokevirtual 41, 3) := by decide +kernel
theorem dX5_readWhatFollows_46 : decode cX5_readWhatFollows 46 = .ok (.ireturn, 1) := by decide +kernel
theorem dX5_readWhatFollows_47 : decode cX5_readWhatFollows 47 = .ok (.aload_n 0, 1) := by decide +kernel
theorem dX5_readWhatFollows_48 : decode cX5_readWhatFollows 48 = .ok (.getfield 23, 3) := by decide +kernel
theorem dX5_readWhatFollows_51 : decode cX5_readWhatFollows 51 = .ok (.iload_n 1, 1) := by decide +kernel
theorem dX5_readWhatFollows_52 : decode cX5_readWhatFollows 52 = .ok (.iconst 0, 1) := by decide +kernel
theorem dX5_readWhatFollows_53 : decode cX5_readWhatFollows 53 = .ok (.iastore, 1) := by decide +kernel
theorem dX5_readWhatFollows_54 : decode cX5_readWhatFollows 54 = .ok (.iconst 0, 1) := by decide +kernel
theorem dX5_readWhatFollows_55 : decode cX5_readWhatFollows 55 = .ok (.ireturn, 1) := by decide +kernel
theorem dX5_readDigit_0 : decode cX5_readDigit 0 = .ok (.aload_n 0, 1) := by decide +kernel
theorem dX5_readDigit_1 : decode cX5_readDigit 1 = .ok (.invokevirtual 49, 3) := by decide +kernel
theorem dX5_readDigit_4 : decode cX5_readDigit 4 = .ok (.istore_n 2, 1) := by decide +kernel
theorem dX5_readDigit_5 : decode cX5_readDigit 5 = .ok (.iload_n 2, 1) := by decide +kernel
theorem dX5_readDigit_6 : decode cX5_readDigit 6 = .ok (.invokestatic 64, 3) := by decide +kernel
theorem dX5_readDigit_9 : decode cX5_readDigit 9 = .ok (.ifCond .ne 11, 3) := by decide +kernel
theorem dX5_readDigit_12 : decode cX5_readDigit 12 = .ok (.aload_n 0, 1) := by decide +kernel
theorem dX5_readDigit_13 : decode cX5_readDigit 13 = .ok (.getfield 34, 3) := by decide +kernel
theorem dX5_readDigit_16 : decode cX5_readDigit 16 = .ok (.invokestatic 53, 3) := by decide +kernel
theorem dX5_readDigit_19 : decode cX5_readDigit 19 = .ok (.ireturn, 1) := by decide +kernel
theorem dX5_readDigit_20 : decode cX5_readDigit 20 = .ok (.aload_n 0, 1) := by decide +kernel
theorem dX5_readDigit_21 : decode cX5_readDigit 21 = .ok (.getfield 23, 3) := by decide +kernel
theorem dX5_readDigit_24 : decode cX5_readDigit 24 = .ok (.iload_n 1, 1) := by decide +kernel
theorem dX5_readDigit_25 : decode cX5_readDigit 25 = .ok (.iload_n 2, 1) := by decide +kernel
theorem dX5_readDigit_26 : decode cX5_readDigit 26 = .ok (.bipush 48, 2) := by decide +kernel
theorem dX5_readDigit_28 : decode cX5_readDigit 28 = .ok (.isub, 1) := by decide +kernel
theorem dX5_readDigit_29 : decode cX5_readDigit 29 = .ok (.iastore, 1) := by decide +kernel
theorem dX5_readDigit_30 : decode cX5_readDigit 30 = .ok (.aload_n 0, 1) := by decide +kernel
theorem dX5_readDigit_31 : decode cX5_readDigit 31 = .ok (.dup, 1) := by decide +kernel
theorem dX5_readDigit_32 : decode cX5_readDigit 32 = .ok (.getfield 34, 3) := by decide +kernel
theorem dX5_readDigit_35 : decode cX5_readDigit 35 = .ok (.iconst 1, 1) := by decide +kernel
theorem dX5_readDigit_36 : decode cX5_readDigit 36 = .ok (.iadd, 1) := by decide +kernel
theorem dX5_readDigit_37 : decode cX5_readDigit 37 = .ok (.putfield 34, 3) := by decide +kernel
theorem dX5_readDigit_40 : decode cX5_readDigit 40 = .ok (.iconst 0, 1) := by decide +kernel
theorem dX5_readDigit_41 : decode cX5_readDigit 41 = .ok (.ireturn, 1) := by decide +kernel
theorem dX5_readNumber_0 : decode cX5_readNumber 0 = .ok (.aload_n 0, 1) := by decide +kernel
theorem dX5_readNumber_1 : decode cX5_readNumber 1 = .ok (.invokevirtual 49, 3) := by decide +kernel
theorem dX5_readNumber_4 : decode cX5_readNumber 4 = .ok (.invokestatic 64, 3) := by decide +kernel
theorem dX5_readNumber_7 : decode cX5_readNumber 7 = .ok (.ifCond .ne 11, 3) := by decide +kernel
theorem dX5_readNumber_10 : decode cX5_readNumber 10 = .ok (.aload_n 0, 1) := by decide +kernel
theorem dX5_readNumber_11 : decode cX5_readNumber 11 = .ok (.getfield 34, 3) := by decide +kernel
theorem dX5_readNumber_14 : decode cX5_readNumber 14 = .ok (.invokestatic 53, 3) := by decide +kernel
theorem dX5_readNumber_17 : decode cX5_readNumber 17 = .ok (.ireturn, 1) := by decide +kernel
theorem dX5_readNumber_18 : decode cX5_readNumber 18 = .ok (.aload_n 0, 1) := by decide +kernel
theorem dX5_readNumber_19 : decode cX5_readNumber 19 = .ok (.getfield 34, 3) := by decide +kernel
theorem dX5_readNumber_22 : decode cX5_readNumber 22 = .ok (.istore 4, 2) := by decide +kernel
theorem dX5_readNumber_24 : decode cX5_readNumber 24 = .ok (.iconst 0, 1) := by decide +kernel
theorem dX5_readNumber_25 : decode cX5_readNumber 25 = .ok (.istore 5, 2) := by decide +kernel
theorem dX5_readNumber_27 : decode cX5_readNumber 27 = .ok (.aload_n 0, 1) := by decide +kernel
theorem dX5_readNumber_28 : decode cX5_readNumber 28 = .ok (.getfield 34, 3) := by decide +kernel
theorem dX5_readNumber_31 : decode cX5_readNumber 31 = .ok (.aload_n 0, 1) := by decide +kernel
theorem dX5_readNumber_32 : decode cX5_readNumber 32 = .ok (.getfield 15, 3) := by decide +kernel
theorem dX5_readNumber_35 : decode cX5_readNumber 35 = .ok (.if_icmp .ge 57, 3) := by decide +kernel
theorem dX5_readNumber_38 : decode cX5_readNumber 38 = .ok (.aload_n 0, 1) := by decide +kernel
theorem dX5_readNumber_39 : decode cX5_readNumber 39 = .ok (.getfield 11, 3) := by decide +kernel
theorem dX5_readNumber_42 : decode cX5_readNumber 42 = .ok (.aload_n 0, 1) := by decide +kernel
theorem dX5_readNumber_43 : decode cX5_readNumber 43 = .ok (.getfield 34, 3) := by decide +kernel
theorem dX5_readNumber_46 : decode cX5_readNumber 46 = .ok (.baload, 1) := by decide +kernel
theorem dX5_readNumber_47 : decode cX5_readNumber 47 = .ok (.invokestatic 64, 3) := by decide +kernel
theorem dX5_readNumber_50 : decode cX5_readNumber 50 = .ok (.ifCond .eq 42, 3) := by decide +kernel
theorem dX5_readNumber_53 : decode cX5_readNumber 53 = .ok (.bipush 10, 2) := by decide +kernel
theorem dX5_readNumber_55 : decode cX5_readNumber 55 = .ok (.iload 5, 2) := by decide +kernel
theorem dX5_readNumber_57 : decode cX5_readNumber 57 = .ok (.imul, 1) := by decide +kernel
theorem dX5_readNumber_58 : decode cX5_readNumber 58 = .ok (.aload_n 0, 1) := by decide +kernel
theorem dX5_readNumber_59 : decode cX5_readNumber 59 = .ok (.getfield 11, 3) := by decide +kernel
theorem dX5_readNumber_62 : decode cX5_readNumber 62 = .ok (.aload_n 0, 1) := by decide +kernel
theorem dX5_readNumber_63 : decode cX5_readNumber 63 = .ok (.getfield 34, 3) := by decide +kernel
theorem dX5_readNumber_66 : decode cX5_readNumber 66 = .ok (.baload, 1) := by decide +kernel
theorem dX5_readNumber_67 : decode cX5_readNumber 67 = .ok (.iadd, 1) := by decide +kernel
theorem dX5_readNumber_68 : decode cX5_readNumber 68 = .ok (.bipush 48, 2) := by decide +kernel
theorem dX5_readNumber_70 : decode cX5_readNumber 70 = .ok (.isub, 1) := by decide +kernel
theorem dX5_readNumber_71 : decode cX5_readNumber 71 = .ok (.iload_n 3, 1) := by decide +kernel
theorem dX5_readNumber_72 : decode cX5_readNumber 72 = .ok (.iconst 1, 1) := by decide +kernel
theorem dX5_readNumber_73 : decode cX5_readNumber 73 = .ok (.iadd, 1) := by decide +kernel
theorem dX5_readNumber_74 : decode cX5_readNumber 74 = .ok (.invokestatic 68, 3) := by decide +kernel
theorem dX5_readNumber_77 : decode cX5_readNumber 77 = .ok (.istore 5, 2) := by decide +kernel
theorem dX5_readNumber_79 : decode cX5_readNumber 79 = .ok (.aload_n 0, 1) := by decide +kernel
theorem dX5_readNumber_80 : decode cX5_readNumber 80 = .ok (.dup, 1) := by decide +kernel
theorem dX5_readNumber_81 : decode cX5_readNumber 81 = .ok (.getfield 34, 3) := by decide +kernel
theorem dX5_readNumber_84 : decode cX5_readNumber 84 = .ok (.iconst 1, 1) := by decide +kernel
theorem dX5_readNumber_85 : decode cX5_readNumber 85 = .ok (.iadd, 1) := by decide +kernel
theorem dX5_readNumber_86 : decode cX5_readNumber 86 = .ok (.putfield 34, 3) := by decide +kernel
theorem dX5_readNumber_89 : decode cX5_readNumber 89 = .ok (.goto (-62), 3) := by decide +kernel
theorem dX5_readNumber_92 : decode cX5_readNumber 92 = .ok (.aload_n 0, 1) := by decide +kernel
theorem dX5_readNumber_93 : decode cX5_readNumber 93 = .ok (.getfield 23, 3) := by decide +kernel
theorem dX5_readNumber_96 : decode cX5_readNumber 96 = .ok (.iload_n 1, 1) := by decide +kernel
theorem dX5_readNumber_97 : decode cX5_readNumber 97 = .ok (.iload 5, 2) := by decide +kernel
theorem dX5_readNumber_99 : decode cX5_readNumber 99 = .ok (.iastore, 1) := by decide +kernel
theorem dX5_readNumber_100 : decode cX5_readNumber 100 = .ok (.iload 5, 2) := by decide +kernel
theorem dX5_readNumber_102 : decode cX5_readNumber 102 = .ok (.iload_n 2, 1) := by decide +kernel
theorem dX5_readNumber_103 : decode cX5_readNumber 103 = .ok (.if_icmp .lt 9, 3) := by decide +kernel
theorem dX5_readNumber_106 : decode cX5_readNumber 106 = .ok (.iload 5, 2) := by decide +kernel
theorem dX5_readNumber_108 : decode cX5_readNumber 108 = .ok (.iload_n 3, 1) := by decide +kernel
theorem dX5_readNumber_109 : decode cX5_readNumber 109 = .ok (.if_icmp .le 11, 3) := by decide +kernel
theorem dX5_readNumber_112 : decode cX5_readNumber 112 = .ok (.iload 4, 2) := by decide +kernel
theorem dX5_readNumber_114 : decode cX5_readNumber 114 = .ok (.invokestatic 53, 3) := by decide +kernel
theorem dX5_readNumber_117 : decode cX5_readNumber 117 = .ok (.goto 4, 3) := by decide +kernel
theorem dX5_readNumber_120 : decode cX5_readNumber 120 = .ok (.iconst 0, 1) := by decide +kernel
theorem dX5_readNumber_121 : decode cX5_readNumber 121 = .ok (.ireturn, 1) := by decide +kernel
theorem dX6_init_0 : decode cX6_init 0 = .ok (.aload_n 0, 1) := by decide +kernel
theorem dX6_init_1 : decode cX6_init 1 = .ok (.invokespecial 3, 3) := by decide +kernel
theorem dX6_init_4 : decode cX6_init 4 = .ok (.aload_n 0, 1) := by decide +kernel
theorem dX6_init_5 : decode cX6_init 5 = .ok (.bipush 10, 2) := by decide +kernel
theorem dX6_init_7 : decode cX6_init 7 = .ok (.newarray .int, 2) := by decide +kernel
theorem dX6_init_9 : decode cX6_init 9 = .ok (.putfield 9, 3) := by decide +kernel
theorem dX6_init_12 : decode cX6_init 12 = .ok (.aload_n 0, 1) := by decide +kernel
theorem dX6_init_13 : decode cX6_init 13 = .ok (.bipush 10, 2) := by decide +kernel
theorem dX6_init_15 : decode cX6_init 15 = .ok (.newarray .int, 2) := by decide +kernel
theorem dX6_init_17 : decode cX6_init 17 = .ok (.putfield 15, 3) := by decide +kernel
theorem dX6_init_20 : decode cX6_init 20 = .ok (.aload_n 0, 1) := by decide +kernel
theorem dX6_init_21 : decode cX6_init 21 = .ok (.bipush 10, 2) := by decide +kernel
theorem dX6_init_23 : decode cX6_init 23 = .ok (.newarray .int, 2) := by decide +kernel
theorem dX6_init_25 : decode cX6_init 25 = .ok (.putfield 18, 3) := by decide +kernel
theorem dX6_init_28 : decode cX6_init 28 = .ok (.aload_n 0, 1) := by decide +kernel
theorem dX6_init_29 : decode cX6_init 29 = .ok (.bipush 10, 2) := by decide +kernel
theorem dX6_init_31 : decode cX6_init 31 = .ok (.newarray .int, 2) := by decide +kernel
theorem dX6_init_33 : decode cX6_init 33 = .ok (.putfield 21, 3) := by decide +kernel
theorem dX6_init_36 : decode cX6_init 36 = .ok (.aload_n 0, 1) := by decide +kernel
theorem dX6_init_37 : decode cX6_init 37 = .ok (.bipush 12, 2) := by decide +kernel
theorem dX6_init_39 : decode cX6_init 39 = .ok (.newarray .int, 2) := by decide +kernel
theorem dX6_init_41 : decode cX6_init 41 = .ok (.putfield 24, 3) := by decide +kernel
theorem dX6_init_44 : decode cX6_init 44 = .ok (.aload_n 0, 1) := by decide +kernel
theorem dX6_init_45 : decode cX6_init 45 = .ok (.iconst 0, 1) := by decide +kernel
theorem dX6_init_46 : decode cX6_init 46 = .ok (.putfield 27, 3) := by decide +kernel
theorem dX6_init_49 : decode cX6_init 49 = .ok (.aload_n 0, 1) := by decide +kernel
theorem dX6_init_50 : decode cX6_init 50 = .ok (.iconst 0, 1) := by decide +kernel
theorem dX6_init_51 : decode cX6_init 51 = .ok (.putfield 31, 3) := by decide +kernel
theorem dX6_init_54 : decode cX6_init 54 = .ok (.aload_n 0, 1) := by decide +kernel
theorem dX6_init_55 : decode cX6_init 55 = .ok (.bipush 20, 2) := by decide +kernel
theorem dX6_init_57 : decode cX6_init 57 = .ok (.putfield 34, 3) := by decide +kernel
theorem dX6_init_60 : decode cX6_init 60 = .ok (.return_, 1) := by decide +kernel
theorem dX6_become_0 : decode cX6_become 0 = .ok (.aload_n 1, 1) := by decide +kernel
theorem dX6_become_1 : decode cX6_become 1 = .ok (.getfield 9, 3) := by decide +kernel
theorem dX6_become_4 : decode cX6_become 4 = .ok (.iconst 0, 1) := by decide +kernel
theorem dX6_become_5 : decode cX6_become 5 = .ok (.aload_n 0, 1) := by decide +kernel
theorem dX6_become_6 : decode cX6_become 6 = .ok (.getfield 9, 3) := by decide +kernel
theorem dX6_become_9 : decode cX6_become 9 = .ok (.iconst 0, 1) := by decide +kernel
theorem dX6_become_10 : decode cX6_become 10 = .ok (.bipush 10, 2) := by decide +kernel
theorem dX6_become_12 : decode cX6_become 12 = .ok (.invokestatic 37, 3) := by decide +kernel
theorem dX6_become_15 : decode cX6_become 15 = .ok (.aload_n 1, 1) := by decide +kernel
theorem dX6_become_16 : decode cX6_become 16 = .ok (.getfield 15, 3) := by decide +kernel
theorem dX6_become_19 : decode cX6_become 19 = .ok (.iconst 0, 1) := by decide +kernel
theorem dX6_become_20 : decode cX6_become 20 = .ok (.aload_n 0, 1) := by decide +kernel
theorem dX6_become_21 : decode cX6_become 21 = .ok (.getfield 15, 3) := by decide +kernel
theorem dX6_become_24 : decode cX6_become 24 = .ok (.iconst 0, 1) := by decide +kernel
theorem dX6_become_25 : decode cX6_become 25 = .ok (.bipush 10, 2) := by decide +kernel
theorem dX6_become_27 : decode cX6_become 27 = .ok (.invokestatic 37, 3) := by decide +kernel
theorem dX6_become_30 : decode cX6_become 30 = .ok (.aload_n 1, 1) := by decide +kernel
theorem dX6_become_31 : decode cX6_become 31 = .ok (.getfield 18, 3) := by decide +kernel
theorem dX6_become_34 : decode cX6_become 34 = .ok (.iconst 0, 1) := by decide +kernel
theorem dX6_become_35 : decode cX6_become 35 = .ok (.aload_n 0, 1) := by decide +kernel
theorem dX6_become_36 : decode cX6_become 36 = .ok (.getfield 18, 3) := by decide +kernel
theorem dX6_become_39 : decode cX6_become 39 = .ok (.iconst 0, 1) := by decide +kernel
theorem dX6_become_40 : decode cX6_become 40 = .ok (.bipush 10, 2) := by decide +kernel
theorem dX6_become_42 : decode cX6_become 42 = .ok (.invokestatic 37, 3) := by decide +kernel
theorem dX6_become_45 : decode cX6_become 45 = .ok (.aload_n 1, 1) := by decide +kernel
theorem dX6_become_46 : decode cX6_become 46 = .ok (.getfield 21, 3) := by decide +kernel
theorem dX6_become_49 : decode cX6_become 49 = .ok (.iconst 0, 1) := by decide +kernel
theorem dX6_become_50 : decode cX6_become 50 = .ok (.aload_n 0, 1) := by decide +kernel
theorem dX6_become_51 : decode cX6_become 51 = .ok (.getfield 21, 3) := by decide +kernel
theorem dX6_become_54 : decode cX6_become 54 = .ok (.iconst 0, 1) := by decide +kernel
theorem dX6_become_55 : decode cX6_become 55 = .ok (.bipush 10, 2) := by decide +kernel
theorem dX6_become_57 : decode cX6_become 57 = .ok (.invokestatic 37, 3) := by decide +kernel
theorem dX6_become_60 : decode cX6_become 60 = .ok (.aload_n 1, 1) := by decide +kernel
theorem dX6_become_61 : decode cX6_become 61 = .ok (.getfield 24, 3) := by decide +kernel
theorem dX6_become_64 : decode cX6_become 64 = .ok (.iconst 0, 1) := by decide +kernel
theorem dX6_become_65 : decode cX6_become 65 = .ok (.aload_n 0, 1) := by decide +kernel
theorem dX6_become_66 : decode cX6_become 66 = .ok (.getfield 24, 3) := by decide +kernel
theorem dX6_become_69 : decode cX6_become 69 = .ok (.iconst 0, 1) := by decide +kernel
theorem dX6_become_70 : decode cX6_become 70 = .ok (.bipush 12, 2) := by decide +kernel
theorem dX6_become_72 : decode cX6_become 72 = .ok (.invokestatic 37, 3) := by decide +kernel
theorem dX6_become_75 : decode cX6_become 75 = .ok (.aload_n 0, 1) := by decide +kernel
theorem dX6_become_76 : decode cX6_become 76 = .ok (.aload_n 1, 1) := by decide +kernel
theorem dX6_become_77 : decode cX6_become 77 = .ok (.getfield 27, 3) := by decide +kernel
theorem dX6_become_80 : decode cX6_become 80 = .ok (.putfield 27, 3) := by decide +kernel
theorem dX6_become_83 : decode cX6_become 83 = .ok (.aload_n 0, 1) := by decide +kernel
theorem dX6_become_84 : decode cX6_become 84 = .ok (.aload_n 1, 1) := by decide +kernel
theorem dX6_become_85 : decode cX6_become 85 = .ok (.getfield 31, 3) := by decide +kernel
theorem dX6_become_88 : decode cX6_become 88 = .ok (.putfield 31, 3) := by decide +kernel
theorem dX6_become_91 : decode cX6_become 91 = .ok (.aload_n 0, 1) := by decide +kernel
theorem dX6_become_92 : decode cX6_become 92 = .ok (.aload_n 1, 1) := by decide +kernel
theorem dX6_become_93 : decode cX6_become 93 = .ok (.getfield 34, 3) := by decide +kernel
theorem dX6_become_96 : decode cX6_become 96 = .ok (.putfield 34, 3) := by decide +kernel
theorem dX6_become_99 : decode cX6_become 99 = .ok (.return_, 1) := by decide +kernel
theorem dX6_addOne_0 : decode cX6_addOne 0 = .ok (.aload_n 0, 1) := by decide +kernel
theorem dX6_addOne_1 : decode cX6_addOne 1 = .ok (.getfield 27, 3) := by decide +kernel
theorem dX6_addOne_4 : decode cX6_addOne 4 = .ok (.ifCond .lt 12, 3) := by decide +kernel
theorem dX6_addOne_7 : decode cX6_addOne 7 = .ok (.aload_n 0, 1) := by decide +kernel
theorem dX6_addOne_8 : decode cX6_addOne 8 = .ok (.getfield 27, 3) := by decide +kernel
theorem dX6_addOne_11 : decode cX6_addOne 11 = .ok (.bipush 10, 2) := by decide +kernel
theorem dX6_addOne_13 : decode cX6_addOne 13 = .ok (.if_icmp .lt 6, 3) := by decide +kernel
theorem dX6_addOne_16 : decode cX6_addOne 16 = .ok (.bipush (-3), 2) := by decide +kernel
theorem dX6_addOne_18 : decode cX6_addOne 18 = .ok (.ireturn, 1) := by decide +kernel
theorem dX6_addOne_19 : decode cX6_addOne 19 = .ok (.aload_n 0, 1) := by decide +kernel
theorem dX6_addOne_20 : decode cX6_addOne 20 = .ok (.getfield 9, 3) := by decide +kernel
theorem dX6_addOne_23 : decode cX6_addOne 23 = .ok (.aload_n 0, 1) := by decide +kernel
theorem dX6_addOne_24 : decode cX6_addOne 24 = .ok (.getfield 27, 3) := by decide +kernel
theorem dX6_addOne_27 : decode cX6_addOne 27 = .ok (.iload_n 1, 1) := by decide +kernel
theorem dX6_addOne_28 : decode cX6_addOne 28 = .ok (.iastore, 1) := by decide +kernel
theorem dX6_addOne_29 : decode cX6_addOne 29 = .ok (.aload_n 0, 1) := by decide +kernel
theorem dX6_addOne_30 : decode cX6_addOne 30 = .ok (.getfield 15, 3) := by decide +kernel
theorem dX6_addOne_33 : decode cX6_addOne 33 = .ok (.aload_n 0, 1) := by decide +kernel
theorem dX6_addOne_34 : decode cX6_addOne 34 = .ok (.getfield 27, 3) := by decide +kernel
theorem dX6_addOne_37 : decode cX6_addOne 37 = .ok (.iload_n 2, 1) := by decide +kernel
theorem dX6_addOne_38 : decode cX6_addOne 38 = .ok (.iastore, 1) := by decide +kernel
theorem dX6_addOne_39 : decode cX6_addOne 39 = .ok (.aload_n 0, 1) := by decide +kernel
theorem dX6_addOne_40 : decode cX6_addOne 40 = .ok (.getfield 18, 3) := by decide +kernel
theorem dX6_addOne_43 : decode cX6_addOne 43 = .ok (.aload_n 0, 1) := by decide +kernel
theorem dX6_addOne_44 : decode cX6_addOne 44 = .ok (.getfield 27, 3) := by decide +kernel
theorem dX6_addOne_47 : decode cX6_addOne 47 = .ok (.bipush 12, 2) := by decide +kernel
theorem dX6_addOne_49 : decode cX6_addOne 49 = .ok (.iastore, 1) := by decide +kernel
theorem dX6_addOne_50 : decode cX6_addOne 50 = .ok (.aload_n 0, 1) := by decide +kernel
theorem dX6_addOne_51 : decode cX6_addOne 51 = .ok (.getfield 21, 3) := by decide +kernel
theorem dX6_addOne_54 : decode cX6_addOne 54 = .ok (.aload_n 0, 1) := by decide +kernel
theorem dX6_addOne_55 : decode cX6_addOne 55 = .ok (.getfield 27, 3) := by decide +kernel
theorem dX6_addOne_58 : decode cX6_addOne 58 = .ok (.iconst 0, 1) := by decide +kernel
theorem dX6_addOne_59 : decode cX6_addOne 59 = .ok (.iastore, 1) := by decide +kernel
theorem dX6_addOne_60 : decode cX6_addOne 60 = .ok (.aload_n 0, 1) := by decide +kernel
theorem dX6_addOne_61 : decode cX6_addOne 61 = .ok (.dup, 1) := by decide +kernel
theorem dX6_addOne_62 : decode cX6_addOne 62 = .ok (.getfield 27, 3) := by decide +kernel
theorem dX6_addOne_65 : decode cX6_addOne 65 = .ok (.iconst 1, 1) := by decide +kernel
theorem dX6_addOne_66 : decode cX6_addOne 66 = .ok (.iadd, 1) := by decide +kernel
theorem dX6_addOne_67 : decode cX6_addOne 67 = .ok (.putfield 27, 3) := by decide +kernel
theorem dX6_addOne_70 : decode cX6_addOne 70 = .ok (.aload_n 0, 1) := by decide +kernel
theorem dX6_addOne_71 : decode cX6_addOne 71 = .ok (.getfield 27, 3) := by decide +kernel
theorem dX6_addOne_74 : decode cX6_addOne 74 = .ok (.iconst 1, 1) := by decide +kernel
theorem dX6_addOne_75 : decode cX6_addOne 75 = .ok (.isub, 1) := by decide +kernel
theorem dX6_addOne_76 : decode cX6_addOne 76 = .ok (.ireturn, 1) := by decide +kernel
theorem dX6_has_0 : decode cX6_has 0 = .ok (.iload_n 1, 1) := by decide +kernel
theorem dX6_has_1 : decode cX6_has 1 = .ok (.ifCond .lt 15, 3) := by decide +kernel
theorem dX6_has_4 : decode cX6_has 4 = .ok (.iload_n 1, 1) := by decide +kernel
theorem dX6_has_5 : decode cX6_has 5 = .ok (.aload_n 0, 1) := by decide +kernel
theorem dX6_has_6 : decode cX6_has 6 = .ok (.getfield 27, 3) := by decide +kernel
theorem dX6_has_9 : decode cX6_has 9 = .ok (.if_icmp .ge 7, 3) := by decide +kernel
theorem dX6_has_12 : decode cX6_has 12 = .ok (.iconst 1, 1) := by decide +kernel
theorem dX6_has_13 : decode cX6_has 13 = .ok (.goto 4, 3) := by decide +kernel
theorem dX6_has_16 : decode cX6_has 16 = .ok (.iconst 0, 1) := by decide +kernel
theorem dX6_has_17 : decode cX6_has 17 = .ok (.ireturn, 1) := by decide +kernel
theorem dX6_waits_0 : decode cX6_waits 0 = .ok (.aload_n 0, 1) := by decide +kernel
theorem dX6_waits_1 : decode cX6_waits 1 = .ok (.iload_n 1, 1) := by decide +kernel
theorem dX6_waits_2 : decode cX6_waits 2 = .ok (.invokevirtual 43, 3) := by decide +kernel
theorem dX6_waits_5 : decode cX6_waits 5 = .ok (.ifCond .eq 18, 3) := by decide +kernel
theorem dX6_waits_8 : decode cX6_waits 8 = .ok (.aload_n 0, 1) := by decide +kernel
theorem dX6_waits_9 : decode cX6_waits 9 = .ok (.getfield 18, 3) := by decide +kernel
theorem dX6_waits_12 : decode cX6_waits 12 = .ok (.iload_n 1, 1) := by decide +kernel
theorem dX6_waits_13 : decode cX6_waits 13 = .ok (.iaload, 1) := by decide +kernel
theorem dX6_waits_14 : decode cX6_waits 14 = .ok (.bipush 12, 2) := by decide +kernel
theorem dX6_waits_16 : decode cX6_waits 16 = .ok (.if_icmp .ne 7, 3) := by decide +kernel
theorem dX6_waits_19 : decode cX6_waits 19 = .ok (.iconst 1, 1) := by decide +kernel
theorem dX6_waits_20 : decode cX6_waits 20 = .ok (.goto 4, 3) := by decide +kernel
theorem dX6_waits_23 : decode cX6_waits 23 = .ok (.iconst 0, 1) := by decide +kernel
theorem dX6_waits_24 : decode cX6_waits 24 = .ok (.ireturn, 1) := by decide +kernel
theorem dX6_ridesAtFoot_0 : decode cX6_ridesAtFoot 0 = .ok (.aload_n 0, 1) := by decide +kernel
theorem dX6_ridesAtFoot_1 : decode cX6_ridesAtFoot 1 = .ok (.iload_n 1, 1) := by decide +kernel
theorem dX6_ridesAtFoot_2 : decode cX6_ridesAtFoot 2 = .ok (.invokevirtual 43, 3) := by decide +kernel
theorem dX6_ridesAtFoot_5 : decode cX6_ridesAtFoot 5 = .ok (.ifCond .eq 20, 3) := by decide +kernel
theorem dX6_ridesAtFoot_8 : decode cX6_ridesAtFoot 8 = .ok (.aload_n 0, 1) := by decide +kernel
theorem dX6_ridesAtFoot_9 : decode cX6_ridesAtFoot 9 = .ok (.getfield 18, 3) := by decide +kernel
theorem dX6_ridesAtFoot_12 : decode cX6_ridesAtFoot 12 = .ok (.iload_n 1, 1) := by decide +kernel
theorem dX6_ridesAtFoot_13 : decode cX6_ridesAtFoot 13 = .ok (.iaload, 1) := by decide +kernel
theorem dX6_ridesAtFoot_14 : decode cX6_ridesAtFoot 14 = .ok (.aload_n 0, 1) := by decide +kernel
theorem dX6_ridesAtFoot_15 : decode cX6_ridesAtFoot 15 = .ok (.invokevirtual 47, 3) := by decide +kernel
theorem dX6_ridesAtFoot_18 : decode cX6_ridesAtFoot 18 = .ok (.if_icmp .ne 7, 3) := by decide +kernel
theorem dX6_ridesAtFoot_21 : decode cX6_ridesAtFoot 21 = .ok (.iconst 1, 1) := by decide +kernel
theorem dX6_ridesAtFoot_22 : decode cX6_ridesAtFoot 22 = .ok (.goto 4, 3) := by decide +kernel
theorem dX6_ridesAtFoot_25 : decode cX6_ridesAtFoot 25 = .ok (.iconst 0, 1) := by decide +kernel
theorem dX6_ridesAtFoot_26 : decode cX6_ridesAtFoot 26 = .ok (.ireturn, 1) := by decide +kernel
theorem dX6_foot_0 : decode cX6_foot 0 = .ok (.aload_n 0, 1) := by decide +kernel
theorem dX6_foot_1 : decode cX6_foot 1 = .ok (.getfield 31, 3) := by decide +kernel
theorem dX6_foot_4 : decode cX6_foot 4 = .ok (.bipush 12, 2) := by decide +kernel
theorem dX6_foot_6 : decode cX6_foot 6 = .ok (.irem, 1) := by decide +kernel
theorem dX6_foot_7 : decode cX6_foot 7 = .ok (.ireturn, 1) := by decide +kernel
theorem dX6_whoIsAt_0 : decode cX6_whoIsAt 0 = .ok (.iconst 0, 1) := by decide +kernel
theorem dX6_whoIsAt_1 : decode cX6_whoIsAt 1 = .ok (.istore_n 2, 1) := by decide +kernel
theorem dX6_whoIsAt_2 : decode cX6_whoIsAt 2 = .ok (.iconst 0, 1) := by decide +kernel
theorem dX6_whoIsAt_3 : decode cX6_whoIsAt 3 = .ok (.istore_n 3, 1) := by decide +kernel
theorem dX6_whoIsAt_4 : decode cX6_whoIsAt 4 = .ok (.iload_n 3, 1) := by decide +kernel
theorem dX6_whoIsAt_5 : decode cX6_whoIsAt 5 = .ok (.aload_n 0, 1) := by decide +kernel
theorem dX6_whoIsAt_6 : decode cX6_whoIsAt 6 = .ok (.getfield 27, 3) := by decide +kernel
theorem dX6_whoIsAt_9 : decode cX6_whoIsAt 9 = .ok (.if_icmp .ge 25, 3) := by decide +kernel
theorem dX6_whoIsAt_12 : decode cX6_whoIsAt 12 = .ok (.aload_n 0, 1) := by decide +kernel
theorem dX6_whoIsAt_13 : decode cX6_whoIsAt 13 = .ok (.getfield 18, 3) := by decide +kernel
theorem dX6_whoIsAt_16 : decode cX6_whoIsAt 16 = .ok (.iload_n 3, 1) := by decide +kernel
theorem dX6_whoIsAt_17 : decode cX6_whoIsAt 17 = .ok (.iaload, 1) := by decide +kernel
theorem dX6_whoIsAt_18 : decode cX6_whoIsAt 18 = .ok (.iload_n 1, 1) := by decide +kernel
theorem dX6_whoIsAt_19 : decode cX6_whoIsAt 19 = .ok (.if_icmp .ne 9, 3) := by decide +kernel
theorem dX6_whoIsAt_22 : decode cX6_whoIsAt 22 = .ok (.iload_n 2, 1) := by decide +kernel
theorem dX6_whoIsAt_23 : decode cX6_whoIsAt 23 = .ok (.iconst 1, 1) := by decide +kernel
theorem dX6_whoIsAt_24 : decode cX6_whoIsAt 24 = .ok (.iload_n 3, 1) := by decide +kernel
theorem dX6_whoIsAt_25 : decode cX6_whoIsAt 25 = .ok (.ishl, 1) := by decide +kernel
theorem dX6_whoIsAt_26 : decode cX6_whoIsAt 26 = .ok (.ior, 1) := by decide +kernel
theorem dX6_whoIsAt_27 : decode cX6_whoIsAt 27 = .ok (.istore_n 2, 1) := by decide +kernel
theorem dX6_whoIsAt_28 : decode cX6_whoIsAt 28 = .ok (.iinc 3 1, 3) := by decide +kernel
theorem dX6_whoIsAt_31 : decode cX6_whoIsAt 31 = .ok (.goto (-27), 3) := by decide +kernel
theorem dX6_whoIsAt_34 : decode cX6_whoIsAt 34 = .ok (.iload_n 2, 1) := by decide +kernel
theorem dX6_whoIsAt_35 : decode cX6_whoIsAt 35 = .ok (.ireturn, 1) := by decide +kernel
theorem dX6_whoRides_0 : decode cX6_whoRides 0 = .ok (.iconst 0, 1) := by decide +kernel
theorem dX6_whoRides_1 : decode cX6_whoRides 1 = .ok (.istore_n 1, 1) := by decide +kernel
theorem dX6_whoRides_2 : decode cX6_whoRides 2 = .ok (.iconst 0, 1) := by decide +kernel
theorem dX6_whoRides_3 : decode cX6_whoRides 3 = .ok (.istore_n 2, 1) := by decide +kernel
theorem dX6_whoRides_4 : decode cX6_whoRides 4 = .ok (.iload_n 2, 1) := by decide +kernel
theorem dX6_whoRides_5 : decode cX6_whoRides 5 = .ok (.aload_n 0, 1) := by decide +kernel
theorem dX6_whoRides_6 : decode cX6_whoRides 6 = .ok (.getfield 27, 3) := by decide +kernel
theorem dX6_whoRides_9 : decode cX6_whoRides 9 = .ok (.if_icmp .ge 26, 3) := by decide +kernel
theorem dX6_whoRides_12 : decode cX6_whoRides 12 = .ok (.aload_n 0, 1) := by decide +kernel
theorem dX6_whoRides_13 : decode cX6_whoRides 13 = .ok (.getfield 18, 3) := by decide +kernel
theorem dX6_whoRides_16 : decode cX6_whoRides 16 = .ok (.iload_n 2, 1) := by decide +kernel
theorem dX6_whoRides_17 : decode cX6_whoRides 17 = .ok (.iaload, 1) := by decide +kernel
theorem dX6_whoRides_18 : decode cX6_whoRides 18 = .ok (.bipush 12, 2) := by decide +kernel
theorem dX6_whoRides_20 : decode cX6_whoRides 20 = .ok (.if_icmp .ge 9, 3) := by decide +kernel
theorem dX6_whoRides_23 : decode cX6_whoRides 23 = .ok (.iload_n 1, 1) := by decide +kernel
theorem dX6_whoRides_24 : decode cX6_whoRides 24 = .ok (.iconst 1, 1) := by decide +kernel
theorem dX6_whoRides_25 : decode cX6_whoRides 25 = .ok (.iload_n 2, 1) := by decide +kernel
theorem dX6_whoRides_26 : decode cX6_whoRides 26 = .ok (.ishl, 1) := by decide +kernel
theorem dX6_whoRides_27 : decode cX6_whoRides 27 = .ok (.ior, 1) := by decide +kernel
theorem dX6_whoRides_28 : decode cX6_whoRides 28 = .ok (.istore_n 1, 1) := by decide +kernel
theorem dX6_whoRides_29 : decode cX6_whoRides 29 = .ok (.iinc 2 1, 3) := by decide +kernel
theorem dX6_whoRides_32 : decode cX6_whoRides 32 = .ok (.goto (-28), 3) := by decide +kernel
theorem dX6_whoRides_35 : decode cX6_whoRides 35 = .ok (.iload_n 1, 1) := by decide +kernel
theorem dX6_whoRides_36 : decode cX6_whoRides 36 = .ok (.ireturn, 1) := by decide +kernel
theorem dX6_weightOf_0 : decode cX6_weightOf 0 = .ok (.iconst 0, 1) := by decide +kernel
theorem dX6_weightOf_1 : decode cX6_weightOf 1 = .ok (.istore_n 2, 1) := by decide +kernel
theorem dX6_weightOf_2 : decode cX6_weightOf 2 = .ok (.iconst 0, 1) := by decide +kernel
theorem dX6_weightOf_3 : decode cX6_weightOf 3 = .ok (.istore_n 3, 1) := by decide +kernel
theorem dX6_weightOf_4 : decode cX6_weightOf 4 = .ok (.iload_n 3, 1) := by decide +kernel
theorem dX6_weightOf_5 : decode cX6_weightOf 5 = .ok (.aload_n 0, 1) := by decide +kernel
theorem dX6_weightOf_6 : decode cX6_weightOf 6 = .ok (.getfield 27, 3) := by decide +kernel
theorem dX6_weightOf_9 : decode cX6_weightOf 9 = .ok (.if_icmp .ge 26, 3) := by decide +kernel
theorem dX6_weightOf_12 : decode cX6_weightOf 12 = .ok (.iload_n 1, 1) := by decide +kernel
theorem dX6_weightOf_13 : decode cX6_weightOf 13 = .ok (.iload_n 3, 1) := by decide +kernel
theorem dX6_weightOf_14 : decode cX6_weightOf 14 = .ok (.ishr, 1) := by decide +kernel
theorem dX6_weightOf_15 : decode cX6_weightOf 15 = .ok (.iconst 1, 1) := by decide +kernel
theorem dX6_weightOf_16 : decode cX6_weightOf 16 = .ok (.iand, 1) := by decide +kernel
theorem dX6_weightOf_17 : decode cX6_weightOf 17 = .ok (.ifCond .eq 12, 3) := by decide +kernel
theorem dX6_weightOf_20 : decode cX6_weightOf 20 = .ok (.iload_n 2, 1) := by decide +kernel
theorem dX6_weightOf_21 : decode cX6_weightOf 21 = .ok (.aload_n 0, 1) := by decide +kernel
theorem dX6_weightOf_22 : decode cX6_weightOf 22 = .ok (.getfield 15, 3) := by decide +kernel
theorem dX6_weightOf_25 : decode cX6_weightOf 25 = .ok (.iload_n 3, 1) := by decide +kernel
theorem dX6_weightOf_26 : decode cX6_weightOf 26 = .ok (.iaload, 1) := by decide +kernel
theorem dX6_weightOf_27 : decode cX6_weightOf 27 = .ok (.iadd, 1) := by decide +kernel
theorem dX6_weightOf_28 : decode cX6_weightOf 28 = .ok (.istore_n 2, 1) := by decide +kernel
theorem dX6_weightOf_29 : decode cX6_weightOf 29 = .ok (.iinc 3 1, 3) := by decide +kernel
theorem dX6_weightOf_32 : decode cX6_weightOf 32 = .ok (.goto (-28), 3) := by decide +kernel
theorem dX6_weightOf_35 : decode cX6_weightOf 35 = .ok (.iload_n 2, 1) := by decide +kernel
theorem dX6_weightOf_36 : decode cX6_weightOf 36 = .ok (.ireturn, 1) := by decide +kernel
theorem dX6_loadOf_0 : decode cX6_loadOf 0 = .ok (.aload_n 0, 1) := by decide +kernel
theorem dX6_loadOf_1 : decode cX6_loadOf 1 = .ok (.getfield 24, 3) := by decide +kernel
theorem dX6_loadOf_4 : decode cX6_loadOf 4 = .ok (.iload_n 1, 1) := by decide +kernel
theorem dX6_loadOf_5 : decode cX6_loadOf 5 = .ok (.iaload, 1) := by decide +kernel
theorem dX6_loadOf_6 : decode cX6_loadOf 6 = .ok (.aload_n 0, 1) := by decide +kernel
theorem dX6_loadOf_7 : decode cX6_loadOf 7 = .ok (.aload_n 0, 1) := by decide +kernel
theorem dX6_loadOf_8 : decode cX6_loadOf 8 = .ok (.iload_n 1, 1) := by decide +kernel
theorem dX6_loadOf_9 : decode cX6_loadOf 9 = .ok (.invokevirtual 51, 3) := by decide +kernel
theorem dX6_loadOf_12 : decode cX6_loadOf 12 = .ok (.invokevirtual 55, 3) := by decide +kernel
theorem dX6_loadOf_15 : decode cX6_loadOf 15 = .ok (.iadd, 1) := by decide +kernel
theorem dX6_loadOf_16 : decode cX6_loadOf 16 = .ok (.ireturn, 1) := by decide +kernel
theorem dX6_sandTogether_0 : decode cX6_sandTogether 0 = .ok (.iconst 0, 1) := by decide +kernel
theorem dX6_sandTogether_1 : decode cX6_sandTogether 1 = .ok (.istore_n 1, 1) := by decide +kernel
theorem dX6_sandTogether_2 : decode cX6_sandTogether 2 = .ok (.iconst 0, 1) := by decide +kernel
theorem dX6_sandTogether_3 : decode cX6_sandTogether 3 = .ok (.istore_n 2, 1) := by decide +kernel
theorem dX6_sandTogether_4 : decode cX6_sandTogether 4 = .ok (.iload_n 2, 1) := by decide +kernel
theorem dX6_sandTogether_5 : decode cX6_sandTogether 5 = .ok (.bipush 12, 2) := by decide +kernel
theorem dX6_sandTogether_7 : decode cX6_sandTogether 7 = .ok (.if_icmp .ge 18, 3) := by decide +kernel
theorem dX6_sandTogether_10 : decode cX6_sandTogether 10 = .ok (.iload_n 1, 1) := by decide +kernel
theorem dX6_sandTogether_11 : decode cX6_sandTogether 11 = .ok (.aload_n 0, 1) := by decide +kernel
theorem dX6_sandTogether_12 : decode cX6_sandTogether 12 = .ok (.getfield 24, 3) := by decide +kernel
theorem dX6_sandTogether_15 : decode cX6_sandTogether 15 = .ok (.iload_n 2, 1) := by decide +kernel
theorem dX6_sandTogether_16 : decode cX6_sandTogether 16 = .ok (.iaload, 1) := by decide +kernel
theorem dX6_sandTogether_17 : decode cX6_sandTogether 17 = .ok (.iadd, 1) := by decide +kernel
theorem dX6_sandTogether_18 : decode cX6_sandTogether 18 = .ok (.istore_n 1, 1) := by decide +kernel
theorem dX6_sandTogether_19 : decode cX6_sandTogether 19 = .ok (.iinc 2 1, 3) := by decide +kernel
theorem dX6_sandTogether_22 : decode cX6_sandTogether 22 = .ok (.goto (-18), 3) := by decide +kernel
theorem dX6_sandTogether_25 : decode cX6_sandTogether 25 = .ok (.iload_n 1, 1) := by decide +kernel
theorem dX6_sandTogether_26 : decode cX6_sandTogether 26 = .ok (.ireturn, 1) := by decide +kernel
theorem dX6_seatsOf_0 : decode cX6_seatsOf 0 = .ok (.iconst 0, 1) := by decide +kernel
theorem dX6_seatsOf_1 : decode cX6_seatsOf 1 = .ok (.istore_n 2, 1) := by decide +kernel
theorem dX6_seatsOf_2 : decode cX6_seatsOf 2 = .ok (.iconst 0, 1) := by decide +kernel
theorem dX6_seatsOf_3 : decode cX6_seatsOf 3 = .ok (.istore_n 3, 1) := by decide +kernel
theorem dX6_seatsOf_4 : decode cX6_seatsOf 4 = .ok (.iload_n 3, 1) := by decide +kernel
theorem dX6_seatsOf_5 : decode cX6_seatsOf 5 = .ok (.aload_n 0, 1) := by decide +kernel
theorem dX6_seatsOf_6 : decode cX6_seatsOf 6 = .ok (.getfield 27, 3) := by decide +kernel
theorem dX6_seatsOf_9 : decode cX6_seatsOf 9 = .ok (.if_icmp .ge 30, 3) := by decide +kernel
theorem dX6_seatsOf_12 : decode cX6_seatsOf 12 = .ok (.iload_n 1, 1) := by decide +kernel
theorem dX6_seatsOf_13 : decode cX6_seatsOf 13 = .ok (.iload_n 3, 1) := by decide +kernel
theorem dX6_seatsOf_14 : decode cX6_seatsOf 14 = .ok (.ishr, 1) := by decide +kernel
theorem dX6_seatsOf_15 : decode cX6_seatsOf 15 = .ok (.iconst 1, 1) := by decide +kernel
theorem dX6_seatsOf_16 : decode cX6_seatsOf 16 = .ok (.iand, 1) := by decide +kernel
theorem dX6_seatsOf_17 : decode cX6_seatsOf 17 = .ok (.ifCond .eq 16, 3) := by decide +kernel
theorem dX6_seatsOf_20 : decode cX6_seatsOf 20 = .ok (.iload_n 2, 1) := by decide +kernel
theorem dX6_seatsOf_21 : decode cX6_seatsOf 21 = .ok (.getstatic 58, 3) := by decide +kernel
theorem dX6_seatsOf_24 : decode cX6_seatsOf 24 = .ok (.aload_n 0, 1) := by decide +kernel
theorem dX6_seatsOf_25 : decode cX6_seatsOf 25 = .ok (.getfield 9, 3) := by decide +kernel
theorem dX6_seatsOf_28 : decode cX6_seatsOf 28 = .ok (.iload_n 3, 1) := by decide +kernel
theorem dX6_seatsOf_29 : decode cX6_seatsOf 29 = .ok (.iaload, 1) := by decide +kernel
theorem dX6_seatsOf_30 : decode cX6_seatsOf 30 = .ok (.iaload, 1) := by decide +kernel
theorem dX6_seatsOf_31 : decode cX6_seatsOf 31 = .ok (.iadd, 1) := by decide +kernel
theorem dX6_seatsOf_32 : decode cX6_seatsOf 32 = .ok (.istore_n 2, 1) := by decide +kernel
theorem dX6_seatsOf_33 : decode cX6_seatsOf 33 = .ok (.iinc 3 1, 3) := by decide +kernel
theorem dX6_seatsOf_36 : decode cX6_seatsOf 36 = .ok (.goto (-32), 3) := by decide +kernel
theorem dX6_seatsOf_39 : decode cX6_seatsOf 39 = .ok (.iload_n 2, 1) := by decide +kernel
theorem dX6_seatsOf_40 : decode cX6_seatsOf 40 = .ok (.ireturn, 1) := by decide +kernel
theorem dX6_fitTogether_0 : decode cX6_fitTogether 0 = .ok (.iconst 0, 1) := by decide +kernel
theorem dX6_fitTogether_1 : decode cX6_fitTogether 1 = .ok (.istore_n 2, 1) := by decide +kernel
theorem dX6_fitTogether_2 : decode cX6_fitTogether 2 = .ok (.iconst 0, 1) := by decide +kernel
theorem dX6_fitTogether_3 : decode cX6_fitTogether 3 = .ok (.istore_n 3, 1) := by decide +kernel
theorem dX6_fitTogether_4 : decode cX6_fitTogether 4 = .ok (.iconst 0, 1) := by decide +kernel
theorem dX6_fitTogether_5 : decode cX6_fitTogether 5 = .ok (.istore 4, 2) := by decide +kernel
theorem dX6_fitTogether_7 : decode cX6_fitTogether 7 = .ok (.iconst 0, 1) := by decide +kernel
theorem dX6_fitTogether_8 : decode cX6_fitTogether 8 = .ok (.istore 5, 2) := by decide +kernel
theorem dX6_fitTogether_10 : decode cX6_fitTogether 10 = .ok (.iconst 0, 1) := by decide +kernel
theorem dX6_fitTogether_11 : decode cX6_fitTogether 11 = .ok (.istore 6, 2) := by decide +kernel
theorem dX6_fitTogether_13 : decode cX6_fitTogether 13 = .ok (.iload 6, 2) := by decide +kernel
theorem dX6_fitTogether_15 : decode cX6_fitTogether 15 = .ok (.aload_n 0, 1) := by decide +kernel
theorem dX6_fitTogether_16 : decode cX6_fitTogether 16 = .ok (.getfield 27, 3) := by decide +kernel
theorem dX6_fitTogether_19 : decode cX6_fitTogether 19 = .ok (.if_icmp .ge 72, 3) := by decide +kernel
theorem dX6_fitTogether_22 : decode cX6_fitTogether 22 = .ok (.iload_n 1, 1) := by decide +kernel
theorem dX6_fitTogether_23 : decode cX6_fitTogether 23 = .ok (.iload 6, 2) := by decide +kernel
theorem dX6_fitTogether_25 : decode cX6_fitTogether 25 = .ok (.ishr, 1) := by decide +kernel
theorem dX6_fitTogether_26 : decode cX6_fitTogether 26 = .ok (.iconst 1, 1) := by decide +kernel
theorem dX6_fitTogether_27 : decode cX6_fitTogether 27 = .ok (.iand, 1) := by decide +kernel
theorem dX6_fitTogether_28 : decode cX6_fitTogether 28 = .ok (.ifCond .ne 6, 3) := by decide +kernel
theorem dX6_fitTogether_31 : decode cX6_fitTogether 31 = .ok (.goto 54, 3) := by decide +kernel
theorem dX6_fitTogether_34 : decode cX6_fitTogether 34 = .ok (.iload_n 2, 1) := by decide +kernel
theorem dX6_fitTogether_35 : decode cX6_fitTogether 35 = .ok (.getstatic 58, 3) := by decide +kernel
theorem dX6_fitTogether_38 : decode cX6_fitTogether 38 = .ok (.aload_n 0, 1) := by decide +kernel
theorem dX6_fitTogether_39 : decode cX6_fitTogether 39 = .ok (.getfield 9, 3) := by decide +kernel
theorem dX6_fitTogether_42 : decode cX6_fitTogether 42 = .ok (.iload 6, 2) := by decide +kernel
theorem dX6_fitTogether_44 : decode cX6_fitTogether 44 = .ok (.iaload, 1) := by decide +kernel
theorem dX6_fitTogether_45 : decode cX6_fitTogether 45 = .ok (.iaload, 1) := by decide +kernel
theorem dX6_fitTogether_46 : decode cX6_fitTogether 46 = .ok (.iadd, 1) := by decide +kernel
theorem dX6_fitTogether_47 : decode cX6_fitTogether 47 = .ok (.istore_n 2, 1) := by decide +kernel
theorem dX6_fitTogether_48 : decode cX6_fitTogether 48 = .ok (.aload_n 0, 1) := by decide +kernel
theorem dX6_fitTogether_49 : decode cX6_fitTogether 49 = .ok (.getfield 9, 3) := by decide +kernel
theorem dX6_fitTogether_52 : decode cX6_fitTogether 52 = .ok (.iload 6, 2) := by decide +kernel
theorem dX6_fitTogether_54 : decode cX6_fitTogether 54 = .ok (.iaload, 1) := by decide +kernel
theorem dX6_fitTogether_55 : decode cX6_fitTogether 55 = .ok (.iconst 1, 1) := by decide +kernel
theorem dX6_fitTogether_56 : decode cX6_fitTogether 56 = .ok (.if_icmp .ne 9, 3) := by decide +kernel
theorem dX6_fitTogether_59 : decode cX6_fitTogether 59 = .ok (.iinc 3 1, 3) := by decide +kernel
theorem dX6_fitTogether_62 : decode cX6_fitTogether 62 = .ok (.goto 23, 3) := by decide +kernel
theorem dX6_fitTogether_65 : decode cX6_fitTogether 65 = .ok (.aload_n 0, 1) := by decide +kernel
theorem dX6_fitTogether_66 : decode cX6_fitTogether 66 = .ok (.getfield 9, 3) := by decide +kernel
theorem dX6_fitTogether_69 : decode cX6_fitTogether 69 = .ok (.iload 6, 2) := by decide +kernel
theorem dX6_fitTogether_71 : decode cX6_fitTogether 71 = .ok (.iaload, 1) := by decide +kernel
theorem dX6_fitTogether_72 : decode cX6_fitTogether 72 = .ok (.iconst 3, 1) := by decide +kernel
theorem dX6_fitTogether_73 : decode cX6_fitTogether 73 = .ok (.if_icmp .ne 9, 3) := by decide +kernel
theorem dX6_fitTogether_76 : decode cX6_fitTogether 76 = .ok (.iinc 4 1, 3) := by decide +kernel
theorem dX6_fitTogether_79 : decode cX6_fitTogether 79 = .ok (.goto 6, 3) := by decide +kernel
theorem dX6_fitTogether_82 : decode cX6_fitTogether 82 = .ok (.iinc 5 1, 3) := by decide +kernel
theorem dX6_fitTogether_85 : decode cX6_fitTogether 85 = .ok (.iinc 6 1, 3) := by decide +kernel
theorem dX6_fitTogether_88 : decode cX6_fitTogether 88 = .ok (.goto (-75), 3) := by decide +kernel
theorem dX6_fitTogether_91 : decode cX6_fitTogether 91 = .ok (.iload_n 3, 1) := by decide +kernel
theorem dX6_fitTogether_92 : decode cX6_fitTogether 92 = .ok (.ifCond .eq 13, 3) := by decide +kernel
theorem dX6_fitTogether_95 : decode cX6_fitTogether 95 = .ok (.iload 5, 2) := by decide +kernel
theorem dX6_fitTogether_97 : decode cX6_fitTogether 97 = .ok (.ifCond .le 12, 3) := by decide +kernel
theorem dX6_fitTogether_100 : decode cX6_fitTogether 100 = .ok (.iload 4, 2) := by decide +kernel
theorem dX6_fitTogether_102 : decode cX6_fitTogether 102 = .ok (.ifCond .ne 7, 3) := by decide +kernel
theorem dX6_fitTogether_105 : decode cX6_fitTogether 105 = .ok (.iconst 1, 1) := by decide +kernel
theorem dX6_fitTogether_106 : decode cX6_fitTogether 106 = .ok (.goto 4, 3) := by decide +kernel
theorem dX6_fitTogether_109 : decode cX6_fitTogether 109 = .ok (.iconst 0, 1) := by decide +kernel
theorem dX6_fitTogether_110 : decode cX6_fitTogether 110 = .ok (.istore 6, 2) := by decide +kernel
theorem dX6_fitTogether_112 : decode cX6_fitTogether 112 = .ok (.iload 6, 2) := by decide +kernel
theorem dX6_fitTogether_114 : decode cX6_fitTogether 114 = .ok (.ifCond .eq 12, 3) := by decide +kernel
theorem dX6_fitTogether_117 : decode cX6_fitTogether 117 = .ok (.iload_n 2, 1) := by decide +kernel
theorem dX6_fitTogether_118 : decode cX6_fitTogether 118 = .ok (.iconst 3, 1) := by decide +kernel
theorem dX6_fitTogether_119 : decode cX6_fitTogether 119 = .ok (.if_icmp .gt 7, 3) := by decide +kernel
theorem dX6_fitTogether_122 : decode cX6_fitTogether 122 = .ok (.iconst 1, 1) := by decide +kernel
theorem dX6_fitTogether_123 : decode cX6_fitTogether 123 = .ok (.goto 4, 3) := by decide +kernel
theorem dX6_fitTogether_126 : decode cX6_fitTogether 126 = .ok (.iconst 0, 1) := by decide +kernel
theorem dX6_fitTogether_127 : decode cX6_fitTogether 127 = .ok (.ireturn, 1) := by decide +kernel
theorem dX6_weighSand_0 : decode cX6_weighSand 0 = .ok (.aload_n 1, 1) := by decide +kernel
theorem dX6_weighSand_1 : decode cX6_weighSand 1 = .ok (.invokevirtual 61, 3) := by decide +kernel
theorem dX6_weighSand_4 : decode cX6_weighSand 4 = .ok (.iconst 0, 1) := by decide +kernel
theorem dX6_weighSand_5 : decode cX6_weighSand 5 = .ok (.istore_n 2, 1) := by decide +kernel
theorem dX6_weighSand_6 : decode cX6_weighSand 6 = .ok (.iload_n 2, 1) := by decide +kernel
theorem dX6_weighSand_7 : decode cX6_weighSand 7 = .ok (.bipush 12, 2) := by decide +kernel
theorem dX6_weighSand_9 : decode cX6_weighSand 9 = .ok (.if_icmp .ge 20, 3) := by decide +kernel
theorem dX6_weighSand_12 : decode cX6_weighSand 12 = .ok (.aload_n 1, 1) := by decide +kernel
theorem dX6_weighSand_13 : decode cX6_weighSand 13 = .ok (.iload_n 2, 1) := by decide +kernel
theorem dX6_weighSand_14 : decode cX6_weighSand 14 = .ok (.aload_n 0, 1) := by decide +kernel
theorem dX6_weighSand_15 : decode cX6_weighSand 15 = .ok (.getfield 24, 3) := by decide +kernel
theorem dX6_weighSand_18 : decode cX6_weighSand 18 = .ok (.iload_n 2, 1) := by decide +kernel
theorem dX6_weighSand_19 : decode cX6_weighSand 19 = .ok (.iaload, 1) := by decide +kernel
theorem dX6_weighSand_20 : decode cX6_weighSand 20 = .ok (.invokevirtual 66, 3) := by decide +kernel
theorem dX6_weighSand_23 : decode cX6_weighSand 23 = .ok (.iinc 2 1, 3) := by decide +kernel
theorem dX6_weighSand_26 : decode cX6_weighSand 26 = .ok (.goto (-20), 3) := by decide +kernel
theorem dX6_weighSand_29 : decode cX6_weighSand 29 = .ok (.return_, 1) := by decide +kernel
theorem dX6_weighRiders_0 : decode cX6_weighRiders 0 = .ok (.aload_n 1, 1) := by decide +kernel
theorem dX6_weighRiders_1 : decode cX6_weighRiders 1 = .ok (.invokevirtual 61, 3) := by decide +kernel
theorem dX6_weighRiders_4 : decode cX6_weighRiders 4 = .ok (.aload_n 0, 1) := by decide +kernel
theorem dX6_weighRiders_5 : decode cX6_weighRiders 5 = .ok (.aload_n 0, 1) := by decide +kernel
theorem dX6_weighRiders_6 : decode cX6_weighRiders 6 = .ok (.invokevirtual 70, 3) := by decide +kernel
theorem dX6_weighRiders_9 : decode cX6_weighRiders 9 = .ok (.aload_n 1, 1) := by decide +kernel
theorem dX6_weighRiders_10 : decode cX6_weighRiders 10 = .ok (.invokevirtual 73, 3) := by decide +kernel
theorem dX6_weighRiders_13 : decode cX6_weighRiders 13 = .ok (.return_, 1) := by decide +kernel
theorem dX6_weighAll_0 : decode cX6_weighAll 0 = .ok (.aload_n 0, 1) := by decide +kernel
theorem dX6_weighAll_1 : decode cX6_weighAll 1 = .ok (.aload_n 1, 1) := by decide +kernel
theorem dX6_weighAll_2 : decode cX6_weighAll 2 = .ok (.invokevirtual 77, 3) := by decide +kernel
theorem dX6_weighAll_5 : decode cX6_weighAll 5 = .ok (.aload_n 0, 1) := by decide +kernel
theorem dX6_weighAll_6 : decode cX6_weighAll 6 = .ok (.aload_n 0, 1) := by decide +kernel
theorem dX6_weighAll_7 : decode cX6_weighAll 7 = .ok (.invokevirtual 70, 3) := by decide +kernel
theorem dX6_weighAll_10 : decode cX6_weighAll 10 = .ok (.aload_n 1, 1) := by decide +kernel
theorem dX6_weighAll_11 : decode cX6_weighAll 11 = .ok (.invokevirtual 73, 3) := by decide +kernel
theorem dX6_weighAll_14 : decode cX6_weighAll 14 = .ok (.return_, 1) := by decide +kernel
theorem dX6_hangThese_0 : decode cX6_hangThese 0 = .ok (.iconst 0, 1) := by decide +kernel
theorem dX6_hangThese_1 : decode cX6_hangThese 1 = .ok (.istore_n 3, 1) := by decide +kernel
theorem dX6_hangThese_2 : decode cX6_hangThese 2 = .ok (.iload_n 3, 1) := by decide +kernel
theorem dX6_hangThese_3 : decode cX6_hangThese 3 = .ok (.aload_n 0, 1) := by decide +kernel
theorem dX6_hangThese_4 : decode cX6_hangThese 4 = .ok (.getfield 27, 3) := by decide +kernel
theorem dX6_hangThese_7 : decode cX6_hangThese 7 = .ok (.if_icmp .ge 33, 3) := by decide +kernel
theorem dX6_hangThese_10 : decode cX6_hangThese 10 = .ok (.iload_n 1, 1) := by decide +kernel
theorem dX6_hangThese_11 : decode cX6_hangThese 11 = .ok (.iload_n 3, 1) := by decide +kernel
theorem dX6_hangThese_12 : decode cX6_hangThese 12 = .ok (.ishr, 1) := by decide +kernel
theorem dX6_hangThese_13 : decode cX6_hangThese 13 = .ok (.iconst 1, 1) := by decide +kernel
theorem dX6_hangThese_14 : decode cX6_hangThese 14 = .ok (.iand, 1) := by decide +kernel
theorem dX6_hangThese_15 : decode cX6_hangThese 15 = .ok (.ifCond .eq 19, 3) := by decide +kernel
theorem dX6_hangThese_18 : decode cX6_hangThese 18 = .ok (.aload_n 2, 1) := by decide +kernel
theorem dX6_hangThese_19 : decode cX6_hangThese 19 = .ok (.aload_n 0, 1) := by decide +kernel
theorem dX6_hangThese_20 : decode cX6_hangThese 20 = .ok (.getfield 18, 3) := by decide +kernel
theorem dX6_hangThese_23 : decode cX6_hangThese 23 = .ok (.iload_n 3, 1) := by decide +kernel
theorem dX6_hangThese_24 : decode cX6_hangThese 24 = .ok (.iaload, 1) := by decide +kernel
theorem dX6_hangThese_25 : decode cX6_hangThese 25 = .ok (.aload_n 0, 1) := by decide +kernel
theorem dX6_hangThese_26 : decode cX6_hangThese 26 = .ok (.getfield 15, 3) := by decide +kernel
theorem dX6_hangThese_29 : decode cX6_hangThese 29 = .ok (.iload_n 3, 1) := by decide +kernel
theorem dX6_hangThese_30 : decode cX6_hangThese 30 = .ok (.iaload, 1) := by decide +kernel
theorem dX6_hangThese_31 : decode cX6_hangThese 31 = .ok (.invokevirtual 66, 3) := by decide +kernel
theorem dX6_hangThese_34 : decode cX6_hangThese 34 = .ok (.iinc 3 1, 3) := by decide +kernel
theorem dX6_hangThese_37 : decode cX6_hangThese 37 = .ok (.goto (-35), 3) := by decide +kernel
theorem dX6_hangThese_40 : decode cX6_hangThese 40 = .ok (.return_, 1) := by decide +kernel
theorem dX6_mayGetIn_0 : decode cX6_mayGetIn 0 = .ok (.aload_n 0, 1) := by decide +kernel
theorem dX6_mayGetIn_1 : decode cX6_mayGetIn 1 = .ok (.aload_n 0, 1) := by decide +kernel
theorem dX6_mayGetIn_2 : decode cX6_mayGetIn 2 = .ok (.aload_n 0, 1) := by decide +kernel
theorem dX6_mayGetIn_3 : decode cX6_mayGetIn 3 = .ok (.invokevirtual 47, 3) := by decide +kernel
theorem dX6_mayGetIn_6 : decode cX6_mayGetIn 6 = .ok (.invokevirtual 51, 3) := by decide +kernel
theorem dX6_mayGetIn_9 : decode cX6_mayGetIn 9 = .ok (.iconst 1, 1) := by decide +kernel
theorem dX6_mayGetIn_10 : decode cX6_mayGetIn 10 = .ok (.iload_n 1, 1) := by decide +kernel
theorem dX6_mayGetIn_11 : decode cX6_mayGetIn 11 = .ok (.ishl, 1) := by decide +kernel
theorem dX6_mayGetIn_12 : decode cX6_mayGetIn 12 = .ok (.ior, 1) := by decide +kernel
theorem dX6_mayGetIn_13 : decode cX6_mayGetIn 13 = .ok (.invokevirtual 81, 3) := by decide +kernel
theorem dX6_mayGetIn_16 : decode cX6_mayGetIn 16 = .ok (.ifCond .ne 5, 3) := by decide +kernel
theorem dX6_mayGetIn_19 : decode cX6_mayGetIn 19 = .ok (.iconst 0, 1) := by decide +kernel
theorem dX6_mayGetIn_20 : decode cX6_mayGetIn 20 = .ok (.ireturn, 1) := by decide +kernel
theorem dX6_mayGetIn_21 : decode cX6_mayGetIn 21 = .ok (.aload_n 0, 1) := by decide +kernel
theorem dX6_mayGetIn_22 : decode cX6_mayGetIn 22 = .ok (.aload_n 2, 1) := by decide +kernel
theorem dX6_mayGetIn_23 : decode cX6_mayGetIn 23 = .ok (.invokevirtual 84, 3) := by decide +kernel
theorem dX6_mayGetIn_26 : decode cX6_mayGetIn 26 = .ok (.aload_n 2, 1) := by decide +kernel
theorem dX6_mayGetIn_27 : decode cX6_mayGetIn 27 = .ok (.aload_n 0, 1) := by decide +kernel
theorem dX6_mayGetIn_28 : decode cX6_mayGetIn 28 = .ok (.invokevirtual 47, 3) := by decide +kernel
theorem dX6_mayGetIn_31 : decode cX6_mayGetIn 31 = .ok (.aload_n 0, 1) := by decide +kernel
theorem dX6_mayGetIn_32 : decode cX6_mayGetIn 32 = .ok (.getfield 15, 3) := by decide +kernel
theorem dX6_mayGetIn_35 : decode cX6_mayGetIn 35 = .ok (.iload_n 1, 1) := by decide +kernel
theorem dX6_mayGetIn_36 : decode cX6_mayGetIn 36 = .ok (.iaload, 1) := by decide +kernel
theorem dX6_mayGetIn_37 : decode cX6_mayGetIn 37 = .ok (.invokevirtual 66, 3) := by decide +kernel
theorem dX6_mayGetIn_40 : decode cX6_mayGetIn 40 = .ok (.aload_n 2, 1) := by decide +kernel
theorem dX6_mayGetIn_41 : decode cX6_mayGetIn 41 = .ok (.aload_n 0, 1) := by decide +kernel
theorem dX6_mayGetIn_42 : decode cX6_mayGetIn 42 = .ok (.getfield 34, 3) := by decide +kernel
theorem dX6_mayGetIn_45 : decode cX6_mayGetIn 45 = .ok (.invokevirtual 87, 3) := by decide +kernel
theorem dX6_mayGetIn_48 : decode cX6_mayGetIn 48 = .ok (.ireturn, 1) := by decide +kernel
theorem dX6_mayGetOut_0 : decode cX6_mayGetOut 0 = .ok (.aload_n 0, 1) := by decide +kernel
theorem dX6_mayGetOut_1 : decode cX6_mayGetOut 1 = .ok (.aload_n 0, 1) := by decide +kernel
theorem dX6_mayGetOut_2 : decode cX6_mayGetOut 2 = .ok (.aload_n 0, 1) := by decide +kernel
theorem dX6_mayGetOut_3 : decode cX6_mayGetOut 3 = .ok (.invokevirtual 47, 3) := by decide +kernel
theorem dX6_mayGetOut_6 : decode cX6_mayGetOut 6 = .ok (.invokevirtual 51, 3) := by decide +kernel
theorem dX6_mayGetOut_9 : decode cX6_mayGetOut 9 = .ok (.iconst 1, 1) := by decide +kernel
theorem dX6_mayGetOut_10 : decode cX6_mayGetOut 10 = .ok (.iload_n 1, 1) := by decide +kernel
theorem dX6_mayGetOut_11 : decode cX6_mayGetOut 11 = .ok (.ishl, 1) := by decide +kernel
theorem dX6_mayGetOut_12 : decode cX6_mayGetOut 12 = .ok (.iconst (-1), 1) := by decide +kernel
theorem dX6_mayGetOut_13 : decode cX6_mayGetOut 13 = .ok (.ixor, 1) := by decide +kernel
theorem dX6_mayGetOut_14 : decode cX6_mayGetOut 14 = .ok (.iand, 1) := by decide +kernel
theorem dX6_mayGetOut_15 : decode cX6_mayGetOut 15 = .ok (.invokevirtual 81, 3) := by decide +kernel
theorem dX6_mayGetOut_18 : decode cX6_mayGetOut 18 = .ok (.ifCond .ne 5, 3) := by decide +kernel
theorem dX6_mayGetOut_21 : decode cX6_mayGetOut 21 = .ok (.iconst 0, 1) := by decide +kernel
theorem dX6_mayGetOut_22 : decode cX6_mayGetOut 22 = .ok (.ireturn, 1) := by decide +kernel
theorem dX6_mayGetOut_23 : decode cX6_mayGetOut 23 = .ok (.aload_n 0, 1) := by decide +kernel
theorem dX6_mayGetOut_24 : decode cX6_mayGetOut 24 = .ok (.aload_n 2, 1) := by decide +kernel
theorem dX6_mayGetOut_25 : decode cX6_mayGetOut 25 = .ok (.invokevirtual 84, 3) := by decide +kernel
theorem dX6_mayGetOut_28 : decode cX6_mayGetOut 28 = .ok (.aload_n 2, 1) := by decide +kernel
theorem dX6_mayGetOut_29 : decode cX6_mayGetOut 29 = .ok (.aload_n 0, 1) := by decide +kernel
theorem dX6_mayGetOut_30 : decode cX6_mayGetOut 30 = .ok (.invokevirtual 47, 3) := by decide +kernel
theorem dX6_mayGetOut_33 : decode cX6_mayGetOut 33 = .ok (.aload_n 0, 1) := by decide +kernel
theorem dX6_mayGetOut_34 : decode cX6_mayGetOut 34 = .ok (.getfield 15, 3) := by decide +kernel
theorem dX6_mayGetOut_37 : decode cX6_mayGetOut 37 = .ok (.iload_n 1, 1) := by decide +kernel
theorem dX6_mayGetOut_38 : decode cX6_mayGetOut 38 = .ok (.iaload, 1) := by decide +kernel
theorem dX6_mayGetOut_39 : decode cX6_mayGetOut 39 = .ok (.ineg, 1) := by decide +kernel
theorem dX6_mayGetOut_40 : decode cX6_mayGetOut 40 = .ok (.invokevirtual 66, 3) := by decide +kernel
theorem dX6_mayGetOut_43 : decode cX6_mayGetOut 43 = .ok (.aload_n 2, 1) := by decide +kernel
theorem dX6_mayGetOut_44 : decode cX6_mayGetOut 44 = .ok (.aload_n 0, 1) := by decide +kernel
theorem dX6_mayGetOut_45 : decode cX6_mayGetOut 45 = .ok (.getfield 34, 3) := by decide +kernel
theorem dX6_mayGetOut_48 : decode cX6_mayGetOut 48 = .ok (.invokevirtual 87, 3) := by decide +kernel
theorem dX6_mayGetOut_51 : decode cX6_mayGetOut 51 = .ok (.ireturn, 1) := by decide +kernel
theorem dX6_mayHaveSand_0 : decode cX6_mayHaveSand 0 = .ok (.aload_n 0, 1) := by decide +kernel
theorem dX6_mayHaveSand_1 : decode cX6_mayHaveSand 1 = .ok (.aload_n 2, 1) := by decide +kernel
theorem dX6_mayHaveSand_2 : decode cX6_mayHaveSand 2 = .ok (.invokevirtual 84, 3) := by decide +kernel
theorem dX6_mayHaveSand_5 : decode cX6_mayHaveSand 5 = .ok (.aload_n 2, 1) := by decide +kernel
theorem dX6_mayHaveSand_6 : decode cX6_mayHaveSand 6 = .ok (.aload_n 0, 1) := by decide +kernel
theorem dX6_mayHaveSand_7 : decode cX6_mayHaveSand 7 = .ok (.invokevirtual 47, 3) := by decide +kernel
theorem dX6_mayHaveSand_10 : decode cX6_mayHaveSand 10 = .ok (.iload_n 1, 1) := by decide +kernel
theorem dX6_mayHaveSand_11 : decode cX6_mayHaveSand 11 = .ok (.aload_n 0, 1) := by decide +kernel
theorem dX6_mayHaveSand_12 : decode cX6_mayHaveSand 12 = .ok (.getfield 24, 3) := by decide +kernel
theorem dX6_mayHaveSand_15 : decode cX6_mayHaveSand 15 = .ok (.aload_n 0, 1) := by decide +kernel
theorem dX6_mayHaveSand_16 : decode cX6_mayHaveSand 16 = .ok (.invokevirtual 47, 3) := by decide +kernel
theorem dX6_mayHaveSand_19 : decode cX6_mayHaveSand 19 = .ok (.iaload, 1) := by decide +kernel
theorem dX6_mayHaveSand_20 : decode cX6_mayHaveSand 20 = .ok (.isub, 1) := by decide +kernel
theorem dX6_mayHaveSand_21 : decode cX6_mayHaveSand 21 = .ok (.invokevirtual 66, 3) := by decide +kernel
theorem dX6_mayHaveSand_24 : decode cX6_mayHaveSand 24 = .ok (.aload_n 2, 1) := by decide +kernel
theorem dX6_mayHaveSand_25 : decode cX6_mayHaveSand 25 = .ok (.aload_n 0, 1) := by decide +kernel
theorem dX6_mayHaveSand_26 : decode cX6_mayHaveSand 26 = .ok (.getfield 34, 3) := by decide +kernel
theorem dX6_mayHaveSand_29 : decode cX6_mayHaveSand 29 = .ok (.invokevirtual 87, 3) := by decide +kernel
theorem dX6_mayHaveSand_32 : decode cX6_mayHaveSand 32 = .ok (.ireturn, 1) := by decide +kernel
theorem dX6_getIn_0 : decode cX6_getIn 0 = .ok (.aload_n 0, 1) := by decide +kernel
theorem dX6_getIn_1 : decode cX6_getIn 1 = .ok (.getfield 18, 3) := by decide +kernel
theorem dX6_getIn_4 : decode cX6_getIn 4 = .ok (.iload_n 1, 1) := by decide +kernel
theorem dX6_getIn_5 : decode cX6_getIn 5 = .ok (.aload_n 0, 1) := by decide +kernel
theorem dX6_getIn_6 : decode cX6_getIn 6 = .ok (.invokevirtual 47, 3) := by decide +kernel
theorem dX6_getIn_9 : decode cX6_getIn 9 = .ok (.iastore, 1) := by decide +kernel
theorem dX6_getIn_10 : decode cX6_getIn 10 = .ok (.aload_n 0, 1) := by decide +kernel
theorem dX6_getIn_11 : decode cX6_getIn 11 = .ok (.getfield 21, 3) := by decide +kernel
theorem dX6_getIn_14 : decode cX6_getIn 14 = .ok (.iload_n 1, 1) := by decide +kernel
theorem dX6_getIn_15 : decode cX6_getIn 15 = .ok (.aload_n 0, 1) := by decide +kernel
theorem dX6_getIn_16 : decode cX6_getIn 16 = .ok (.getfield 31, 3) := by decide +kernel
theorem dX6_getIn_19 : decode cX6_getIn 19 = .ok (.iastore, 1) := by decide +kernel
theorem dX6_getIn_20 : decode cX6_getIn 20 = .ok (.return_, 1) := by decide +kernel
theorem dX6_getOut_0 : decode cX6_getOut 0 = .ok (.aload_n 0, 1) := by decide +kernel
theorem dX6_getOut_1 : decode cX6_getOut 1 = .ok (.getfield 18, 3) := by decide +kernel
theorem dX6_getOut_4 : decode cX6_getOut 4 = .ok (.iload_n 1, 1) := by decide +kernel
theorem dX6_getOut_5 : decode cX6_getOut 5 = .ok (.bipush 13, 2) := by decide +kernel
theorem dX6_getOut_7 : decode cX6_getOut 7 = .ok (.iastore, 1) := by decide +kernel
theorem dX6_getOut_8 : decode cX6_getOut 8 = .ok (.return_, 1) := by decide +kernel
theorem dX7_init_0 : decode cX7_init 0 = .ok (.aload_n 0, 1) := by decide +kernel
theorem dX7_init_1 : decode cX7_init 1 = .ok (.invokespecial 1, 3) := by decide +kernel
theorem dX7_init_4 : decode cX7_init 4 = .ok (.aload_n 0, 1) := by decide +kernel
theorem dX7_init_5 : decode cX7_init 5 = .ok (.new 7, 3) := by decide +kernel
theorem dX7_init_8 : decode cX7_init 8 = .ok (.dup, 1) := by decide +kernel
theorem dX7_init_9 : decode cX7_init 9 = .ok (.invokespecial 9, 3) := by decide +kernel
theorem dX7_init_12 : decode cX7_init 12 = .ok (.putfield 10, 3) := by decide +kernel
theorem dX7_init_15 : decode cX7_init 15 = .ok (.aload_n 0, 1) := by decide +kernel
theorem dX7_init_16 : decode cX7_init 16 = .ok (.new 7, 3) := by decide +kernel
theorem dX7_init_19 : decode cX7_init 19 = .ok (.dup, 1) := by decide +kernel
theorem dX7_init_20 : decode cX7_init 20 = .ok (.invokespecial 9, 3) := by decide +kernel
theorem dX7_init_23 : decode cX7_init 23 = .ok (.putfield 16, 3) := by decide +kernel
theorem dX7_init_26 : decode cX7_init 26 = .ok (.aload_n 0, 1) := by decide +kernel
theorem dX7_init_27 : decode cX7_init 27 = .ok (.new 19, 3) := by decide +kernel
theorem dX7_init_30 : decode cX7_init 30 = .ok (.dup, 1) := by decide +kernel
theorem dX7_init_31 : decode cX7_init 31 = .ok (.invokespecial 21, 3) := by decide +kernel
theorem dX7_init_34 : decode cX7_init 34 = .ok (.putfield 22, 3) := by decide +kernel
theorem dX7_init_37 : decode cX7_init 37 = .ok (.aload_n 0, 1) := by decide +kernel
theorem dX7_init_38 : decode cX7_init 38 = .ok (.new 26, 3) := by decide +kernel
theorem dX7_init_41 : decode cX7_init 41 = .ok (.dup, 1) := by decide +kernel
theorem dX7_init_42 : decode cX7_init 42 = .ok (.aload_n 0, 1) := by decide +kernel
theorem dX7_init_43 : decode cX7_init 43 = .ok (.getfield 10, 3) := by decide +kernel
theorem dX7_init_46 : decode cX7_init 46 = .ok (.invokespecial 28, 3) := by decide +kernel
theorem dX7_init_49 : decode cX7_init 49 = .ok (.putfield 31, 3) := by decide +kernel
theorem dX7_init_52 : decode cX7_init 52 = .ok (.aload_n 0, 1) := by decide +kernel
theorem dX7_init_53 : decode cX7_init 53 = .ok (.new 35, 3) := by decide +kernel
theorem dX7_init_56 : decode cX7_init 56 = .ok (.dup, 1) := by decide +kernel
theorem dX7_init_57 : decode cX7_init 57 = .ok (.aload_n 0, 1) := by decide +kernel
theorem dX7_init_58 : decode cX7_init 58 = .ok (.getfield 10, 3) := by decide +kernel
theorem dX7_init_61 : decode cX7_init 61 = .ok (.invokespecial 37, 3) := by decide +kernel
theorem dX7_init_64 : decode cX7_init 64 = .ok (.putfield 38, 3) := by decide +kernel
theorem dX7_init_67 : decode cX7_init 67 = .ok (.aload_n 0, 1) := by decide +kernel
theorem dX7_init_68 : decode cX7_init 68 = .ok (.new 42, 3) := by decide +kernel
theorem dX7_init_71 : decode cX7_init 71 = .ok (.dup, 1) := by decide +kernel
theorem dX7_init_72 : decode cX7_init 72 = .ok (.aload_n 0, 1) := by decide +kernel
theorem dX7_init_73 : decode cX7_init 73 = .ok (.getfield 10, 3) := by decide +kernel
theorem dX7_init_76 : decode cX7_init 76 = .ok (.invokespecial 44, 3) := by decide +kernel
theorem dX7_init_79 : decode cX7_init 79 = .ok (.putfield 45, 3) := by decide +kernel
theorem dX7_init_82 : decode cX7_init 82 = .ok (.aload_n 0, 1) := by decide +kernel
theorem dX7_init_83 : decode cX7_init 83 = .ok (.new 49, 3) := by decide +kernel
theorem dX7_init_86 : decode cX7_init 86 = .ok (.dup, 1) := by decide +kernel
theorem dX7_init_87 : decode cX7_init 87 = .ok (.invokespecial 51, 3) := by decide +kernel
theorem dX7_init_90 : decode cX7_init 90 = .ok (.putfield 52, 3) := by decide +kernel
theorem dX7_init_93 : decode cX7_init 93 = .ok (.aload_n 0, 1) := by decide +kernel
theorem dX7_init_94 : decode cX7_init 94 = .ok (.iconst 4, 1) := by decide +kernel
theorem dX7_init_95 : decode cX7_init 95 = .ok (.anewarray 56, 3) := by decide +kernel
theorem dX7_init_98 : decode cX7_init 98 = .ok (.putfield 58, 3) := by decide +kernel
theorem dX7_init_101 : decode cX7_init 101 = .ok (.iconst 0, 1) := by decide +kernel
theorem dX7_init_102 : decode cX7_init 102 = .ok (.istore_n 1, 1) := by decide +kernel
theorem dX7_init_103 : decode cX7_init 103 = .ok (.iload_n 1, 1) := by decide +kernel
theorem dX7_init_104 : decode cX7_init 104 = .ok (.iconst 4, 1) := by decide +kernel
theorem dX7_init_105 : decode cX7_init 105 = .ok (.if_icmp .ge 22, 3) := by decide +kernel
theorem dX7_init_108 : decode cX7_init 108 = .ok (.aload_n 0, 1) := by decide +kernel
theorem dX7_init_109 : decode cX7_init 109 = .ok (.getfield 58, 3) := by decide +kernel
theorem dX7_init_112 : decode cX7_init 112 = .ok (.iload_n 1, 1) := by decide +kernel
theorem dX7_init_113 : decode cX7_init 113 = .ok (.new 56, 3) := by decide +kernel
theorem dX7_init_116 : decode cX7_init 116 = .ok (.dup, 1) := by decide +kernel
theorem dX7_init_117 : decode cX7_init 117 = .ok (.invokespecial 62, 3) := by decide +kernel
theorem dX7_init_120 : decode cX7_init 120 = .ok (.aastore, 1) := by decide +kernel
theorem dX7_init_121 : decode cX7_init 121 = .ok (.iinc 1 1, 3) := by decide +kernel
theorem dX7_init_124 : decode cX7_init 124 = .ok (.goto (-21), 3) := by decide +kernel
theorem dX7_init_127 : decode cX7_init 127 = .ok (.aload_n 0, 1) := by decide +kernel
theorem dX7_init_128 : decode cX7_init 128 = .ok (.bipush 12, 2) := by decide +kernel
theorem dX7_init_130 : decode cX7_init 130 = .ok (.newarray .int, 2) := by decide +kernel
theorem dX7_init_132 : decode cX7_init 132 = .ok (.putfield 63, 3) := by decide +kernel
theorem dX7_init_135 : decode cX7_init 135 = .ok (.aload_n 0, 1) := by decide +kernel
theorem dX7_init_136 : decode cX7_init 136 = .ok (.iconst 0, 1) := by decide +kernel
theorem dX7_init_137 : decode cX7_init 137 = .ok (.putfield 67, 3) := by decide +kernel
theorem dX7_init_140 : decode cX7_init 140 = .ok (.return_, 1) := by decide +kernel
theorem dX7_person_0 : decode cX7_person 0 = .ok (.iload_n 1, 1) := by decide +kernel
theorem dX7_person_1 : decode cX7_person 1 = .ok (.ifCond .lt 19, 3) := by decide +kernel
theorem dX7_person_4 : decode cX7_person 4 = .ok (.iload_n 1, 1) := by decide +kernel
theorem dX7_person_5 : decode cX7_person 5 = .ok (.iconst 4, 1) := by decide +kernel
theorem dX7_person_6 : decode cX7_person 6 = .ok (.if_icmp .ge 14, 3) := by decide +kernel
theorem dX7_person_9 : decode cX7_person 9 = .ok (.iload_n 2, 1) := by decide +kernel
theorem dX7_person_10 : decode cX7_person 10 = .ok (.iconst 1, 1) := by decide +kernel
theorem dX7_person_11 : decode cX7_person 11 = .ok (.if_icmp .lt 9, 3) := by decide +kernel
theorem dX7_person_14 : decode cX7_person 14 = .ok (.iload_n 2, 1) := by decide +kernel
theorem dX7_person_15 : decode cX7_person 15 = .ok (.bipush 99, 2) := by decide +kernel
theorem dX7_person_17 : decode cX7_person 17 = .ok (.if_icmp .le 5, 3) := by decide +kernel
theorem dX7_person_20 : decode cX7_person 20 = .ok (.iconst (-1), 1) := by decide +kernel
theorem dX7_person_21 : decode cX7_person 21 = .ok (.ireturn, 1) := by decide +kernel
theorem dX7_person_22 : decode cX7_person 22 = .ok (.aload_n 0, 1) := by decide +kernel
theorem dX7_person_23 : decode cX7_person 23 = .ok (.getfield 10, 3) := by decide +kernel
theorem dX7_person_26 : decode cX7_person 26 = .ok (.getfield 71, 3) := by decide +kernel
theorem dX7_person_29 : decode cX7_person 29 = .ok (.bipush 10, 2) := by decide +kernel
theorem dX7_person_31 : decode cX7_person 31 = .ok (.if_icmp .lt 6, 3) := by decide +kernel
theorem dX7_person_34 : decode cX7_person 34 = .ok (.bipush (-3), 2) := by decide +kernel
theorem dX7_person_36 : decode cX7_person 36 = .ok (.ireturn, 1) := by decide +kernel
theorem dX7_person_37 : decode cX7_person 37 = .ok (.aload_n 0, 1) := by decide +kernel
theorem dX7_person_38 : decode cX7_person 38 = .ok (.getfield 10, 3) := by decide +kernel
theorem dX7_person_41 : decode cX7_person 41 = .ok (.iload_n 1, 1) := by decide +kernel
theorem dX7_person_42 : decode cX7_person 42 = .ok (.iload_n 2, 1) := by decide +kernel
theorem dX7_person_43 : decode cX7_person 43 = .ok (.invokevirtual 75, 3) := by decide +kernel
theorem dX7_person_46 : decode cX7_person 46 = .ok (.ireturn, 1) := by decide +kernel
theorem dX7_told_0 : decode cX7_told 0 = .ok (.aload_n 0, 1) := by decide +kernel
theorem dX7_told_1 : decode cX7_told 1 = .ok (.getfield 10, 3) := by decide +kernel
theorem dX7_told_4 : decode cX7_told 4 = .ok (.iload_n 1, 1) := by decide +kernel
theorem dX7_told_5 : decode cX7_told 5 = .ok (.invokevirtual 79, 3) := by decide +kernel
theorem dX7_told_8 : decode cX7_told 8 = .ok (.ifCond .ne 5, 3) := by decide +kernel
theorem dX7_told_11 : decode cX7_told 11 = .ok (.iconst (-1), 1) := by decide +kernel
theorem dX7_told_12 : decode cX7_told 12 = .ok (.ireturn, 1) := by decide +kernel
theorem dX7_told_13 : decode cX7_told 13 = .ok (.iload_n 2, 1) := by decide +kernel
theorem dX7_told_14 : decode cX7_told 14 = .ok (.tableswitch 89 0 3 #[30, 40, 50, 60], 30) := by decide +kernel
theorem dX7_told_44 : decode cX7_told 44 = .ok (.aload_n 0, 1) := by decide +kernel
theorem dX7_told_45 : decode cX7_told 45 = .ok (.getfield 10, 3) := by decide +kernel
theorem dX7_told_48 : decode cX7_told 48 = .ok (.getfield 83, 3) := by decide +kernel
theorem dX7_told_51 : decode cX7_told 51 = .ok (.iload_n 1, 1) := by decide +kernel
theorem dX7_told_52 : decode cX7_told 52 = .ok (.iaload, 1) := by decide +kernel
theorem dX7_told_53 : decode cX7_told 53 = .ok (.ireturn, 1) := by decide +kernel
theorem dX7_told_54 : decode cX7_told 54 = .ok (.aload_n 0, 1) := by decide +kernel
theorem dX7_told_55 : decode cX7_told 55 = .ok (.getfield 10, 3) := by decide +kernel
theorem dX7_told_58 : decode cX7_told 58 = .ok (.getfield 86, 3) := by decide +kernel
theorem dX7_told_61 : decode cX7_told 61 = .ok (.iload_n 1, 1) := by decide +kernel
theorem dX7_told_62 : decode cX7_told 62 = .ok (.iaload, 1) := by decide +kernel
theorem dX7_told_63 : decode cX7_told 63 = .ok (.ireturn, 1) := by decide +kernel
theorem dX7_told_64 : decode cX7_told 64 = .ok (.aload_n 0, 1) := by decide +kernel
theorem dX7_told_65 : decode cX7_told 65 = .ok (.getfield 10, 3) := by decide +kernel
theorem dX7_told_68 : decode cX7_told 68 = .ok (.getfield 89, 3) := by decide +kernel
theorem dX7_told_71 : decode cX7_told 71 = .ok (.iload_n 1, 1) := by decide +kernel
theorem dX7_told_72 : decode cX7_told 72 = .ok (.iaload, 1) := by decide +kernel
theorem dX7_told_73 : decode cX7_told 73 = .ok (.ireturn, 1) := by decide +kernel
theorem dX7_told_74 : decode cX7_told 74 = .ok (.aload_n 0, 1) := by decide +kernel
theorem dX7_told_75 : decode cX7_told 75 = .ok (.getfield 10, 3) := by decide +kernel
theorem dX7_told_78 : decode cX7_told 78 = .ok (.getfield 89, 3) := by decide +kernel
theorem dX7_told_81 : decode cX7_told 81 = .ok (.iload_n 1, 1) := by decide +kernel
theorem dX7_told_82 : decode cX7_told 82 = .ok (.iaload, 1) := by decide +kernel
theorem dX7_told_83 : decode cX7_told 83 = .ok (.bipush 12, 2) := by decide +kernel
theorem dX7_told_85 : decode cX7_told 85 = .ok (.if_icmp .ne 8, 3) := by decide +kernel
theorem dX7_told_88 : decode cX7_told 88 = .ok (.bipush (-4), 2) := by decide +kernel
theorem dX7_told_90 : decode cX7_told 90 = .ok (.goto 12, 3) := by decide +kernel
theorem dX7_told_93 : decode cX7_told 93 = .ok (.aload_n 0, 1) := by decide +kernel
theorem dX7_told_94 : decode cX7_told 94 = .ok (.getfield 10, 3) := by decide +kernel
theorem dX7_told_97 : decode cX7_told 97 = .ok (.getfield 92, 3) := by decide +kernel
theorem dX7_told_100 : decode cX7_told 100 = .ok (.iload_n 1, 1) := by decide +kernel
theorem dX7_told_101 : decode cX7_told 101 = .ok (.iaload, 1) := by decide +kernel
theorem dX7_told_102 : decode cX7_told 102 = .ok (.ireturn, 1) := by decide +kernel
theorem dX7_told_103 : decode cX7_told 103 = .ok (.iconst (-1), 1) := by decide +kernel
theorem dX7_told_104 : decode cX7_told 104 = .ok (.ireturn, 1) := by decide +kernel
theorem dX7_car_0 : decode cX7_car 0 = .ok (.iload_n 1, 1) := by decide +kernel
theorem dX7_car_1 : decode cX7_car 1 = .ok (.ifCond .lt 9, 3) := by decide +kernel
theorem dX7_car_4 : decode cX7_car 4 = .ok (.iload_n 1, 1) := by decide +kernel
theorem dX7_car_5 : decode cX7_car 5 = .ok (.bipush 12, 2) := by decide +kernel
theorem dX7_car_7 : decode cX7_car 7 = .ok (.if_icmp .lt 5, 3) := by decide +kernel
theorem dX7_car_10 : decode cX7_car 10 = .ok (.iconst (-1), 1) := by decide +kernel
theorem dX7_car_11 : decode cX7_car 11 = .ok (.ireturn, 1) := by decide +kernel
theorem dX7_car_12 : decode cX7_car 12 = .ok (.aload_n 0, 1) := by decide +kernel
theorem dX7_car_13 : decode cX7_car 13 = .ok (.getfield 10, 3) := by decide +kernel
theorem dX7_car_16 : decode cX7_car 16 = .ok (.iload_n 1, 1) := by decide +kernel
theorem dX7_car_17 : decode cX7_car 17 = .ok (.invokevirtual 95, 3) := by decide +kernel
theorem dX7_car_20 : decode cX7_car 20 = .ok (.istore_n 3, 1) := by decide +kernel
theorem dX7_car_21 : decode cX7_car 21 = .ok (.iload_n 2, 1) := by decide +kernel
theorem dX7_car_22 : decode cX7_car 22 = .ok (.tableswitch 60 0 3 #[30, 39, 48, 58], 30) := by decide +kernel
theorem dX7_car_52 : decode cX7_car 52 = .ok (.aload_n 0, 1) := by decide +kernel
theorem dX7_car_53 : decode cX7_car 53 = .ok (.getfield 10, 3) := by decide +kernel
theorem dX7_car_56 : decode cX7_car 56 = .ok (.iload_n 1, 1) := by decide +kernel
theorem dX7_car_57 : decode cX7_car 57 = .ok (.invokevirtual 99, 3) := by decide +kernel
theorem dX7_car_60 : decode cX7_car 60 = .ok (.ireturn, 1) := by decide +kernel
theorem dX7_car_61 : decode cX7_car 61 = .ok (.aload_n 0, 1) := by decide +kernel
theorem dX7_car_62 : decode cX7_car 62 = .ok (.getfield 10, 3) := by decide +kernel
theorem dX7_car_65 : decode cX7_car 65 = .ok (.iload_n 3, 1) := by decide +kernel
theorem dX7_car_66 : decode cX7_car 66 = .ok (.invokevirtual 102, 3) := by decide +kernel
theorem dX7_car_69 : decode cX7_car 69 = .ok (.ireturn, 1) := by decide +kernel
theorem dX7_car_70 : decode cX7_car 70 = .ok (.aload_n 0, 1) := by decide +kernel
theorem dX7_car_71 : decode cX7_car 71 = .ok (.getfield 10, 3) := by decide +kernel
theorem dX7_car_74 : decode cX7_car 74 = .ok (.getfield 105, 3) := by decide +kernel
theorem dX7_car_77 : decode cX7_car 77 = .ok (.iload_n 1, 1) := by decide +kernel
theorem dX7_car_78 : decode cX7_car 78 = .ok (.iaload, 1) := by decide +kernel
theorem dX7_car_79 : decode cX7_car 79 = .ok (.ireturn, 1) := by decide +kernel
theorem dX7_car_80 : decode cX7_car 80 = .ok (.iload_n 3, 1) := by decide +kernel
theorem dX7_car_81 : decode cX7_car 81 = .ok (.ireturn, 1) := by decide +kernel
theorem dX7_car_82 : decode cX7_car 82 = .ok (.iconst (-1), 1) := by decide +kernel
theorem dX7_car_83 : decode cX7_car 83 = .ok (.ireturn, 1) := by decide +kernel
theorem dX7_limit_0 : decode cX7_limit 0 = .ok (.iload_n 1, 1) := by decide +kernel
theorem dX7_limit_1 : decode cX7_limit 1 = .ok (.ifCond .lt 10, 3) := by decide +kernel
theorem dX7_limit_4 : decode cX7_limit 4 = .ok (.iload_n 1, 1) := by decide +kernel
theorem dX7_limit_5 : decode cX7_limit 5 = .ok (.sipush 999, 3) := by decide +kernel
theorem dX7_limit_8 : decode cX7_limit 8 = .ok (.if_icmp .le 5, 3) := by decide +kernel
theorem dX7_limit_11 : decode cX7_limit 11 = .ok (.iconst (-1), 1) := by decide +kernel
theorem dX7_limit_12 : decode cX7_limit 12 = .ok (.ireturn, 1) := by decide +kernel
theorem dX7_limit_13 : decode cX7_limit 13 = .ok (.aload_n 0, 1) := by decide +kernel
theorem dX7_limit_14 : decode cX7_limit 14 = .ok (.getfield 10, 3) := by decide +kernel
theorem dX7_limit_17 : decode cX7_limit 17 = .ok (.aload_n 0, 1) := by decide +kernel
theorem dX7_limit_18 : decode cX7_limit 18 = .ok (.getfield 52, 3) := by decide +kernel
theorem dX7_limit_21 : decode cX7_limit 21 = .ok (.invokevirtual 108, 3) := by decide +kernel
theorem dX7_limit_24 : decode cX7_limit 24 = .ok (.aload_n 0, 1) := by decide +kernel
theorem dX7_limit_25 : decode cX7_limit 25 = .ok (.getfield 52, 3) := by decide +kernel
theorem dX7_limit_28 : decode cX7_limit 28 = .ok (.iload_n 1, 1) := by decide +kernel
theorem dX7_limit_29 : decode cX7_limit 29 = .ok (.invokevirtual 112, 3) := by decide +kernel
theorem dX7_limit_32 : decode cX7_limit 32 = .ok (.ifCond .ne 6, 3) := by decide +kernel
theorem dX7_limit_35 : decode cX7_limit 35 = .ok (.bipush (-2), 2) := by decide +kernel
theorem dX7_limit_37 : decode cX7_limit 37 = .ok (.ireturn, 1) := by decide +kernel
theorem dX7_limit_38 : decode cX7_limit 38 = .ok (.aload_n 0, 1) := by decide +kernel
theorem dX7_limit_39 : decode cX7_limit 39 = .ok (.getfield 10, 3) := by decide +kernel
theorem dX7_limit_42 : decode cX7_limit 42 = .ok (.getfield 115, 3) := by decide +kernel
theorem dX7_limit_45 : decode cX7_limit 45 = .ok (.istore_n 2, 1) := by decide +kernel
theorem dX7_limit_46 : decode cX7_limit 46 = .ok (.aload_n 0, 1) := by decide +kernel
theorem dX7_limit_47 : decode cX7_limit 47 = .ok (.getfield 10, 3) := by decide +kernel
theorem dX7_limit_50 : decode cX7_limit 50 = .ok (.iload_n 1, 1) := by decide +kernel
theorem dX7_limit_51 : decode cX7_limit 51 = .ok (.putfield 115, 3) := by decide +kernel
theorem dX7_limit_54 : decode cX7_limit 54 = .ok (.iload_n 2, 1) := by decide +kernel
theorem dX7_limit_55 : decode cX7_limit 55 = .ok (.ireturn, 1) := by decide +kernel
theorem dX7_out_0 : decode cX7_out 0 = .ok (.aload_n 0, 1) := by decide +kernel
theorem dX7_out_1 : decode cX7_out 1 = .ok (.getfield 10, 3) := by decide +kernel
theorem dX7_out_4 : decode cX7_out 4 = .ok (.aload_n 0, 1) := by decide +kernel
theorem dX7_out_5 : decode cX7_out 5 = .ok (.getfield 52, 3) := by decide +kernel
theorem dX7_out_8 : decode cX7_out 8 = .ok (.invokevirtual 108, 3) := by decide +kernel
theorem dX7_out_11 : decode cX7_out 11 = .ok (.iload_n 1, 1) := by decide +kernel
theorem dX7_out_12 : decode cX7_out 12 = .ok (.tableswitch 90 0 5 #[40, 48, 56, 64, 72, 81], 40) := by decide +kernel
theorem dX7_out_52 : decode cX7_out 52 = .ok (.aload_n 0, 1) := by decide +kernel
theorem dX7_out_53 : decode cX7_out 53 = .ok (.getfield 52, 3) := by decide +kernel
theorem dX7_out_56 : decode cX7_out 56 = .ok (.getfield 118, 3) := by decide +kernel
theorem dX7_out_59 : decode cX7_out 59 = .ok (.ireturn, 1) := by decide +kernel
theorem dX7_out_60 : decode cX7_out 60 = .ok (.aload_n 0, 1) := by decide +kernel
theorem dX7_out_61 : decode cX7_out 61 = .ok (.getfield 52, 3) := by decide +kernel
theorem dX7_out_64 : decode cX7_out 64 = .ok (.getfield 121, 3) := by decide +kernel
theorem dX7_out_67 : decode cX7_out 67 = .ok (.ireturn, 1) := by decide +kernel
theorem dX7_out_68 : decode cX7_out 68 = .ok (.aload_n 0, 1) := by decide +kernel
theorem dX7_out_69 : decode cX7_out 69 = .ok (.getfield 52, 3) := by decide +kernel
theorem dX7_out_72 : decode cX7_out 72 = .ok (.getfield 124, 3) := by decide +kernel
theorem dX7_out_75 : decode cX7_out 75 = .ok (.ireturn, 1) := by decide +kernel
theorem dX7_out_76 : decode cX7_out 76 = .ok (.aload_n 0, 1) := by decide +kernel
theorem dX7_out_77 : decode cX7_out 77 = .ok (.getfield 52, 3) := by decide +kernel
theorem dX7_out_80 : decode cX7_out 80 = .ok (.getfield 127, 3) := by decide +kernel
theorem dX7_out_83 : decode cX7_out 83 = .ok (.ireturn, 1) := by decide +kernel
theorem dX7_out_84 : decode cX7_out 84 = .ok (.aload_n 0, 1) := by decide +kernel
theorem dX7_out_85 : decode cX7_out 85 = .ok (.getfield 52, 3) := by decide +kernel
theorem dX7_out_88 : decode cX7_out 88 = .ok (.invokevirtual 130, 3) := by decide +kernel
theorem dX7_out_91 : decode cX7_out 91 = .ok (.l2i, 1) := by decide +kernel
theorem dX7_out_92 : decode cX7_out 92 = .ok (.ireturn, 1) := by decide +kernel
theorem dX7_out_93 : decode cX7_out 93 = .ok (.aload_n 0, 1) := by decide +kernel
theorem dX7_out_94 : decode cX7_out 94 = .ok (.getfield 52, 3) := by decide +kernel
theorem dX7_out_97 : decode cX7_out 97 = .ok (.invokevirtual 134, 3) := by decide +kernel
theorem dX7_out_100 : decode cX7_out 100 = .ok (.l2i, 1) := by decide +kernel
theorem dX7_out_101 : decode cX7_out 101 = .ok (.ireturn, 1) := by decide +kernel
theorem dX7_out_102 : decode cX7_out 102 = .ok (.ldc 137, 2) := by decide +kernel
theorem dX7_out_104 : decode cX7_out 104 = .ok (.ireturn, 1) := by decide +kernel
theorem dX7_type_0 : decode cX7_type 0 = .ok (.iload_n 3, 1) := by decide +kernel
theorem dX7_type_1 : decode cX7_type 1 = .ok (.iconst 1, 1) := by decide +kernel
theorem dX7_type_2 : decode cX7_type 2 = .ok (.if_icmp .lt 9, 3) := by decide +kernel
theorem dX7_type_5 : decode cX7_type 5 = .ok (.iload_n 3, 1) := by decide +kernel
theorem dX7_type_6 : decode cX7_type 6 = .ok (.bipush 8, 2) := by decide +kernel
theorem dX7_type_8 : decode cX7_type 8 = .ok (.if_icmp .le 5, 3) := by decide +kernel
theorem dX7_type_11 : decode cX7_type 11 = .ok (.iconst (-1), 1) := by decide +kernel
theorem dX7_type_12 : decode cX7_type 12 = .ok (.ireturn, 1) := by decide +kernel
theorem dX7_type_13 : decode cX7_type 13 = .ok (.iconst 0, 1) := by decide +kernel
theorem dX7_type_14 : decode cX7_type 14 = .ok (.istore 4, 2) := by decide +kernel
theorem dX7_type_16 : decode cX7_type 16 = .ok (.iload 4, 2) := by decide +kernel
theorem dX7_type_18 : decode cX7_type 18 = .ok (.iload_n 3, 1) := by decide +kernel
theorem dX7_type_19 : decode cX7_type 19 = .ok (.if_icmp .ge 23, 3) := by decide +kernel
theorem dX7_type_22 : decode cX7_type 22 = .ok (.lload_n 1, 1) := by decide +kernel
theorem dX7_type_23 : decode cX7_type 23 = .ok (.iload 4, 2) := by decide +kernel
theorem dX7_type_25 : decode cX7_type 25 = .ok (.invokestatic 138, 3) := by decide +kernel
theorem dX7_type_28 : decode cX7_type 28 = .ok (.invokestatic 142, 3) := by decide +kernel
theorem dX7_type_31 : decode cX7_type 31 = .ok (.ifCond .ne 5, 3) := by decide +kernel
theorem dX7_type_34 : decode cX7_type 34 = .ok (.iconst (-1), 1) := by decide +kernel
theorem dX7_type_35 : decode cX7_type 35 = .ok (.ireturn, 1) := by decide +kernel
theorem dX7_type_36 : decode cX7_type 36 = .ok (.iinc 4 1, 3) := by decide +kernel
theorem dX7_type_39 : decode cX7_type 39 = .ok (.goto (-23), 3) := by decide +kernel
theorem dX7_type_42 : decode cX7_type 42 = .ok (.aload_n 0, 1) := by decide +kernel
theorem dX7_type_43 : decode cX7_type 43 = .ok (.getfield 22, 3) := by decide +kernel
theorem dX7_type_46 : decode cX7_type 46 = .ok (.getfield 145, 3) := by decide +kernel
theorem dX7_type_49 : decode cX7_type 49 = .ok (.iload_n 3, 1) := by decide +kernel
theorem dX7_type_50 : decode cX7_type 50 = .ok (.iadd, 1) := by decide +kernel
theorem dX7_type_51 : decode cX7_type 51 = .ok (.bipush 120, 2) := by decide +kernel
theorem dX7_type_53 : decode cX7_type 53 = .ok (.if_icmp .le 6, 3) := by decide +kernel
theorem dX7_type_56 : decode cX7_type 56 = .ok (.bipush (-3), 2) := by decide +kernel
theorem dX7_type_58 : decode cX7_type 58 = .ok (.ireturn, 1) := by decide +kernel
theorem dX7_type_59 : decode cX7_type 59 = .ok (.iload_n 3, 1) := by decide +kernel
theorem dX7_type_60 : decode cX7_type 60 = .ok (.iconst 1, 1) := by decide +kernel
theorem dX7_type_61 : decode cX7_type 61 = .ok (.isub, 1) := by decide +kernel
theorem dX7_type_62 : decode cX7_type 62 = .ok (.istore 4, 2) := by decide +kernel
theorem dX7_type_64 : decode cX7_type 64 = .ok (.iload 4, 2) := by decide +kernel
theorem dX7_type_66 : decode cX7_type 66 = .ok (.ifCond .lt 22, 3) := by decide +kernel
theorem dX7_type_69 : decode cX7_type 69 = .ok (.aload_n 0, 1) := by decide +kernel
theorem dX7_type_70 : decode cX7_type 70 = .ok (.getfield 22, 3) := by decide +kernel
theorem dX7_type_73 : decode cX7_type 73 = .ok (.lload_n 1, 1) := by decide +kernel
theorem dX7_type_74 : decode cX7_type 74 = .ok (.iload 4, 2) := by decide +kernel
theorem dX7_type_76 : decode cX7_type 76 = .ok (.invokestatic 138, 3) := by decide +kernel
theorem dX7_type_79 : decode cX7_type 79 = .ok (.invokevirtual 148, 3) := by decide +kernel
theorem dX7_type_82 : decode cX7_type 82 = .ok (.iinc 4 (-1), 3) := by decide +kernel
theorem dX7_type_85 : decode cX7_type 85 = .ok (.goto (-21), 3) := by decide +kernel
theorem dX7_type_88 : decode cX7_type 88 = .ok (.aload_n 0, 1) := by decide +kernel
theorem dX7_type_89 : decode cX7_type 89 = .ok (.getfield 22, 3) := by decide +kernel
theorem dX7_type_92 : decode cX7_type 92 = .ok (.getfield 145, 3) := by decide +kernel
theorem dX7_type_95 : decode cX7_type 95 = .ok (.ireturn, 1) := by decide +kernel
theorem dX7_people_0 : decode cX7_people 0 = .ok (.aload_n 0, 1) := by decide +kernel
theorem dX7_people_1 : decode cX7_people 1 = .ok (.getfield 22, 3) := by decide +kernel
theorem dX7_people_4 : decode cX7_people 4 = .ok (.invokevirtual 152, 3) := by decide +kernel
theorem dX7_people_7 : decode cX7_people 7 = .ok (.istore_n 1, 1) := by decide +kernel
theorem dX7_people_8 : decode cX7_people 8 = .ok (.aload_n 0, 1) := by decide +kernel
theorem dX7_people_9 : decode cX7_people 9 = .ok (.getfield 22, 3) := by decide +kernel
theorem dX7_people_12 : decode cX7_people 12 = .ok (.iconst 0, 1) := by decide +kernel
theorem dX7_people_13 : decode cX7_people 13 = .ok (.putfield 145, 3) := by decide +kernel
theorem dX7_people_16 : decode cX7_people 16 = .ok (.iload_n 1, 1) := by decide +kernel
theorem dX7_people_17 : decode cX7_people 17 = .ok (.ifCond .ge 5, 3) := by decide +kernel
theorem dX7_people_20 : decode cX7_people 20 = .ok (.iload_n 1, 1) := by decide +kernel
theorem dX7_people_21 : decode cX7_people 21 = .ok (.ireturn, 1) := by decide +kernel
theorem dX7_people_22 : decode cX7_people 22 = .ok (.aload_n 0, 1) := by decide +kernel
theorem dX7_people_23 : decode cX7_people 23 = .ok (.getfield 10, 3) := by decide +kernel
theorem dX7_people_26 : decode cX7_people 26 = .ok (.aload_n 0, 1) := by decide +kernel
theorem dX7_people_27 : decode cX7_people 27 = .ok (.getfield 52, 3) := by decide +kernel
theorem dX7_people_30 : decode cX7_people 30 = .ok (.invokevirtual 156, 3) := by decide +kernel
theorem dX7_people_33 : decode cX7_people 33 = .ok (.aload_n 0, 1) := by decide +kernel
theorem dX7_people_34 : decode cX7_people 34 = .ok (.getfield 52, 3) := by decide +kernel
theorem dX7_people_37 : decode cX7_people 37 = .ok (.aload_n 0, 1) := by decide +kernel
theorem dX7_people_38 : decode cX7_people 38 = .ok (.getfield 10, 3) := by decide +kernel
theorem dX7_people_41 : decode cX7_people 41 = .ok (.getfield 115, 3) := by decide +kernel
theorem dX7_people_44 : decode cX7_people 44 = .ok (.invokevirtual 112, 3) := by decide +kernel
theorem dX7_people_47 : decode cX7_people 47 = .ok (.ifCond .ne 6, 3) := by decide +kernel
theorem dX7_people_50 : decode cX7_people 50 = .ok (.bipush (-2), 2) := by decide +kernel
theorem dX7_people_52 : decode cX7_people 52 = .ok (.ireturn, 1) := by decide +kernel
theorem dX7_people_53 : decode cX7_people 53 = .ok (.aload_n 0, 1) := by decide +kernel
theorem dX7_people_54 : decode cX7_people 54 = .ok (.getfield 10, 3) := by decide +kernel
theorem dX7_people_57 : decode cX7_people 57 = .ok (.iconst 0, 1) := by decide +kernel
theorem dX7_people_58 : decode cX7_people 58 = .ok (.putfield 71, 3) := by decide +kernel
theorem dX7_people_61 : decode cX7_people 61 = .ok (.iconst 0, 1) := by decide +kernel
theorem dX7_people_62 : decode cX7_people 62 = .ok (.istore_n 2, 1) := by decide +kernel
theorem dX7_people_63 : decode cX7_people 63 = .ok (.iload_n 2, 1) := by decide +kernel
theorem dX7_people_64 : decode cX7_people 64 = .ok (.iload_n 1, 1) := by decide +kernel
theorem dX7_people_65 : decode cX7_people 65 = .ok (.if_icmp .ge 35, 3) := by decide +kernel
theorem dX7_people_68 : decode cX7_people 68 = .ok (.aload_n 0, 1) := by decide +kernel
theorem dX7_people_69 : decode cX7_people 69 = .ok (.getfield 10, 3) := by decide +kernel
theorem dX7_people_72 : decode cX7_people 72 = .ok (.aload_n 0, 1) := by decide +kernel
theorem dX7_people_73 : decode cX7_people 73 = .ok (.getfield 22, 3) := by decide +kernel
theorem dX7_people_76 : decode cX7_people 76 = .ok (.getfield 159, 3) := by decide +kernel
theorem dX7_people_79 : decode cX7_people 79 = .ok (.iload_n 2, 1) := by decide +kernel
theorem dX7_people_80 : decode cX7_people 80 = .ok (.iaload, 1) := by decide +kernel
theorem dX7_people_81 : decode cX7_people 81 = .ok (.aload_n 0, 1) := by decide +kernel
theorem dX7_people_82 : decode cX7_people 82 = .ok (.getfield 22, 3) := by decide +kernel
theorem dX7_people_85 : decode cX7_people 85 = .ok (.getfield 162, 3) := by decide +kernel
theorem dX7_people_88 : decode cX7_people 88 = .ok (.iload_n 2, 1) := by decide +kernel
theorem dX7_people_89 : decode cX7_people 89 = .ok (.iaload, 1) := by decide +kernel
theorem dX7_people_90 : decode cX7_people 90 = .ok (.invokevirtual 75, 3) := by decide +kernel
theorem dX7_people_93 : decode cX7_people 93 = .ok (.pop, 1) := by decide +kernel
theorem dX7_people_94 : decode cX7_people 94 = .ok (.iinc 2 1, 3) := by decide +kernel
theorem dX7_people_97 : decode cX7_people 97 = .ok (.goto (-34), 3) := by decide +kernel
theorem dX7_people_100 : decode cX7_people 100 = .ok (.iload_n 1, 1) := by decide +kernel
theorem dX7_people_101 : decode cX7_people 101 = .ok (.ireturn, 1) := by decide +kernel
theorem dX7_evening_0 : decode cX7_evening 0 = .ok (.aload_n 0, 1) := by decide +kernel
theorem dX7_evening_1 : decode cX7_evening 1 = .ok (.getfield 22, 3) := by decide +kernel
theorem dX7_evening_4 : decode cX7_evening 4 = .ok (.invokevirtual 165, 3) := by decide +kernel
theorem dX7_evening_7 : decode cX7_evening 7 = .ok (.istore_n 1, 1) := by decide +kernel
theorem dX7_evening_8 : decode cX7_evening 8 = .ok (.aload_n 0, 1) := by decide +kernel
theorem dX7_evening_9 : decode cX7_evening 9 = .ok (.getfield 22, 3) := by decide +kernel
theorem dX7_evening_12 : decode cX7_evening 12 = .ok (.iconst 0, 1) := by decide +kernel
theorem dX7_evening_13 : decode cX7_evening 13 = .ok (.putfield 145, 3) := by decide +kernel
theorem dX7_evening_16 : decode cX7_evening 16 = .ok (.iconst 0, 1) := by decide +kernel
theorem dX7_evening_17 : decode cX7_evening 17 = .ok (.istore_n 2, 1) := by decide +kernel
theorem dX7_evening_18 : decode cX7_evening 18 = .ok (.iload_n 2, 1) := by decide +kernel
theorem dX7_evening_19 : decode cX7_evening 19 = .ok (.iload_n 1, 1) := by decide +kernel
theorem dX7_evening_20 : decode cX7_evening 20 = .ok (.if_icmp .ge 36, 3) := by decide +kernel
theorem dX7_evening_23 : decode cX7_evening 23 = .ok (.aload_n 0, 1) := by decide +kernel
theorem dX7_evening_24 : decode cX7_evening 24 = .ok (.aload_n 0, 1) := by decide +kernel
theorem dX7_evening_25 : decode cX7_evening 25 = .ok (.getfield 22, 3) := by decide +kernel
theorem dX7_evening_28 : decode cX7_evening 28 = .ok (.getfield 159, 3) := by decide +kernel
theorem dX7_evening_31 : decode cX7_evening 31 = .ok (.iload_n 2, 1) := by decide +kernel
theorem dX7_evening_32 : decode cX7_evening 32 = .ok (.iaload, 1) := by decide +kernel
theorem dX7_evening_33 : decode cX7_evening 33 = .ok (.aload_n 0, 1) := by decide +kernel
theorem dX7_evening_34 : decode cX7_evening 34 = .ok (.getfield 22, 3) := by decide +kernel
theorem dX7_evening_37 : decode cX7_evening 37 = .ok (.getfield 162, 3) := by decide +kernel
theorem dX7_evening_40 : decode cX7_evening 40 = .ok (.iload_n 2, 1) := by decide +kernel
theorem dX7_evening_41 : decode cX7_evening 41 = .ok (.iaload, 1) := by decide +kernel
theorem dX7_evening_42 : decode cX7_evening 42 = .ok (.invokevirtual 168, 3) := by decide +kernel
theorem dX7_evening_45 : decode cX7_evening 45 = .ok (.ifCond .ne 5, 3) := by decide +kernel
theorem dX7_evening_48 : decode cX7_evening 48 = .ok (.iload_n 2, 1) := by decide +kernel
theorem dX7_evening_49 : decode cX7_evening 49 = .ok (.ireturn, 1) := by decide +kernel
theorem dX7_evening_50 : decode cX7_evening 50 = .ok (.iinc 2 1, 3) := by decide +kernel
theorem dX7_evening_53 : decode cX7_evening 53 = .ok (.goto (-35), 3) := by decide +kernel
theorem dX7_evening_56 : decode cX7_evening 56 = .ok (.iload_n 1, 1) := by decide +kernel
theorem dX7_evening_57 : decode cX7_evening 57 = .ok (.ireturn, 1) := by decide +kernel
theorem dX7_count_0 : decode cX7_count 0 = .ok (.iload_n 1, 1) := by decide +kernel
theorem dX7_count_1 : decode cX7_count 1 = .ok (.tableswitch 103 0 6 #[43, 51, 59, 67, 77, 85, 95], 43) := by decide +kernel
theorem dX7_count_44 : decode cX7_count 44 = .ok (.aload_n 0, 1) := by decide +kernel
theorem dX7_count_45 : decode cX7_count 45 = .ok (.getfield 10, 3) := by decide +kernel
theorem dX7_count_48 : decode cX7_count 48 = .ok (.getfield 71, 3) := by decide +kernel
theorem dX7_count_51 : decode cX7_count 51 = .ok (.ireturn, 1) := by decide +kernel
theorem dX7_count_52 : decode cX7_count 52 = .ok (.aload_n 0, 1) := by decide +kernel
theorem dX7_count_53 : decode cX7_count 53 = .ok (.getfield 10, 3) := by decide +kernel
theorem dX7_count_56 : decode cX7_count 56 = .ok (.getfield 172, 3) := by decide +kernel
theorem dX7_count_59 : decode cX7_count 59 = .ok (.ireturn, 1) := by decide +kernel
theorem dX7_count_60 : decode cX7_count 60 = .ok (.aload_n 0, 1) := by decide +kernel
theorem dX7_count_61 : decode cX7_count 61 = .ok (.getfield 10, 3) := by decide +kernel
theorem dX7_count_64 : decode cX7_count 64 = .ok (.invokevirtual 175, 3) := by decide +kernel
theorem dX7_count_67 : decode cX7_count 67 = .ok (.ireturn, 1) := by decide +kernel
theorem dX7_count_68 : decode cX7_count 68 = .ok (.aload_n 0, 1) := by decide +kernel
theorem dX7_count_69 : decode cX7_count 69 = .ok (.getfield 10, 3) := by decide +kernel
theorem dX7_count_72 : decode cX7_count 72 = .ok (.bipush 12, 2) := by decide +kernel
theorem dX7_count_74 : decode cX7_count 74 = .ok (.invokevirtual 95, 3) := by decide +kernel
theorem dX7_count_77 : decode cX7_count 77 = .ok (.ireturn, 1) := by decide +kernel
theorem dX7_count_78 : decode cX7_count 78 = .ok (.aload_n 0, 1) := by decide +kernel
theorem dX7_count_79 : decode cX7_count 79 = .ok (.getfield 10, 3) := by decide +kernel
theorem dX7_count_82 : decode cX7_count 82 = .ok (.invokevirtual 178, 3) := by decide +kernel
theorem dX7_count_85 : decode cX7_count 85 = .ok (.ireturn, 1) := by decide +kernel
theorem dX7_count_86 : decode cX7_count 86 = .ok (.aload_n 0, 1) := by decide +kernel
theorem dX7_count_87 : decode cX7_count 87 = .ok (.getfield 10, 3) := by decide +kernel
theorem dX7_count_90 : decode cX7_count 90 = .ok (.bipush 13, 2) := by decide +kernel
theorem dX7_count_92 : decode cX7_count 92 = .ok (.invokevirtual 95, 3) := by decide +kernel
theorem dX7_count_95 : decode cX7_count 95 = .ok (.ireturn, 1) := by decide +kernel
theorem dX7_count_96 : decode cX7_count 96 = .ok (.aload_n 0, 1) := by decide +kernel
theorem dX7_count_97 : decode cX7_count 97 = .ok (.getfield 10, 3) := by decide +kernel
theorem dX7_count_100 : decode cX7_count 100 = .ok (.invokevirtual 181, 3) := by decide +kernel
theorem dX7_count_103 : decode cX7_count 103 = .ok (.ireturn, 1) := by decide +kernel
theorem dX7_count_104 : decode cX7_count 104 = .ok (.iconst (-1), 1) := by decide +kernel
theorem dX7_count_105 : decode cX7_count 105 = .ok (.ireturn, 1) := by decide +kernel
theorem dX7_board_0 : decode cX7_board 0 = .ok (.aload_n 0, 1) := by decide +kernel
theorem dX7_board_1 : decode cX7_board 1 = .ok (.getfield 10, 3) := by decide +kernel
theorem dX7_board_4 : decode cX7_board 4 = .ok (.iload_n 1, 1) := by decide +kernel
theorem dX7_board_5 : decode cX7_board 5 = .ok (.invokevirtual 184, 3) := by decide +kernel
theorem dX7_board_8 : decode cX7_board 8 = .ok (.ifCond .ne 5, 3) := by decide +kernel
theorem dX7_board_11 : decode cX7_board 11 = .ok (.iconst (-1), 1) := by decide +kernel
theorem dX7_board_12 : decode cX7_board 12 = .ok (.ireturn, 1) := by decide +kernel
theorem dX7_board_13 : decode cX7_board 13 = .ok (.aload_n 0, 1) := by decide +kernel
theorem dX7_board_14 : decode cX7_board 14 = .ok (.getfield 10, 3) := by decide +kernel
theorem dX7_board_17 : decode cX7_board 17 = .ok (.iload_n 1, 1) := by decide +kernel
theorem dX7_board_18 : decode cX7_board 18 = .ok (.aload_n 0, 1) := by decide +kernel
theorem dX7_board_19 : decode cX7_board 19 = .ok (.getfield 52, 3) := by decide +kernel
theorem dX7_board_22 : decode cX7_board 22 = .ok (.invokevirtual 187, 3) := by decide +kernel
theorem dX7_board_25 : decode cX7_board 25 = .ok (.ifCond .ne 6, 3) := by decide +kernel
theorem dX7_board_28 : decode cX7_board 28 = .ok (.bipush (-2), 2) := by decide +kernel
theorem dX7_board_30 : decode cX7_board 30 = .ok (.ireturn, 1) := by decide +kernel
theorem dX7_board_31 : decode cX7_board 31 = .ok (.aload_n 0, 1) := by decide +kernel
theorem dX7_board_32 : decode cX7_board 32 = .ok (.getfield 10, 3) := by decide +kernel
theorem dX7_board_35 : decode cX7_board 35 = .ok (.iload_n 1, 1) := by decide +kernel
theorem dX7_board_36 : decode cX7_board 36 = .ok (.invokevirtual 191, 3) := by decide +kernel
theorem dX7_board_39 : decode cX7_board 39 = .ok (.aload_n 0, 1) := by decide +kernel
theorem dX7_board_40 : decode cX7_board 40 = .ok (.getfield 10, 3) := by decide +kernel
theorem dX7_board_43 : decode cX7_board 43 = .ok (.aload_n 0, 1) := by decide +kernel
theorem dX7_board_44 : decode cX7_board 44 = .ok (.getfield 10, 3) := by decide +kernel
theorem dX7_board_47 : decode cX7_board 47 = .ok (.aload_n 0, 1) := by decide +kernel
theorem dX7_board_48 : decode cX7_board 48 = .ok (.getfield 10, 3) := by decide +kernel
theorem dX7_board_51 : decode cX7_board 51 = .ok (.invokevirtual 175, 3) := by decide +kernel
theorem dX7_board_54 : decode cX7_board 54 = .ok (.invokevirtual 95, 3) := by decide +kernel
theorem dX7_board_57 : decode cX7_board 57 = .ok (.invokevirtual 102, 3) := by decide +kernel
theorem dX7_board_60 : decode cX7_board 60 = .ok (.ireturn, 1) := by decide +kernel
theorem dX7_leave_0 : decode cX7_leave 0 = .ok (.aload_n 0, 1) := by decide +kernel
theorem dX7_leave_1 : decode cX7_leave 1 = .ok (.getfield 10, 3) := by decide +kernel
theorem dX7_leave_4 : decode cX7_leave 4 = .ok (.iload_n 1, 1) := by decide +kernel
theorem dX7_leave_5 : decode cX7_leave 5 = .ok (.invokevirtual 194, 3) := by decide +kernel
theorem dX7_leave_8 : decode cX7_leave 8 = .ok (.ifCond .ne 5, 3) := by decide +kernel
theorem dX7_leave_11 : decode cX7_leave 11 = .ok (.iconst (-1), 1) := by decide +kernel
theorem dX7_leave_12 : decode cX7_leave 12 = .ok (.ireturn, 1) := by decide +kernel
theorem dX7_leave_13 : decode cX7_leave 13 = .ok (.aload_n 0, 1) := by decide +kernel
theorem dX7_leave_14 : decode cX7_leave 14 = .ok (.getfield 10, 3) := by decide +kernel
theorem dX7_leave_17 : decode cX7_leave 17 = .ok (.iload_n 1, 1) := by decide +kernel
theorem dX7_leave_18 : decode cX7_leave 18 = .ok (.aload_n 0, 1) := by decide +kernel
theorem dX7_leave_19 : decode cX7_leave 19 = .ok (.getfield 52, 3) := by decide +kernel
theorem dX7_leave_22 : decode cX7_leave 22 = .ok (.invokevirtual 197, 3) := by decide +kernel
theorem dX7_leave_25 : decode cX7_leave 25 = .ok (.ifCond .ne 6, 3) := by decide +kernel
theorem dX7_leave_28 : decode cX7_leave 28 = .ok (.bipush (-2), 2) := by decide +kernel
theorem dX7_leave_30 : decode cX7_leave 30 = .ok (.ireturn, 1) := by decide +kernel
theorem dX7_leave_31 : decode cX7_leave 31 = .ok (.aload_n 0, 1) := by decide +kernel
theorem dX7_leave_32 : decode cX7_leave 32 = .ok (.getfield 10, 3) := by decide +kernel
theorem dX7_leave_35 : decode cX7_leave 35 = .ok (.iload_n 1, 1) := by decide +kernel
theorem dX7_leave_36 : decode cX7_leave 36 = .ok (.invokevirtual 200, 3) := by decide +kernel
theorem dX7_leave_39 : decode cX7_leave 39 = .ok (.aload_n 0, 1) := by decide +kernel
theorem dX7_leave_40 : decode cX7_leave 40 = .ok (.getfield 10, 3) := by decide +kernel
theorem dX7_leave_43 : decode cX7_leave 43 = .ok (.getfield 172, 3) := by decide +kernel
theorem dX7_leave_46 : decode cX7_leave 46 = .ok (.aload_n 0, 1) := by decide +kernel
theorem dX7_leave_47 : decode cX7_leave 47 = .ok (.getfield 10, 3) := by decide +kernel
theorem dX7_leave_50 : decode cX7_leave 50 = .ok (.getfield 92, 3) := by decide +kernel
theorem dX7_leave_53 : decode cX7_leave 53 = .ok (.iload_n 1, 1) := by decide +kernel
theorem dX7_leave_54 : decode cX7_leave 54 = .ok (.iaload, 1) := by decide +kernel
theorem dX7_leave_55 : decode cX7_leave 55 = .ok (.isub, 1) := by decide +kernel
theorem dX7_leave_56 : decode cX7_leave 56 = .ok (.ireturn, 1) := by decide +kernel
theorem dX7_sand_0 : decode cX7_sand 0 = .ok (.iload_n 1, 1) := by decide +kernel
theorem dX7_sand_1 : decode cX7_sand 1 = .ok (.ifCond .lt 9, 3) := by decide +kernel
theorem dX7_sand_4 : decode cX7_sand 4 = .ok (.iload_n 1, 1) := by decide +kernel
theorem dX7_sand_5 : decode cX7_sand 5 = .ok (.bipush 99, 2) := by decide +kernel
theorem dX7_sand_7 : decode cX7_sand 7 = .ok (.if_icmp .le 5, 3) := by decide +kernel
theorem dX7_sand_10 : decode cX7_sand 10 = .ok (.iconst (-1), 1) := by decide +kernel
theorem dX7_sand_11 : decode cX7_sand 11 = .ok (.ireturn, 1) := by decide +kernel
theorem dX7_sand_12 : decode cX7_sand 12 = .ok (.aload_n 0, 1) := by decide +kernel
theorem dX7_sand_13 : decode cX7_sand 13 = .ok (.getfield 10, 3) := by decide +kernel
theorem dX7_sand_16 : decode cX7_sand 16 = .ok (.iload_n 1, 1) := by decide +kernel
theorem dX7_sand_17 : decode cX7_sand 17 = .ok (.aload_n 0, 1) := by decide +kernel
theorem dX7_sand_18 : decode cX7_sand 18 = .ok (.getfield 52, 3) := by decide +kernel
theorem dX7_sand_21 : decode cX7_sand 21 = .ok (.invokevirtual 203, 3) := by decide +kernel
theorem dX7_sand_24 : decode cX7_sand 24 = .ok (.ifCond .ne 6, 3) := by decide +kernel
theorem dX7_sand_27 : decode cX7_sand 27 = .ok (.bipush (-2), 2) := by decide +kernel
theorem dX7_sand_29 : decode cX7_sand 29 = .ok (.ireturn, 1) := by decide +kernel
theorem dX7_sand_30 : decode cX7_sand 30 = .ok (.aload_n 0, 1) := by decide +kernel
theorem dX7_sand_31 : decode cX7_sand 31 = .ok (.getfield 10, 3) := by decide +kernel
theorem dX7_sand_34 : decode cX7_sand 34 = .ok (.invokevirtual 175, 3) := by decide +kernel
theorem dX7_sand_37 : decode cX7_sand 37 = .ok (.istore_n 2, 1) := by decide +kernel
theorem dX7_sand_38 : decode cX7_sand 38 = .ok (.aload_n 0, 1) := by decide +kernel
theorem dX7_sand_39 : decode cX7_sand 39 = .ok (.getfield 10, 3) := by decide +kernel
theorem dX7_sand_42 : decode cX7_sand 42 = .ok (.getfield 105, 3) := by decide +kernel
theorem dX7_sand_45 : decode cX7_sand 45 = .ok (.iload_n 2, 1) := by decide +kernel
theorem dX7_sand_46 : decode cX7_sand 46 = .ok (.iaload, 1) := by decide +kernel
theorem dX7_sand_47 : decode cX7_sand 47 = .ok (.istore_n 3, 1) := by decide +kernel
theorem dX7_sand_48 : decode cX7_sand 48 = .ok (.aload_n 0, 1) := by decide +kernel
theorem dX7_sand_49 : decode cX7_sand 49 = .ok (.getfield 10, 3) := by decide +kernel
theorem dX7_sand_52 : decode cX7_sand 52 = .ok (.getfield 105, 3) := by decide +kernel
theorem dX7_sand_55 : decode cX7_sand 55 = .ok (.iload_n 2, 1) := by decide +kernel
theorem dX7_sand_56 : decode cX7_sand 56 = .ok (.iload_n 1, 1) := by decide +kernel
theorem dX7_sand_57 : decode cX7_sand 57 = .ok (.iastore, 1) := by decide +kernel
theorem dX7_sand_58 : decode cX7_sand 58 = .ok (.iload_n 3, 1) := by decide +kernel
theorem dX7_sand_59 : decode cX7_sand 59 = .ok (.ireturn, 1) := by decide +kernel
theorem dX7_turn_0 : decode cX7_turn 0 = .ok (.iload_n 1, 1) := by decide +kernel
theorem dX7_turn_1 : decode cX7_turn 1 = .ok (.iconst 1, 1) := by decide +kernel
theorem dX7_turn_2 : decode cX7_turn 2 = .ok (.if_icmp .lt 9, 3) := by decide +kernel
theorem dX7_turn_5 : decode cX7_turn 5 = .ok (.iload_n 1, 1) := by decide +kernel
theorem dX7_turn_6 : decode cX7_turn 6 = .ok (.bipush 60, 2) := by decide +kernel
theorem dX7_turn_8 : decode cX7_turn 8 = .ok (.if_icmp .le 5, 3) := by decide +kernel
theorem dX7_turn_11 : decode cX7_turn 11 = .ok (.iconst (-1), 1) := by decide +kernel
theorem dX7_turn_12 : decode cX7_turn 12 = .ok (.ireturn, 1) := by decide +kernel
theorem dX7_turn_13 : decode cX7_turn 13 = .ok (.aload_n 0, 1) := by decide +kernel
theorem dX7_turn_14 : decode cX7_turn 14 = .ok (.getfield 10, 3) := by decide +kernel
theorem dX7_turn_17 : decode cX7_turn 17 = .ok (.getfield 172, 3) := by decide +kernel
theorem dX7_turn_20 : decode cX7_turn 20 = .ok (.iload_n 1, 1) := by decide +kernel
theorem dX7_turn_21 : decode cX7_turn 21 = .ok (.iadd, 1) := by decide +kernel
theorem dX7_turn_22 : decode cX7_turn 22 = .ok (.sipush 999, 3) := by decide +kernel
theorem dX7_turn_25 : decode cX7_turn 25 = .ok (.if_icmp .le 6, 3) := by decide +kernel
theorem dX7_turn_28 : decode cX7_turn 28 = .ok (.bipush (-3), 2) := by decide +kernel
theorem dX7_turn_30 : decode cX7_turn 30 = .ok (.ireturn, 1) := by decide +kernel
theorem dX7_turn_31 : decode cX7_turn 31 = .ok (.aload_n 0, 1) := by decide +kernel
theorem dX7_turn_32 : decode cX7_turn 32 = .ok (.getfield 10, 3) := by decide +kernel
theorem dX7_turn_35 : decode cX7_turn 35 = .ok (.dup, 1) := by decide +kernel
theorem dX7_turn_36 : decode cX7_turn 36 = .ok (.getfield 172, 3) := by decide +kernel
theorem dX7_turn_39 : decode cX7_turn 39 = .ok (.iload_n 1, 1) := by decide +kernel
theorem dX7_turn_40 : decode cX7_turn 40 = .ok (.iadd, 1) := by decide +kernel
theorem dX7_turn_41 : decode cX7_turn 41 = .ok (.putfield 172, 3) := by decide +kernel
theorem dX7_turn_44 : decode cX7_turn 44 = .ok (.aload_n 0, 1) := by decide +kernel
theorem dX7_turn_45 : decode cX7_turn 45 = .ok (.getfield 10, 3) := by decide +kernel
theorem dX7_turn_48 : decode cX7_turn 48 = .ok (.getfield 172, 3) := by decide +kernel
theorem dX7_turn_51 : decode cX7_turn 51 = .ok (.ireturn, 1) := by decide +kernel
theorem dX7_may_0 : decode cX7_may 0 = .ok (.iload_n 1, 1) := by decide +kernel
theorem dX7_may_1 : decode cX7_may 1 = .ok (.ifCond .eq 10, 3) := by decide +kernel
theorem dX7_may_4 : decode cX7_may 4 = .ok (.iload_n 1, 1) := by decide +kernel
theorem dX7_may_5 : decode cX7_may 5 = .ok (.iconst 1, 1) := by decide +kernel
theorem dX7_may_6 : decode cX7_may 6 = .ok (.if_icmp .eq 5, 3) := by decide +kernel
theorem dX7_may_9 : decode cX7_may 9 = .ok (.iconst (-1), 1) := by decide +kernel
theorem dX7_may_10 : decode cX7_may 10 = .ok (.ireturn, 1) := by decide +kernel
theorem dX7_may_11 : decode cX7_may 11 = .ok (.iconst 0, 1) := by decide +kernel
theorem dX7_may_12 : decode cX7_may 12 = .ok (.istore_n 2, 1) := by decide +kernel
theorem dX7_may_13 : decode cX7_may 13 = .ok (.iconst 0, 1) := by decide +kernel
theorem dX7_may_14 : decode cX7_may 14 = .ok (.istore_n 3, 1) := by decide +kernel
theorem dX7_may_15 : decode cX7_may 15 = .ok (.iload_n 3, 1) := by decide +kernel
theorem dX7_may_16 : decode cX7_may 16 = .ok (.aload_n 0, 1) := by decide +kernel
theorem dX7_may_17 : decode cX7_may 17 = .ok (.getfield 10, 3) := by decide +kernel
theorem dX7_may_20 : decode cX7_may 20 = .ok (.getfield 71, 3) := by decide +kernel
theorem dX7_may_23 : decode cX7_may 23 = .ok (.if_icmp .ge 91, 3) := by decide +kernel
theorem dX7_may_26 : decode cX7_may 26 = .ok (.iload_n 1, 1) := by decide +kernel
theorem dX7_may_27 : decode cX7_may 27 = .ok (.ifCond .ne 37, 3) := by decide +kernel
theorem dX7_may_30 : decode cX7_may 30 = .ok (.aload_n 0, 1) := by decide +kernel
theorem dX7_may_31 : decode cX7_may 31 = .ok (.getfield 10, 3) := by decide +kernel
theorem dX7_may_34 : decode cX7_may 34 = .ok (.iload_n 3, 1) := by decide +kernel
theorem dX7_may_35 : decode cX7_may 35 = .ok (.invokevirtual 184, 3) := by decide +kernel
theorem dX7_may_38 : decode cX7_may 38 = .ok (.ifCond .eq 22, 3) := by decide +kernel
theorem dX7_may_41 : decode cX7_may 41 = .ok (.aload_n 0, 1) := by decide +kernel
theorem dX7_may_42 : decode cX7_may 42 = .ok (.getfield 10, 3) := by decide +kernel
theorem dX7_may_45 : decode cX7_may 45 = .ok (.iload_n 3, 1) := by decide +kernel
theorem dX7_may_46 : decode cX7_may 46 = .ok (.aload_n 0, 1) := by decide +kernel
theorem dX7_may_47 : decode cX7_may 47 = .ok (.getfield 52, 3) := by decide +kernel
theorem dX7_may_50 : decode cX7_may 50 = .ok (.invokevirtual 187, 3) := by decide +kernel
theorem dX7_may_53 : decode cX7_may 53 = .ok (.ifCond .eq 7, 3) := by decide +kernel
theorem dX7_may_56 : decode cX7_may 56 = .ok (.iconst 1, 1) := by decide +kernel
theorem dX7_may_57 : decode cX7_may 57 = .ok (.goto 38, 3) := by decide +kernel
theorem dX7_may_60 : decode cX7_may 60 = .ok (.iconst 0, 1) := by decide +kernel
theorem dX7_may_61 : decode cX7_may 61 = .ok (.goto 34, 3) := by decide +kernel
theorem dX7_may_64 : decode cX7_may 64 = .ok (.aload_n 0, 1) := by decide +kernel
theorem dX7_may_65 : decode cX7_may 65 = .ok (.getfield 10, 3) := by decide +kernel
theorem dX7_may_68 : decode cX7_may 68 = .ok (.iload_n 3, 1) := by decide +kernel
theorem dX7_may_69 : decode cX7_may 69 = .ok (.invokevirtual 194, 3) := by decide +kernel
theorem dX7_may_72 : decode cX7_may 72 = .ok (.ifCond .eq 22, 3) := by decide +kernel
theorem dX7_may_75 : decode cX7_may 75 = .ok (.aload_n 0, 1) := by decide +kernel
theorem dX7_may_76 : decode cX7_may 76 = .ok (.getfield 10, 3) := by decide +kernel
theorem dX7_may_79 : decode cX7_may 79 = .ok (.iload_n 3, 1) := by decide +kernel
theorem dX7_may_80 : decode cX7_may 80 = .ok (.aload_n 0, 1) := by decide +kernel
theorem dX7_may_81 : decode cX7_may 81 = .ok (.getfield 52, 3) := by decide +kernel
theorem dX7_may_84 : decode cX7_may 84 = .ok (.invokevirtual 197, 3) := by decide +kernel
theorem dX7_may_87 : decode cX7_may 87 = .ok (.ifCond .eq 7, 3) := by decide +kernel
theorem dX7_may_90 : decode cX7_may 90 = .ok (.iconst 1, 1) := by decide +kernel
theorem dX7_may_91 : decode cX7_may 91 = .ok (.goto 4, 3) := by decide +kernel
theorem dX7_may_94 : decode cX7_may 94 = .ok (.iconst 0, 1) := by decide +kernel
theorem dX7_may_95 : decode cX7_may 95 = .ok (.istore 4, 2) := by decide +kernel
theorem dX7_may_97 : decode cX7_may 97 = .ok (.iload 4, 2) := by decide +kernel
theorem dX7_may_99 : decode cX7_may 99 = .ok (.ifCond .eq 9, 3) := by decide +kernel
theorem dX7_may_102 : decode cX7_may 102 = .ok (.iload_n 2, 1) := by decide +kernel
theorem dX7_may_103 : decode cX7_may 103 = .ok (.iconst 1, 1) := by decide +kernel
theorem dX7_may_104 : decode cX7_may 104 = .ok (.iload_n 3, 1) := by decide +kernel
theorem dX7_may_105 : decode cX7_may 105 = .ok (.ishl, 1) := by decide +kernel
theorem dX7_may_106 : decode cX7_may 106 = .ok (.ior, 1) := by decide +kernel
theorem dX7_may_107 : decode cX7_may 107 = .ok (.istore_n 2, 1) := by decide +kernel
theorem dX7_may_108 : decode cX7_may 108 = .ok (.iinc 3 1, 3) := by decide +kernel
theorem dX7_may_111 : decode cX7_may 111 = .ok (.goto (-96), 3) := by decide +kernel
theorem dX7_may_114 : decode cX7_may 114 = .ok (.iload_n 2, 1) := by decide +kernel
theorem dX7_may_115 : decode cX7_may 115 = .ok (.ireturn, 1) := by decide +kernel
theorem dX7_soonest_0 : decode cX7_soonest 0 = .ok (.aload_n 0, 1) := by decide +kernel
theorem dX7_soonest_1 : decode cX7_soonest 1 = .ok (.iload_n 1, 1) := by decide +kernel
theorem dX7_soonest_2 : decode cX7_soonest 2 = .ok (.iload_n 2, 1) := by decide +kernel
theorem dX7_soonest_3 : decode cX7_soonest 3 = .ok (.invokevirtual 206, 3) := by decide +kernel
theorem dX7_soonest_6 : decode cX7_soonest 6 = .ok (.ifCond .ne 5, 3) := by decide +kernel
theorem dX7_soonest_9 : decode cX7_soonest 9 = .ok (.iconst (-1), 1) := by decide +kernel
theorem dX7_soonest_10 : decode cX7_soonest 10 = .ok (.ireturn, 1) := by decide +kernel
theorem dX7_soonest_11 : decode cX7_soonest 11 = .ok (.aload_n 0, 1) := by decide +kernel
theorem dX7_soonest_12 : decode cX7_soonest 12 = .ok (.getfield 31, 3) := by decide +kernel
theorem dX7_soonest_15 : decode cX7_soonest 15 = .ok (.iload_n 1, 1) := by decide +kernel
theorem dX7_soonest_16 : decode cX7_soonest 16 = .ok (.iload_n 2, 1) := by decide +kernel
theorem dX7_soonest_17 : decode cX7_soonest 17 = .ok (.invokevirtual 209, 3) := by decide +kernel
theorem dX7_soonest_20 : decode cX7_soonest 20 = .ok (.ifCond .eq 13, 3) := by decide +kernel
theorem dX7_soonest_23 : decode cX7_soonest 23 = .ok (.aload_n 0, 1) := by decide +kernel
theorem dX7_soonest_24 : decode cX7_soonest 24 = .ok (.getfield 31, 3) := by decide +kernel
theorem dX7_soonest_27 : decode cX7_soonest 27 = .ok (.invokevirtual 212, 3) := by decide +kernel
theorem dX7_soonest_30 : decode cX7_soonest 30 = .ok (.goto 5, 3) := by decide +kernel
theorem dX7_soonest_33 : decode cX7_soonest 33 = .ok (.bipush (-4), 2) := by decide +kernel
theorem dX7_soonest_35 : decode cX7_soonest 35 = .ok (.ireturn, 1) := by decide +kernel
theorem dX7_when_0 : decode cX7_when 0 = .ok (.aload_n 0, 1) := by decide +kernel
theorem dX7_when_1 : decode cX7_when 1 = .ok (.iload_n 1, 1) := by decide +kernel
theorem dX7_when_2 : decode cX7_when 2 = .ok (.iload_n 2, 1) := by decide +kernel
theorem dX7_when_3 : decode cX7_when 3 = .ok (.invokevirtual 206, 3) := by decide +kernel
theorem dX7_when_6 : decode cX7_when 6 = .ok (.ifCond .eq 22, 3) := by decide +kernel
theorem dX7_when_9 : decode cX7_when 9 = .ok (.aload_n 0, 1) := by decide +kernel
theorem dX7_when_10 : decode cX7_when 10 = .ok (.getfield 10, 3) := by decide +kernel
theorem dX7_when_13 : decode cX7_when 13 = .ok (.iload_n 3, 1) := by decide +kernel
theorem dX7_when_14 : decode cX7_when 14 = .ok (.invokevirtual 79, 3) := by decide +kernel
theorem dX7_when_17 : decode cX7_when 17 = .ok (.ifCond .eq 11, 3) := by decide +kernel
theorem dX7_when_20 : decode cX7_when 20 = .ok (.iload_n 1, 1) := by decide +kernel
theorem dX7_when_21 : decode cX7_when 21 = .ok (.iload_n 3, 1) := by decide +kernel
theorem dX7_when_22 : decode cX7_when 22 = .ok (.ishr, 1) := by decide +kernel
theorem dX7_when_23 : decode cX7_when 23 = .ok (.iconst 1, 1) := by decide +kernel
theorem dX7_when_24 : decode cX7_when 24 = .ok (.iand, 1) := by decide +kernel
theorem dX7_when_25 : decode cX7_when 25 = .ok (.ifCond .ne 5, 3) := by decide +kernel
theorem dX7_when_28 : decode cX7_when 28 = .ok (.iconst (-1), 1) := by decide +kernel
theorem dX7_when_29 : decode cX7_when 29 = .ok (.ireturn, 1) := by decide +kernel
theorem dX7_when_30 : decode cX7_when 30 = .ok (.aload_n 0, 1) := by decide +kernel
theorem dX7_when_31 : decode cX7_when 31 = .ok (.getfield 31, 3) := by decide +kernel
theorem dX7_when_34 : decode cX7_when 34 = .ok (.iload_n 1, 1) := by decide +kernel
theorem dX7_when_35 : decode cX7_when 35 = .ok (.iload_n 2, 1) := by decide +kernel
theorem dX7_when_36 : decode cX7_when 36 = .ok (.invokevirtual 209, 3) := by decide +kernel
theorem dX7_when_39 : decode cX7_when 39 = .ok (.ifCond .eq 14, 3) := by decide +kernel
theorem dX7_when_42 : decode cX7_when 42 = .ok (.aload_n 0, 1) := by decide +kernel
theorem dX7_when_43 : decode cX7_when 43 = .ok (.getfield 31, 3) := by decide +kernel
theorem dX7_when_46 : decode cX7_when 46 = .ok (.iload_n 3, 1) := by decide +kernel
theorem dX7_when_47 : decode cX7_when 47 = .ok (.invokevirtual 215, 3) := by decide +kernel
theorem dX7_when_50 : decode cX7_when 50 = .ok (.goto 5, 3) := by decide +kernel
theorem dX7_when_53 : decode cX7_when 53 = .ok (.bipush (-4), 2) := by decide +kernel
theorem dX7_when_55 : decode cX7_when 55 = .ok (.ireturn, 1) := by decide +kernel
theorem dX7_empty_0 : decode cX7_empty 0 = .ok (.aload_n 0, 1) := by decide +kernel
theorem dX7_empty_1 : decode cX7_empty 1 = .ok (.getfield 38, 3) := by decide +kernel
theorem dX7_empty_4 : decode cX7_empty 4 = .ok (.invokevirtual 218, 3) := by decide +kernel
theorem dX7_empty_7 : decode cX7_empty 7 = .ok (.ireturn, 1) := by decide +kernel
theorem dX7_least_0 : decode cX7_least 0 = .ok (.aload_n 0, 1) := by decide +kernel
theorem dX7_least_1 : decode cX7_least 1 = .ok (.getfield 10, 3) := by decide +kernel
theorem dX7_least_4 : decode cX7_least 4 = .ok (.iload_n 1, 1) := by decide +kernel
theorem dX7_least_5 : decode cX7_least 5 = .ok (.invokevirtual 184, 3) := by decide +kernel
theorem dX7_least_8 : decode cX7_least 8 = .ok (.ifCond .eq 12, 3) := by decide +kernel
theorem dX7_least_11 : decode cX7_least 11 = .ok (.iload_n 2, 1) := by decide +kernel
theorem dX7_least_12 : decode cX7_least 12 = .ok (.ifCond .lt 8, 3) := by decide +kernel
theorem dX7_least_15 : decode cX7_least 15 = .ok (.iload_n 2, 1) := by decide +kernel
theorem dX7_least_16 : decode cX7_least 16 = .ok (.iconst 1, 1) := by decide +kernel
theorem dX7_least_17 : decode cX7_least 17 = .ok (.if_icmp .le 5, 3) := by decide +kernel
theorem dX7_least_20 : decode cX7_least 20 = .ok (.iconst (-1), 1) := by decide +kernel
theorem dX7_least_21 : decode cX7_least 21 = .ok (.ireturn, 1) := by decide +kernel
theorem dX7_least_22 : decode cX7_least 22 = .ok (.aload_n 0, 1) := by decide +kernel
theorem dX7_least_23 : decode cX7_least 23 = .ok (.getfield 10, 3) := by decide +kernel
theorem dX7_least_26 : decode cX7_least 26 = .ok (.invokevirtual 175, 3) := by decide +kernel
theorem dX7_least_29 : decode cX7_least 29 = .ok (.istore_n 3, 1) := by decide +kernel
theorem dX7_least_30 : decode cX7_least 30 = .ok (.aload_n 0, 1) := by decide +kernel
theorem dX7_least_31 : decode cX7_least 31 = .ok (.getfield 10, 3) := by decide +kernel
theorem dX7_least_34 : decode cX7_least 34 = .ok (.aload_n 0, 1) := by decide +kernel
theorem dX7_least_35 : decode cX7_least 35 = .ok (.getfield 10, 3) := by decide +kernel
theorem dX7_least_38 : decode cX7_least 38 = .ok (.iload_n 3, 1) := by decide +kernel
theorem dX7_least_39 : decode cX7_least 39 = .ok (.invokevirtual 95, 3) := by decide +kernel
theorem dX7_least_42 : decode cX7_least 42 = .ok (.iconst 1, 1) := by decide +kernel
theorem dX7_least_43 : decode cX7_least 43 = .ok (.iload_n 1, 1) := by decide +kernel
theorem dX7_least_44 : decode cX7_least 44 = .ok (.ishl, 1) := by decide +kernel
theorem dX7_least_45 : decode cX7_least 45 = .ok (.ior, 1) := by decide +kernel
theorem dX7_least_46 : decode cX7_least 46 = .ok (.invokevirtual 221, 3) := by decide +kernel
theorem dX7_least_49 : decode cX7_least 49 = .ok (.ifCond .ne 6, 3) := by decide +kernel
theorem dX7_least_52 : decode cX7_least 52 = .ok (.bipush (-4), 2) := by decide +kernel
theorem dX7_least_54 : decode cX7_least 54 = .ok (.ireturn, 1) := by decide +kernel
theorem dX7_least_55 : decode cX7_least 55 = .ok (.aload_n 0, 1) := by decide +kernel
theorem dX7_least_56 : decode cX7_least 56 = .ok (.getfield 10, 3) := by decide +kernel
theorem dX7_least_59 : decode cX7_least 59 = .ok (.aload_n 0, 1) := by decide +kernel
theorem dX7_least_60 : decode cX7_least 60 = .ok (.getfield 52, 3) := by decide +kernel
theorem dX7_least_63 : decode cX7_least 63 = .ok (.invokevirtual 108, 3) := by decide +kernel
theorem dX7_least_66 : decode cX7_least 66 = .ok (.aload_n 0, 1) := by decide +kernel
theorem dX7_least_67 : decode cX7_least 67 = .ok (.getfield 52, 3) := by decide +kernel
theorem dX7_least_70 : decode cX7_least 70 = .ok (.iload_n 3, 1) := by decide +kernel
theorem dX7_least_71 : decode cX7_least 71 = .ok (.aload_n 0, 1) := by decide +kernel
theorem dX7_least_72 : decode cX7_least 72 = .ok (.getfield 10, 3) := by decide +kernel
theorem dX7_least_75 : decode cX7_least 75 = .ok (.getfield 86, 3) := by decide +kernel
theorem dX7_least_78 : decode cX7_least 78 = .ok (.iload_n 1, 1) := by decide +kernel
theorem dX7_least_79 : decode cX7_least 79 = .ok (.iaload, 1) := by decide +kernel
theorem dX7_least_80 : decode cX7_least 80 = .ok (.invokevirtual 224, 3) := by decide +kernel
theorem dX7_least_83 : decode cX7_least 83 = .ok (.iconst 0, 1) := by decide +kernel
theorem dX7_least_84 : decode cX7_least 84 = .ok (.istore 4, 2) := by decide +kernel
theorem dX7_least_86 : decode cX7_least 86 = .ok (.iload 4, 2) := by decide +kernel
theorem dX7_least_88 : decode cX7_least 88 = .ok (.bipush 99, 2) := by decide +kernel
theorem dX7_least_90 : decode cX7_least 90 = .ok (.if_icmp .gt 48, 3) := by decide +kernel
theorem dX7_least_93 : decode cX7_least 93 = .ok (.iconst 0, 1) := by decide +kernel
theorem dX7_least_94 : decode cX7_least 94 = .ok (.istore 5, 2) := by decide +kernel
theorem dX7_least_96 : decode cX7_least 96 = .ok (.iload 5, 2) := by decide +kernel
theorem dX7_least_98 : decode cX7_least 98 = .ok (.bipush 12, 2) := by decide +kernel
theorem dX7_least_100 : decode cX7_least 100 = .ok (.if_icmp .ge 32, 3) := by decide +kernel
theorem dX7_least_103 : decode cX7_least 103 = .ok (.aload_n 0, 1) := by decide +kernel
theorem dX7_least_104 : decode cX7_least 104 = .ok (.iload 5, 2) := by decide +kernel
theorem dX7_least_106 : decode cX7_least 106 = .ok (.iload 4, 2) := by decide +kernel
theorem dX7_least_108 : decode cX7_least 108 = .ok (.invokevirtual 228, 3) := by decide +kernel
theorem dX7_least_111 : decode cX7_least 111 = .ok (.ifCond .eq 15, 3) := by decide +kernel
theorem dX7_least_114 : decode cX7_least 114 = .ok (.iload_n 2, 1) := by decide +kernel
theorem dX7_least_115 : decode cX7_least 115 = .ok (.ifCond .ne 8, 3) := by decide +kernel
theorem dX7_least_118 : decode cX7_least 118 = .ok (.iload 4, 2) := by decide +kernel
theorem dX7_least_120 : decode cX7_least 120 = .ok (.goto 5, 3) := by decide +kernel
theorem dX7_least_123 : decode cX7_least 123 = .ok (.iload 5, 2) := by decide +kernel
theorem dX7_least_125 : decode cX7_least 125 = .ok (.ireturn, 1) := by decide +kernel
theorem dX7_least_126 : decode cX7_least 126 = .ok (.iinc 5 1, 3) := by decide +kernel
theorem dX7_least_129 : decode cX7_least 129 = .ok (.goto (-33), 3) := by decide +kernel
theorem dX7_least_132 : decode cX7_least 132 = .ok (.iinc 4 1, 3) := by decide +kernel
theorem dX7_least_135 : decode cX7_least 135 = .ok (.goto (-49), 3) := by decide +kernel
theorem dX7_least_138 : decode cX7_least 138 = .ok (.bipush (-4), 2) := by decide +kernel
theorem dX7_least_140 : decode cX7_least 140 = .ok (.ireturn, 1) := by decide +kernel
theorem dX7_sure_0 : decode cX7_sure 0 = .ok (.iload_n 1, 1) := by decide +kernel
theorem dX7_sure_1 : decode cX7_sure 1 = .ok (.ifCond .lt 9, 3) := by decide +kernel
theorem dX7_sure_4 : decode cX7_sure 4 = .ok (.iload_n 1, 1) := by decide +kernel
theorem dX7_sure_5 : decode cX7_sure 5 = .ok (.bipush 9, 2) := by decide +kernel
theorem dX7_sure_7 : decode cX7_sure 7 = .ok (.if_icmp .le 5, 3) := by decide +kernel
theorem dX7_sure_10 : decode cX7_sure 10 = .ok (.iconst (-1), 1) := by decide +kernel
theorem dX7_sure_11 : decode cX7_sure 11 = .ok (.ireturn, 1) := by decide +kernel
theorem dX7_sure_12 : decode cX7_sure 12 = .ok (.aload_n 0, 1) := by decide +kernel
theorem dX7_sure_13 : decode cX7_sure 13 = .ok (.getfield 10, 3) := by decide +kernel
theorem dX7_sure_16 : decode cX7_sure 16 = .ok (.invokevirtual 178, 3) := by decide +kernel
theorem dX7_sure_19 : decode cX7_sure 19 = .ok (.invokestatic 231, 3) := by decide +kernel
theorem dX7_sure_22 : decode cX7_sure 22 = .ok (.bipush 8, 2) := by decide +kernel
theorem dX7_sure_24 : decode cX7_sure 24 = .ok (.if_icmp .le 6, 3) := by decide +kernel
theorem dX7_sure_27 : decode cX7_sure 27 = .ok (.bipush (-3), 2) := by decide +kernel
theorem dX7_sure_29 : decode cX7_sure 29 = .ok (.ireturn, 1) := by decide +kernel
theorem dX7_sure_30 : decode cX7_sure 30 = .ok (.aload_n 0, 1) := by decide +kernel
theorem dX7_sure_31 : decode cX7_sure 31 = .ok (.getfield 45, 3) := by decide +kernel
theorem dX7_sure_34 : decode cX7_sure 34 = .ok (.iload_n 1, 1) := by decide +kernel
theorem dX7_sure_35 : decode cX7_sure 35 = .ok (.invokevirtual 236, 3) := by decide +kernel
theorem dX7_sure_38 : decode cX7_sure 38 = .ok (.aload_n 0, 1) := by decide +kernel
theorem dX7_sure_39 : decode cX7_sure 39 = .ok (.getfield 45, 3) := by decide +kernel
theorem dX7_sure_42 : decode cX7_sure 42 = .ok (.getfield 239, 3) := by decide +kernel
theorem dX7_sure_45 : decode cX7_sure 45 = .ok (.aload_n 0, 1) := by decide +kernel
theorem dX7_sure_46 : decode cX7_sure 46 = .ok (.getfield 10, 3) := by decide +kernel
theorem dX7_sure_49 : decode cX7_sure 49 = .ok (.getfield 115, 3) := by decide +kernel
theorem dX7_sure_52 : decode cX7_sure 52 = .ok (.invokevirtual 112, 3) := by decide +kernel
theorem dX7_sure_55 : decode cX7_sure 55 = .ok (.ifCond .eq 7, 3) := by decide +kernel
theorem dX7_sure_58 : decode cX7_sure 58 = .ok (.iconst 1, 1) := by decide +kernel
theorem dX7_sure_59 : decode cX7_sure 59 = .ok (.goto 4, 3) := by decide +kernel
theorem dX7_sure_62 : decode cX7_sure 62 = .ok (.iconst 0, 1) := by decide +kernel
theorem dX7_sure_63 : decode cX7_sure 63 = .ok (.ireturn, 1) := by decide +kernel
theorem dX7_worst_0 : decode cX7_worst 0 = .ok (.iload_n 1, 1) := by decide +kernel
theorem dX7_worst_1 : decode cX7_worst 1 = .ok (.ifCond .lt 18, 3) := by decide +kernel
theorem dX7_worst_4 : decode cX7_worst 4 = .ok (.iload_n 1, 1) := by decide +kernel
theorem dX7_worst_5 : decode cX7_worst 5 = .ok (.bipush 9, 2) := by decide +kernel
theorem dX7_worst_7 : decode cX7_worst 7 = .ok (.if_icmp .gt 12, 3) := by decide +kernel
theorem dX7_worst_10 : decode cX7_worst 10 = .ok (.iload_n 2, 1) := by decide +kernel
theorem dX7_worst_11 : decode cX7_worst 11 = .ok (.ifCond .lt 8, 3) := by decide +kernel
theorem dX7_worst_14 : decode cX7_worst 14 = .ok (.iload_n 2, 1) := by decide +kernel
theorem dX7_worst_15 : decode cX7_worst 15 = .ok (.iconst 1, 1) := by decide +kernel
theorem dX7_worst_16 : decode cX7_worst 16 = .ok (.if_icmp .le 6, 3) := by decide +kernel
theorem dX7_worst_19 : decode cX7_worst 19 = .ok (.ldc 137, 2) := by decide +kernel
theorem dX7_worst_21 : decode cX7_worst 21 = .ok (.ireturn, 1) := by decide +kernel
theorem dX7_worst_22 : decode cX7_worst 22 = .ok (.aload_n 0, 1) := by decide +kernel
theorem dX7_worst_23 : decode cX7_worst 23 = .ok (.getfield 10, 3) := by decide +kernel
theorem dX7_worst_26 : decode cX7_worst 26 = .ok (.invokevirtual 178, 3) := by decide +kernel
theorem dX7_worst_29 : decode cX7_worst 29 = .ok (.invokestatic 231, 3) := by decide +kernel
theorem dX7_worst_32 : decode cX7_worst 32 = .ok (.bipush 8, 2) := by decide +kernel
theorem dX7_worst_34 : decode cX7_worst 34 = .ok (.if_icmp .le 6, 3) := by decide +kernel
theorem dX7_worst_37 : decode cX7_worst 37 = .ok (.ldc 242, 2) := by decide +kernel
theorem dX7_worst_39 : decode cX7_worst 39 = .ok (.ireturn, 1) := by decide +kernel
theorem dX7_worst_40 : decode cX7_worst 40 = .ok (.aload_n 0, 1) := by decide +kernel
theorem dX7_worst_41 : decode cX7_worst 41 = .ok (.getfield 45, 3) := by decide +kernel
theorem dX7_worst_44 : decode cX7_worst 44 = .ok (.iload_n 1, 1) := by decide +kernel
theorem dX7_worst_45 : decode cX7_worst 45 = .ok (.invokevirtual 236, 3) := by decide +kernel
theorem dX7_worst_48 : decode cX7_worst 48 = .ok (.iload_n 2, 1) := by decide +kernel
theorem dX7_worst_49 : decode cX7_worst 49 = .ok (.ifCond .ne 16, 3) := by decide +kernel
theorem dX7_worst_52 : decode cX7_worst 52 = .ok (.aload_n 0, 1) := by decide +kernel
theorem dX7_worst_53 : decode cX7_worst 53 = .ok (.getfield 45, 3) := by decide +kernel
theorem dX7_worst_56 : decode cX7_worst 56 = .ok (.getfield 239, 3) := by decide +kernel
theorem dX7_worst_59 : decode cX7_worst 59 = .ok (.invokevirtual 130, 3) := by decide +kernel
theorem dX7_worst_62 : decode cX7_worst 62 = .ok (.goto 13, 3) := by decide +kernel
theorem dX7_worst_65 : decode cX7_worst 65 = .ok (.aload_n 0, 1) := by decide +kernel
theorem dX7_worst_66 : decode cX7_worst 66 = .ok (.getfield 45, 3) := by decide +kernel
theorem dX7_worst_69 : decode cX7_worst 69 = .ok (.getfield 239, 3) := by decide +kernel
theorem dX7_worst_72 : decode cX7_worst 72 = .ok (.invokevirtual 134, 3) := by decide +kernel
theorem dX7_worst_75 : decode cX7_worst 75 = .ok (.l2i, 1) := by decide +kernel
theorem dX7_worst_76 : decode cX7_worst 76 = .ok (.ireturn, 1) := by decide +kernel
theorem dX7_image_0 : decode cX7_image 0 = .ok (.aload_n 0, 1) := by decide +kernel
theorem dX7_image_1 : decode cX7_image 1 = .ok (.getfield 16, 3) := by decide +kernel
theorem dX7_image_4 : decode cX7_image 4 = .ok (.aload_n 0, 1) := by decide +kernel
theorem dX7_image_5 : decode cX7_image 5 = .ok (.getfield 10, 3) := by decide +kernel
theorem dX7_image_8 : decode cX7_image 8 = .ok (.invokevirtual 243, 3) := by decide +kernel
theorem dX7_image_11 : decode cX7_image 11 = .ok (.aload_n 0, 1) := by decide +kernel
theorem dX7_image_12 : decode cX7_image 12 = .ok (.iconst 1, 1) := by decide +kernel
theorem dX7_image_13 : decode cX7_image 13 = .ok (.putfield 67, 3) := by decide +kernel
theorem dX7_image_16 : decode cX7_image 16 = .ok (.iconst 1, 1) := by decide +kernel
theorem dX7_image_17 : decode cX7_image 17 = .ok (.ireturn, 1) := by decide +kernel
theorem dX7_restore_0 : decode cX7_restore 0 = .ok (.aload_n 0, 1) := by decide +kernel
theorem dX7_restore_1 : decode cX7_restore 1 = .ok (.getfield 67, 3) := by decide +kernel
theorem dX7_restore_4 : decode cX7_restore 4 = .ok (.ifCond .ne 6, 3) := by decide +kernel
theorem dX7_restore_7 : decode cX7_restore 7 = .ok (.bipush (-4), 2) := by decide +kernel
theorem dX7_restore_9 : decode cX7_restore 9 = .ok (.ireturn, 1) := by decide +kernel
theorem dX7_restore_10 : decode cX7_restore 10 = .ok (.aload_n 0, 1) := by decide +kernel
theorem dX7_restore_11 : decode cX7_restore 11 = .ok (.getfield 10, 3) := by decide +kernel
theorem dX7_restore_14 : decode cX7_restore 14 = .ok (.aload_n 0, 1) := by decide +kernel
theorem dX7_restore_15 : decode cX7_restore 15 = .ok (.getfield 16, 3) := by decide +kernel
theorem dX7_restore_18 : decode cX7_restore 18 = .ok (.invokevirtual 243, 3) := by decide +kernel
theorem dX7_restore_21 : decode cX7_restore 21 = .ok (.iconst 1, 1) := by decide +kernel
theorem dX7_restore_22 : decode cX7_restore 22 = .ok (.ireturn, 1) := by decide +kernel
theorem dX7_pour_0 : decode cX7_pour 0 = .ok (.aload_n 0, 1) := by decide +kernel
theorem dX7_pour_1 : decode cX7_pour 1 = .ok (.iload_n 1, 1) := by decide +kernel
theorem dX7_pour_2 : decode cX7_pour 2 = .ok (.iload_n 2, 1) := by decide +kernel
theorem dX7_pour_3 : decode cX7_pour 3 = .ok (.iload_n 3, 1) := by decide +kernel
theorem dX7_pour_4 : decode cX7_pour 4 = .ok (.bipush 12, 2) := by decide +kernel
theorem dX7_pour_6 : decode cX7_pour 6 = .ok (.invokevirtual 246, 3) := by decide +kernel
theorem dX7_pour_9 : decode cX7_pour 9 = .ok (.istore 4, 2) := by decide +kernel
theorem dX7_pour_11 : decode cX7_pour 11 = .ok (.iload 4, 2) := by decide +kernel
theorem dX7_pour_13 : decode cX7_pour 13 = .ok (.ifCond .eq 6, 3) := by decide +kernel
theorem dX7_pour_16 : decode cX7_pour 16 = .ok (.iload 4, 2) := by decide +kernel
theorem dX7_pour_18 : decode cX7_pour 18 = .ok (.ireturn, 1) := by decide +kernel
theorem dX7_pour_19 : decode cX7_pour 19 = .ok (.aload_n 0, 1) := by decide +kernel
theorem dX7_pour_20 : decode cX7_pour 20 = .ok (.getfield 10, 3) := by decide +kernel
theorem dX7_pour_23 : decode cX7_pour 23 = .ok (.aload_n 0, 1) := by decide +kernel
theorem dX7_pour_24 : decode cX7_pour 24 = .ok (.getfield 52, 3) := by decide +kernel
theorem dX7_pour_27 : decode cX7_pour 27 = .ok (.invokevirtual 250, 3) := by decide +kernel
theorem dX7_pour_30 : decode cX7_pour 30 = .ok (.iconst 0, 1) := by decide +kernel
theorem dX7_pour_31 : decode cX7_pour 31 = .ok (.istore 5, 2) := by decide +kernel
theorem dX7_pour_33 : decode cX7_pour 33 = .ok (.iconst 0, 1) := by decide +kernel
theorem dX7_pour_34 : decode cX7_pour 34 = .ok (.istore 6, 2) := by decide +kernel
theorem dX7_pour_36 : decode cX7_pour 36 = .ok (.iload 6, 2) := by decide +kernel
theorem dX7_pour_38 : decode cX7_pour 38 = .ok (.bipush 12, 2) := by decide +kernel
theorem dX7_pour_40 : decode cX7_pour 40 = .ok (.if_icmp .ge 67, 3) := by decide +kernel
theorem dX7_pour_43 : decode cX7_pour 43 = .ok (.aload_n 0, 1) := by decide +kernel
theorem dX7_pour_44 : decode cX7_pour 44 = .ok (.getfield 58, 3) := by decide +kernel
theorem dX7_pour_47 : decode cX7_pour 47 = .ok (.iload_n 1, 1) := by decide +kernel
theorem dX7_pour_48 : decode cX7_pour 48 = .ok (.aaload, 1) := by decide +kernel
theorem dX7_pour_49 : decode cX7_pour 49 = .ok (.getfield 253, 3) := by decide +kernel
theorem dX7_pour_52 : decode cX7_pour 52 = .ok (.iload_n 3, 1) := by decide +kernel
theorem dX7_pour_53 : decode cX7_pour 53 = .ok (.iload 6, 2) := by decide +kernel
theorem dX7_pour_55 : decode cX7_pour 55 = .ok (.iadd, 1) := by decide +kernel
theorem dX7_pour_56 : decode cX7_pour 56 = .ok (.iaload, 1) := by decide +kernel
theorem dX7_pour_57 : decode cX7_pour 57 = .ok (.istore 7, 2) := by decide +kernel
theorem dX7_pour_59 : decode cX7_pour 59 = .ok (.iload 7, 2) := by decide +kernel
theorem dX7_pour_61 : decode cX7_pour 61 = .ok (.ifCond .lt 10, 3) := by decide +kernel
theorem dX7_pour_64 : decode cX7_pour 64 = .ok (.iload 7, 2) := by decide +kernel
theorem dX7_pour_66 : decode cX7_pour 66 = .ok (.bipush 99, 2) := by decide +kernel
theorem dX7_pour_68 : decode cX7_pour 68 = .ok (.if_icmp .le 6, 3) := by decide +kernel
theorem dX7_pour_71 : decode cX7_pour 71 = .ok (.bipush (-2), 2) := by decide +kernel
theorem dX7_pour_73 : decode cX7_pour 73 = .ok (.ireturn, 1) := by decide +kernel
theorem dX7_pour_74 : decode cX7_pour 74 = .ok (.aload_n 0, 1) := by decide +kernel
theorem dX7_pour_75 : decode cX7_pour 75 = .ok (.getfield 63, 3) := by decide +kernel
theorem dX7_pour_78 : decode cX7_pour 78 = .ok (.iload 6, 2) := by decide +kernel
theorem dX7_pour_80 : decode cX7_pour 80 = .ok (.iload 7, 2) := by decide +kernel
theorem dX7_pour_82 : decode cX7_pour 82 = .ok (.iastore, 1) := by decide +kernel
theorem dX7_pour_83 : decode cX7_pour 83 = .ok (.iload 5, 2) := by decide +kernel
theorem dX7_pour_85 : decode cX7_pour 85 = .ok (.iload 7, 2) := by decide +kernel
theorem dX7_pour_87 : decode cX7_pour 87 = .ok (.iadd, 1) := by decide +kernel
theorem dX7_pour_88 : decode cX7_pour 88 = .ok (.istore 5, 2) := by decide +kernel
theorem dX7_pour_90 : decode cX7_pour 90 = .ok (.aload_n 0, 1) := by decide +kernel
theorem dX7_pour_91 : decode cX7_pour 91 = .ok (.getfield 52, 3) := by decide +kernel
theorem dX7_pour_94 : decode cX7_pour 94 = .ok (.iload 6, 2) := by decide +kernel
theorem dX7_pour_96 : decode cX7_pour 96 = .ok (.iload 7, 2) := by decide +kernel
theorem dX7_pour_98 : decode cX7_pour 98 = .ok (.invokevirtual 224, 3) := by decide +kernel
theorem dX7_pour_101 : decode cX7_pour 101 = .ok (.iinc 6 1, 3) := by decide +kernel
theorem dX7_pour_104 : decode cX7_pour 104 = .ok (.goto (-68), 3) := by decide +kernel
theorem dX7_pour_107 : decode cX7_pour 107 = .ok (.aload_n 0, 1) := by decide +kernel
theorem dX7_pour_108 : decode cX7_pour 108 = .ok (.getfield 52, 3) := by decide +kernel
theorem dX7_pour_111 : decode cX7_pour 111 = .ok (.aload_n 0, 1) := by decide +kernel
theorem dX7_pour_112 : decode cX7_pour 112 = .ok (.getfield 10, 3) := by decide +kernel
theorem dX7_pour_115 : decode cX7_pour 115 = .ok (.getfield 115, 3) := by decide +kernel
theorem dX7_pour_118 : decode cX7_pour 118 = .ok (.invokevirtual 112, 3) := by decide +kernel
theorem dX7_pour_121 : decode cX7_pour 121 = .ok (.ifCond .ne 6, 3) := by decide +kernel
theorem dX7_pour_124 : decode cX7_pour 124 = .ok (.bipush (-2), 2) := by decide +kernel
theorem dX7_pour_126 : decode cX7_pour 126 = .ok (.ireturn, 1) := by decide +kernel
theorem dX7_pour_127 : decode cX7_pour 127 = .ok (.aload_n 0, 1) := by decide +kernel
theorem dX7_pour_128 : decode cX7_pour 128 = .ok (.getfield 63, 3) := by decide +kernel
theorem dX7_pour_131 : decode cX7_pour 131 = .ok (.iconst 0, 1) := by decide +kernel
theorem dX7_pour_132 : decode cX7_pour 132 = .ok (.aload_n 0, 1) := by decide +kernel
theorem dX7_pour_133 : decode cX7_pour 133 = .ok (.getfield 10, 3) := by decide +kernel
theorem dX7_pour_136 : decode cX7_pour 136 = .ok (.getfield 105, 3) := by decide +kernel
theorem dX7_pour_139 : decode cX7_pour 139 = .ok (.iconst 0, 1) := by decide +kernel
theorem dX7_pour_140 : decode cX7_pour 140 = .ok (.bipush 12, 2) := by decide +kernel
theorem dX7_pour_142 : decode cX7_pour 142 = .ok (.invokestatic 256, 3) := by decide +kernel
theorem dX7_pour_145 : decode cX7_pour 145 = .ok (.iload 5, 2) := by decide +kernel
theorem dX7_pour_147 : decode cX7_pour 147 = .ok (.ireturn, 1) := by decide +kernel
theorem dX7_film_0 : decode cX7_film 0 = .ok (.aload_n 0, 1) := by decide +kernel
theorem dX7_film_1 : decode cX7_film 1 = .ok (.iload_n 1, 1) := by decide +kernel
theorem dX7_film_2 : decode cX7_film 2 = .ok (.iload_n 2, 1) := by decide +kernel
theorem dX7_film_3 : decode cX7_film 3 = .ok (.iload_n 3, 1) := by decide +kernel
theorem dX7_film_4 : decode cX7_film 4 = .ok (.bipush 12, 2) := by decide +kernel
theorem dX7_film_6 : decode cX7_film 6 = .ok (.invokevirtual 246, 3) := by decide +kernel
theorem dX7_film_9 : decode cX7_film 9 = .ok (.istore 4, 2) := by decide +kernel
theorem dX7_film_11 : decode cX7_film 11 = .ok (.iload 4, 2) := by decide +kernel
theorem dX7_film_13 : decode cX7_film 13 = .ok (.ifCond .eq 6, 3) := by decide +kernel
theorem dX7_film_16 : decode cX7_film 16 = .ok (.iload 4, 2) := by decide +kernel
theorem dX7_film_18 : decode cX7_film 18 = .ok (.ireturn, 1) := by decide +kernel
theorem dX7_film_19 : decode cX7_film 19 = .ok (.iconst 0, 1) := by decide +kernel
theorem dX7_film_20 : decode cX7_film 20 = .ok (.istore 5, 2) := by decide +kernel
theorem dX7_film_22 : decode cX7_film 22 = .ok (.iload 5, 2) := by decide +kernel
theorem dX7_film_24 : decode cX7_film 24 = .ok (.bipush 12, 2) := by decide +kernel
theorem dX7_film_26 : decode cX7_film 26 = .ok (.if_icmp .ge 31, 3) := by decide +kernel
theorem dX7_film_29 : decode cX7_film 29 = .ok (.aload_n 0, 1) := by decide +kernel
theorem dX7_film_30 : decode cX7_film 30 = .ok (.getfield 58, 3) := by decide +kernel
theorem dX7_film_33 : decode cX7_film 33 = .ok (.iload_n 1, 1) := by decide +kernel
theorem dX7_film_34 : decode cX7_film 34 = .ok (.aaload, 1) := by decide +kernel
theorem dX7_film_35 : decode cX7_film 35 = .ok (.iload_n 3, 1) := by decide +kernel
theorem dX7_film_36 : decode cX7_film 36 = .ok (.iload 5, 2) := by decide +kernel
theorem dX7_film_38 : decode cX7_film 38 = .ok (.iadd, 1) := by decide +kernel
theorem dX7_film_39 : decode cX7_film 39 = .ok (.aload_n 0, 1) := by decide +kernel
theorem dX7_film_40 : decode cX7_film 40 = .ok (.getfield 10, 3) := by decide +kernel
theorem dX7_film_43 : decode cX7_film 43 = .ok (.iload 5, 2) := by decide +kernel
theorem dX7_film_45 : decode cX7_film 45 = .ok (.invokevirtual 99, 3) := by decide +kernel
theorem dX7_film_48 : decode cX7_film 48 = .ok (.invokevirtual 262, 3) := by decide +kernel
theorem dX7_film_51 : decode cX7_film 51 = .ok (.iinc 5 1, 3) := by decide +kernel
theorem dX7_film_54 : decode cX7_film 54 = .ok (.goto (-32), 3) := by decide +kernel
theorem dX7_film_57 : decode cX7_film 57 = .ok (.bipush 12, 2) := by decide +kernel
theorem dX7_film_59 : decode cX7_film 59 = .ok (.ireturn, 1) := by decide +kernel
theorem dX7_sheet_0 : decode cX7_sheet 0 = .ok (.iload_n 1, 1) := by decide +kernel
theorem dX7_sheet_1 : decode cX7_sheet 1 = .ok (.invokestatic 265, 3) := by decide +kernel
theorem dX7_sheet_4 : decode cX7_sheet 4 = .ok (.ifCond .eq 18, 3) := by decide +kernel
theorem dX7_sheet_7 : decode cX7_sheet 7 = .ok (.iload_n 2, 1) := by decide +kernel
theorem dX7_sheet_8 : decode cX7_sheet 8 = .ok (.ifCond .lt 14, 3) := by decide +kernel
theorem dX7_sheet_11 : decode cX7_sheet 11 = .ok (.iload_n 2, 1) := by decide +kernel
theorem dX7_sheet_12 : decode cX7_sheet 12 = .ok (.iconst 3, 1) := by decide +kernel
theorem dX7_sheet_13 : decode cX7_sheet 13 = .ok (.if_icmp .ge 9, 3) := by decide +kernel
theorem dX7_sheet_16 : decode cX7_sheet 16 = .ok (.iload_n 3, 1) := by decide +kernel
theorem dX7_sheet_17 : decode cX7_sheet 17 = .ok (.bipush 24, 2) := by decide +kernel
theorem dX7_sheet_19 : decode cX7_sheet 19 = .ok (.if_icmp .le 5, 3) := by decide +kernel
theorem dX7_sheet_22 : decode cX7_sheet 22 = .ok (.iconst (-1), 1) := by decide +kernel
theorem dX7_sheet_23 : decode cX7_sheet 23 = .ok (.ireturn, 1) := by decide +kernel
theorem dX7_sheet_24 : decode cX7_sheet 24 = .ok (.iload_n 3, 1) := by decide +kernel
theorem dX7_sheet_25 : decode cX7_sheet 25 = .ok (.ifCond .ge 6, 3) := by decide +kernel
theorem dX7_sheet_28 : decode cX7_sheet 28 = .ok (.bipush (-14), 2) := by decide +kernel
theorem dX7_sheet_30 : decode cX7_sheet 30 = .ok (.ireturn, 1) := by decide +kernel
theorem dX7_sheet_31 : decode cX7_sheet 31 = .ok (.aload_n 0, 1) := by decide +kernel
theorem dX7_sheet_32 : decode cX7_sheet 32 = .ok (.getfield 58, 3) := by decide +kernel
theorem dX7_sheet_35 : decode cX7_sheet 35 = .ok (.iload_n 1, 1) := by decide +kernel
theorem dX7_sheet_36 : decode cX7_sheet 36 = .ok (.aaload, 1) := by decide +kernel
theorem dX7_sheet_37 : decode cX7_sheet 37 = .ok (.iload_n 2, 1) := by decide +kernel
theorem dX7_sheet_38 : decode cX7_sheet 38 = .ok (.iload_n 3, 1) := by decide +kernel
theorem dX7_sheet_39 : decode cX7_sheet 39 = .ok (.invokevirtual 268, 3) := by decide +kernel
theorem dX7_sheet_42 : decode cX7_sheet 42 = .ok (.iload_n 3, 1) := by decide +kernel
theorem dX7_sheet_43 : decode cX7_sheet 43 = .ok (.ireturn, 1) := by decide +kernel
theorem dX7_drop_0 : decode cX7_drop 0 = .ok (.iload_n 1, 1) := by decide +kernel
theorem dX7_drop_1 : decode cX7_drop 1 = .ok (.invokestatic 265, 3) := by decide +kernel
theorem dX7_drop_4 : decode cX7_drop 4 = .ok (.ifCond .ne 5, 3) := by decide +kernel
theorem dX7_drop_7 : decode cX7_drop 7 = .ok (.iconst (-1), 1) := by decide +kernel
theorem dX7_drop_8 : decode cX7_drop 8 = .ok (.ireturn, 1) := by decide +kernel
theorem dX7_drop_9 : decode cX7_drop 9 = .ok (.aload_n 0, 1) := by decide +kernel
theorem dX7_drop_10 : decode cX7_drop 10 = .ok (.getfield 58, 3) := by decide +kernel
theorem dX7_drop_13 : decode cX7_drop 13 = .ok (.iload_n 1, 1) := by decide +kernel
theorem dX7_drop_14 : decode cX7_drop 14 = .ok (.aaload, 1) := by decide +kernel
theorem dX7_drop_15 : decode cX7_drop 15 = .ok (.getfield 271, 3) := by decide +kernel
theorem dX7_drop_18 : decode cX7_drop 18 = .ok (.ifCond .ne 6, 3) := by decide +kernel
theorem dX7_drop_21 : decode cX7_drop 21 = .ok (.bipush (-11), 2) := by decide +kernel
theorem dX7_drop_23 : decode cX7_drop 23 = .ok (.ireturn, 1) := by decide +kernel
theorem dX7_drop_24 : decode cX7_drop 24 = .ok (.aload_n 0, 1) := by decide +kernel
theorem dX7_drop_25 : decode cX7_drop 25 = .ok (.getfield 58, 3) := by decide +kernel
theorem dX7_drop_28 : decode cX7_drop 28 = .ok (.iload_n 1, 1) := by decide +kernel
theorem dX7_drop_29 : decode cX7_drop 29 = .ok (.aaload, 1) := by decide +kernel
theorem dX7_drop_30 : decode cX7_drop 30 = .ok (.iconst 0, 1) := by decide +kernel
theorem dX7_drop_31 : decode cX7_drop 31 = .ok (.putfield 271, 3) := by decide +kernel
theorem dX7_drop_34 : decode cX7_drop 34 = .ok (.aload_n 0, 1) := by decide +kernel
theorem dX7_drop_35 : decode cX7_drop 35 = .ok (.getfield 58, 3) := by decide +kernel
theorem dX7_drop_38 : decode cX7_drop 38 = .ok (.iload_n 1, 1) := by decide +kernel
theorem dX7_drop_39 : decode cX7_drop 39 = .ok (.aaload, 1) := by decide +kernel
theorem dX7_drop_40 : decode cX7_drop 40 = .ok (.getfield 274, 3) := by decide +kernel
theorem dX7_drop_43 : decode cX7_drop 43 = .ok (.ireturn, 1) := by decide +kernel
theorem dX7_item_0 : decode cX7_item 0 = .ok (.aload_n 0, 1) := by decide +kernel
theorem dX7_item_1 : decode cX7_item 1 = .ok (.iload_n 1, 1) := by decide +kernel
theorem dX7_item_2 : decode cX7_item 2 = .ok (.iload_n 2, 1) := by decide +kernel
theorem dX7_item_3 : decode cX7_item 3 = .ok (.iload_n 3, 1) := by decide +kernel
theorem dX7_item_4 : decode cX7_item 4 = .ok (.iconst 1, 1) := by decide +kernel
theorem dX7_item_5 : decode cX7_item 5 = .ok (.invokevirtual 246, 3) := by decide +kernel
theorem dX7_item_8 : decode cX7_item 8 = .ok (.istore 5, 2) := by decide +kernel
theorem dX7_item_10 : decode cX7_item 10 = .ok (.iload 5, 2) := by decide +kernel
theorem dX7_item_12 : decode cX7_item 12 = .ok (.ifCond .eq 6, 3) := by decide +kernel
theorem dX7_item_15 : decode cX7_item 15 = .ok (.iload 5, 2) := by decide +kernel
theorem dX7_item_17 : decode cX7_item 17 = .ok (.ireturn, 1) := by decide +kernel
theorem dX7_item_18 : decode cX7_item 18 = .ok (.aload_n 0, 1) := by decide +kernel
theorem dX7_item_19 : decode cX7_item 19 = .ok (.getfield 58, 3) := by decide +kernel
theorem dX7_item_22 : decode cX7_item 22 = .ok (.iload_n 1, 1) := by decide +kernel
theorem dX7_item_23 : decode cX7_item 23 = .ok (.aaload, 1) := by decide +kernel
theorem dX7_item_24 : decode cX7_item 24 = .ok (.iload_n 3, 1) := by decide +kernel
theorem dX7_item_25 : decode cX7_item 25 = .ok (.iload 4, 2) := by decide +kernel
theorem dX7_item_27 : decode cX7_item 27 = .ok (.invokevirtual 262, 3) := by decide +kernel
theorem dX7_item_30 : decode cX7_item 30 = .ok (.iconst 1, 1) := by decide +kernel
theorem dX7_item_31 : decode cX7_item 31 = .ok (.ireturn, 1) := by decide +kernel
theorem dX7_copy_0 : decode cX7_copy 0 = .ok (.iload_n 1, 1) := by decide +kernel
theorem dX7_copy_1 : decode cX7_copy 1 = .ok (.invokestatic 265, 3) := by decide +kernel
theorem dX7_copy_4 : decode cX7_copy 4 = .ok (.ifCond .eq 10, 3) := by decide +kernel
theorem dX7_copy_7 : decode cX7_copy 7 = .ok (.iload_n 3, 1) := by decide +kernel
theorem dX7_copy_8 : decode cX7_copy 8 = .ok (.invokestatic 265, 3) := by decide +kernel
theorem dX7_copy_11 : decode cX7_copy 11 = .ok (.ifCond .ne 5, 3) := by decide +kernel
theorem dX7_copy_14 : decode cX7_copy 14 = .ok (.iconst (-1), 1) := by decide +kernel
theorem dX7_copy_15 : decode cX7_copy 15 = .ok (.ireturn, 1) := by decide +kernel
theorem dX7_copy_16 : decode cX7_copy 16 = .ok (.aload_n 0, 1) := by decide +kernel
theorem dX7_copy_17 : decode cX7_copy 17 = .ok (.getfield 58, 3) := by decide +kernel
theorem dX7_copy_20 : decode cX7_copy 20 = .ok (.iload_n 1, 1) := by decide +kernel
theorem dX7_copy_21 : decode cX7_copy 21 = .ok (.aaload, 1) := by decide +kernel
theorem dX7_copy_22 : decode cX7_copy 22 = .ok (.astore 6, 2) := by decide +kernel
theorem dX7_copy_24 : decode cX7_copy 24 = .ok (.aload_n 0, 1) := by decide +kernel
theorem dX7_copy_25 : decode cX7_copy 25 = .ok (.getfield 58, 3) := by decide +kernel
theorem dX7_copy_28 : decode cX7_copy 28 = .ok (.iload_n 3, 1) := by decide +kernel
theorem dX7_copy_29 : decode cX7_copy 29 = .ok (.aaload, 1) := by decide +kernel
theorem dX7_copy_30 : decode cX7_copy 30 = .ok (.astore 7, 2) := by decide +kernel
theorem dX7_copy_32 : decode cX7_copy 32 = .ok (.aload 6, 2) := by decide +kernel
theorem dX7_copy_34 : decode cX7_copy 34 = .ok (.getfield 271, 3) := by decide +kernel
theorem dX7_copy_37 : decode cX7_copy 37 = .ok (.ifCond .eq 11, 3) := by decide +kernel
theorem dX7_copy_40 : decode cX7_copy 40 = .ok (.aload 7, 2) := by decide +kernel
theorem dX7_copy_42 : decode cX7_copy 42 = .ok (.getfield 271, 3) := by decide +kernel
theorem dX7_copy_45 : decode cX7_copy 45 = .ok (.ifCond .ne 6, 3) := by decide +kernel
theorem dX7_copy_48 : decode cX7_copy 48 = .ok (.bipush (-11), 2) := by decide +kernel
theorem dX7_copy_50 : decode cX7_copy 50 = .ok (.ireturn, 1) := by decide +kernel
theorem dX7_copy_51 : decode cX7_copy 51 = .ok (.aload 6, 2) := by decide +kernel
theorem dX7_copy_53 : decode cX7_copy 53 = .ok (.getfield 275, 3) := by decide +kernel
theorem dX7_copy_56 : decode cX7_copy 56 = .ok (.aload 7, 2) := by decide +kernel
theorem dX7_copy_58 : decode cX7_copy 58 = .ok (.getfield 275, 3) := by decide +kernel
theorem dX7_copy_61 : decode cX7_copy 61 = .ok (.if_icmp .eq 6, 3) := by decide +kernel
theorem dX7_copy_64 : decode cX7_copy 64 = .ok (.bipush (-12), 2) := by decide +kernel
theorem dX7_copy_66 : decode cX7_copy 66 = .ok (.ireturn, 1) := by decide +kernel
theorem dX7_copy_67 : decode cX7_copy 67 = .ok (.aload 6, 2) := by decide +kernel
theorem dX7_copy_69 : decode cX7_copy 69 = .ok (.iload_n 2, 1) := by decide +kernel
theorem dX7_copy_70 : decode cX7_copy 70 = .ok (.iload 5, 2) := by decide +kernel
theorem dX7_copy_72 : decode cX7_copy 72 = .ok (.invokevirtual 278, 3) := by decide +kernel
theorem dX7_copy_75 : decode cX7_copy 75 = .ok (.ifCond .eq 15, 3) := by decide +kernel
theorem dX7_copy_78 : decode cX7_copy 78 = .ok (.aload 7, 2) := by decide +kernel
theorem dX7_copy_80 : decode cX7_copy 80 = .ok (.iload 4, 2) := by decide +kernel
theorem dX7_copy_82 : decode cX7_copy 82 = .ok (.iload 5, 2) := by decide +kernel
theorem dX7_copy_84 : decode cX7_copy 84 = .ok (.invokevirtual 278, 3) := by decide +kernel
theorem dX7_copy_87 : decode cX7_copy 87 = .ok (.ifCond .ne 6, 3) := by decide +kernel
theorem dX7_copy_90 : decode cX7_copy 90 = .ok (.bipush (-13), 2) := by decide +kernel
theorem dX7_copy_92 : decode cX7_copy 92 = .ok (.ireturn, 1) := by decide +kernel
theorem dX7_copy_93 : decode cX7_copy 93 = .ok (.aload 6, 2) := by decide +kernel
theorem dX7_copy_95 : decode cX7_copy 95 = .ok (.getfield 253, 3) := by decide +kernel
theorem dX7_copy_98 : decode cX7_copy 98 = .ok (.iload_n 2, 1) := by decide +kernel
theorem dX7_copy_99 : decode cX7_copy 99 = .ok (.aload 7, 2) := by decide +kernel
theorem dX7_copy_101 : decode cX7_copy 101 = .ok (.getfield 253, 3) := by decide +kernel
theorem dX7_copy_104 : decode cX7_copy 104 = .ok (.iload 4, 2) := by decide +kernel
theorem dX7_copy_106 : decode cX7_copy 106 = .ok (.iload 5, 2) := by decide +kernel
theorem dX7_copy_108 : decode cX7_copy 108 = .ok (.invokestatic 256, 3) := by decide +kernel
theorem dX7_copy_111 : decode cX7_copy 111 = .ok (.iload 5, 2) := by decide +kernel
theorem dX7_copy_113 : decode cX7_copy 113 = .ok (.ireturn, 1) := by decide +kernel
theorem dX7_byteOf_0 : decode cX7_byteOf 0 = .ok (.lload_n 0, 1) := by decide +kernel
theorem dX7_byteOf_1 : decode cX7_byteOf 1 = .ok (.bipush 8, 2) := by decide +kernel
theorem dX7_byteOf_3 : decode cX7_byteOf 3 = .ok (.iload_n 2, 1) := by decide +kernel
theorem dX7_byteOf_4 : decode cX7_byteOf 4 = .ok (.imul, 1) := by decide +kernel
theorem dX7_byteOf_5 : decode cX7_byteOf 5 = .ok (.lushr, 1) := by decide +kernel
theorem dX7_byteOf_6 : decode cX7_byteOf 6 = .ok (.l2i, 1) := by decide +kernel
theorem dX7_byteOf_7 : decode cX7_byteOf 7 = .ok (.sipush 255, 3) := by decide +kernel
theorem dX7_byteOf_10 : decode cX7_byteOf 10 = .ok (.iand, 1) := by decide +kernel
theorem dX7_byteOf_11 : decode cX7_byteOf 11 = .ok (.ireturn, 1) := by decide +kernel
theorem dX7_happens_0 : decode cX7_happens 0 = .ok (.iload_n 1, 1) := by decide +kernel
theorem dX7_happens_1 : decode cX7_happens 1 = .ok (.tableswitch 69 0 2 #[27, 41, 55], 27) := by decide +kernel
theorem dX7_happens_28 : decode cX7_happens 28 = .ok (.aload_n 0, 1) := by decide +kernel
theorem dX7_happens_29 : decode cX7_happens 29 = .ok (.iload_n 2, 1) := by decide +kernel
theorem dX7_happens_30 : decode cX7_happens 30 = .ok (.invokevirtual 281, 3) := by decide +kernel
theorem dX7_happens_33 : decode cX7_happens 33 = .ok (.ifCond .lt 7, 3) := by decide +kernel
theorem dX7_happens_36 : decode cX7_happens 36 = .ok (.iconst 1, 1) := by decide +kernel
theorem dX7_happens_37 : decode cX7_happens 37 = .ok (.goto 4, 3) := by decide +kernel
theorem dX7_happens_40 : decode cX7_happens 40 = .ok (.iconst 0, 1) := by decide +kernel
theorem dX7_happens_41 : decode cX7_happens 41 = .ok (.ireturn, 1) := by decide +kernel
theorem dX7_happens_42 : decode cX7_happens 42 = .ok (.aload_n 0, 1) := by decide +kernel
theorem dX7_happens_43 : decode cX7_happens 43 = .ok (.iload_n 2, 1) := by decide +kernel
theorem dX7_happens_44 : decode cX7_happens 44 = .ok (.invokevirtual 284, 3) := by decide +kernel
theorem dX7_happens_47 : decode cX7_happens 47 = .ok (.ifCond .lt 7, 3) := by decide +kernel
theorem dX7_happens_50 : decode cX7_happens 50 = .ok (.iconst 1, 1) := by decide +kernel
theorem dX7_happens_51 : decode cX7_happens 51 = .ok (.goto 4, 3) := by decide +kernel
theorem dX7_happens_54 : decode cX7_happens 54 = .ok (.iconst 0, 1) := by decide +kernel
theorem dX7_happens_55 : decode cX7_happens 55 = .ok (.ireturn, 1) := by decide +kernel
theorem dX7_happens_56 : decode cX7_happens 56 = .ok (.aload_n 0, 1) := by decide +kernel
theorem dX7_happens_57 : decode cX7_happens 57 = .ok (.iload_n 2, 1) := by decide +kernel
theorem dX7_happens_58 : decode cX7_happens 58 = .ok (.invokevirtual 287, 3) := by decide +kernel
theorem dX7_happens_61 : decode cX7_happens 61 = .ok (.ifCond .lt 7, 3) := by decide +kernel
theorem dX7_happens_64 : decode cX7_happens 64 = .ok (.iconst 1, 1) := by decide +kernel
theorem dX7_happens_65 : decode cX7_happens 65 = .ok (.goto 4, 3) := by decide +kernel
theorem dX7_happens_68 : decode cX7_happens 68 = .ok (.iconst 0, 1) := by decide +kernel
theorem dX7_happens_69 : decode cX7_happens 69 = .ok (.ireturn, 1) := by decide +kernel
theorem dX7_happens_70 : decode cX7_happens 70 = .ok (.aload_n 0, 1) := by decide +kernel
theorem dX7_happens_71 : decode cX7_happens 71 = .ok (.iconst 1, 1) := by decide +kernel
theorem dX7_happens_72 : decode cX7_happens 72 = .ok (.invokevirtual 290, 3) := by decide +kernel
theorem dX7_happens_75 : decode cX7_happens 75 = .ok (.ifCond .lt 7, 3) := by decide +kernel
theorem dX7_happens_78 : decode cX7_happens 78 = .ok (.iconst 1, 1) := by decide +kernel
theorem dX7_happens_79 : decode cX7_happens 79 = .ok (.goto 4, 3) := by decide +kernel
theorem dX7_happens_82 : decode cX7_happens 82 = .ok (.iconst 0, 1) := by decide +kernel
theorem dX7_happens_83 : decode cX7_happens 83 = .ok (.ireturn, 1) := by decide +kernel
theorem dX7_canBeAskedFor_0 : decode cX7_canBeAskedFor 0 = .ok (.iload_n 2, 1) := by decide +kernel
theorem dX7_canBeAskedFor_1 : decode cX7_canBeAskedFor 1 = .ok (.ifCond .lt 40, 3) := by decide +kernel
theorem dX7_canBeAskedFor_4 : decode cX7_canBeAskedFor 4 = .ok (.iload_n 2, 1) := by decide +kernel
theorem dX7_canBeAskedFor_5 : decode cX7_canBeAskedFor 5 = .ok (.iconst 2, 1) := by decide +kernel
theorem dX7_canBeAskedFor_6 : decode cX7_canBeAskedFor 6 = .ok (.if_icmp .gt 35, 3) := by decide +kernel
theorem dX7_canBeAskedFor_9 : decode cX7_canBeAskedFor 9 = .ok (.iload_n 1, 1) := by decide +kernel
theorem dX7_canBeAskedFor_10 : decode cX7_canBeAskedFor 10 = .ok (.ifCond .eq 31, 3) := by decide +kernel
theorem dX7_canBeAskedFor_13 : decode cX7_canBeAskedFor 13 = .ok (.iload_n 1, 1) := by decide +kernel
theorem dX7_canBeAskedFor_14 : decode cX7_canBeAskedFor 14 = .ok (.invokestatic 231, 3) := by decide +kernel
theorem dX7_canBeAskedFor_17 : decode cX7_canBeAskedFor 17 = .ok (.iconst 4, 1) := by decide +kernel
theorem dX7_canBeAskedFor_18 : decode cX7_canBeAskedFor 18 = .ok (.if_icmp .gt 23, 3) := by decide +kernel
theorem dX7_canBeAskedFor_21 : decode cX7_canBeAskedFor 21 = .ok (.iload_n 1, 1) := by decide +kernel
theorem dX7_canBeAskedFor_22 : decode cX7_canBeAskedFor 22 = .ok (.aload_n 0, 1) := by decide +kernel
theorem dX7_canBeAskedFor_23 : decode cX7_canBeAskedFor 23 = .ok (.getfield 10, 3) := by decide +kernel
theorem dX7_canBeAskedFor_26 : decode cX7_canBeAskedFor 26 = .ok (.bipush 12, 2) := by decide +kernel
theorem dX7_canBeAskedFor_28 : decode cX7_canBeAskedFor 28 = .ok (.invokevirtual 95, 3) := by decide +kernel
theorem dX7_canBeAskedFor_31 : decode cX7_canBeAskedFor 31 = .ok (.iconst (-1), 1) := by decide +kernel
theorem dX7_canBeAskedFor_32 : decode cX7_canBeAskedFor 32 = .ok (.ixor, 1) := by decide +kernel
theorem dX7_canBeAskedFor_33 : decode cX7_canBeAskedFor 33 = .ok (.iand, 1) := by decide +kernel
theorem dX7_canBeAskedFor_34 : decode cX7_canBeAskedFor 34 = .ok (.ifCond .ne 7, 3) := by decide +kernel
theorem dX7_canBeAskedFor_37 : decode cX7_canBeAskedFor 37 = .ok (.iconst 1, 1) := by decide +kernel
theorem dX7_canBeAskedFor_38 : decode cX7_canBeAskedFor 38 = .ok (.goto 4, 3) := by decide +kernel
theorem dX7_canBeAskedFor_41 : decode cX7_canBeAskedFor 41 = .ok (.iconst 0, 1) := by decide +kernel
theorem dX7_canBeAskedFor_42 : decode cX7_canBeAskedFor 42 = .ok (.ireturn, 1) := by decide +kernel
theorem dX7_helpsBySand_0 : decode cX7_helpsBySand 0 = .ok (.aload_n 0, 1) := by decide +kernel
theorem dX7_helpsBySand_1 : decode cX7_helpsBySand 1 = .ok (.getfield 10, 3) := by decide +kernel
theorem dX7_helpsBySand_4 : decode cX7_helpsBySand 4 = .ok (.getfield 105, 3) := by decide +kernel
theorem dX7_helpsBySand_7 : decode cX7_helpsBySand 7 = .ok (.iload_n 1, 1) := by decide +kernel
theorem dX7_helpsBySand_8 : decode cX7_helpsBySand 8 = .ok (.iaload, 1) := by decide +kernel
theorem dX7_helpsBySand_9 : decode cX7_helpsBySand 9 = .ok (.iload_n 2, 1) := by decide +kernel
theorem dX7_helpsBySand_10 : decode cX7_helpsBySand 10 = .ok (.iadd, 1) := by decide +kernel
theorem dX7_helpsBySand_11 : decode cX7_helpsBySand 11 = .ok (.bipush 99, 2) := by decide +kernel
theorem dX7_helpsBySand_13 : decode cX7_helpsBySand 13 = .ok (.if_icmp .le 5, 3) := by decide +kernel
theorem dX7_helpsBySand_16 : decode cX7_helpsBySand 16 = .ok (.iconst 0, 1) := by decide +kernel
theorem dX7_helpsBySand_17 : decode cX7_helpsBySand 17 = .ok (.ireturn, 1) := by decide +kernel
theorem dX7_helpsBySand_18 : decode cX7_helpsBySand 18 = .ok (.aload_n 0, 1) := by decide +kernel
theorem dX7_helpsBySand_19 : decode cX7_helpsBySand 19 = .ok (.getfield 52, 3) := by decide +kernel
theorem dX7_helpsBySand_22 : decode cX7_helpsBySand 22 = .ok (.iload_n 1, 1) := by decide +kernel
theorem dX7_helpsBySand_23 : decode cX7_helpsBySand 23 = .ok (.iload_n 2, 1) := by decide +kernel
theorem dX7_helpsBySand_24 : decode cX7_helpsBySand 24 = .ok (.invokevirtual 224, 3) := by decide +kernel
theorem dX7_helpsBySand_27 : decode cX7_helpsBySand 27 = .ok (.aload_n 0, 1) := by decide +kernel
theorem dX7_helpsBySand_28 : decode cX7_helpsBySand 28 = .ok (.getfield 52, 3) := by decide +kernel
theorem dX7_helpsBySand_31 : decode cX7_helpsBySand 31 = .ok (.aload_n 0, 1) := by decide +kernel
theorem dX7_helpsBySand_32 : decode cX7_helpsBySand 32 = .ok (.getfield 10, 3) := by decide +kernel
theorem dX7_helpsBySand_35 : decode cX7_helpsBySand 35 = .ok (.getfield 115, 3) := by decide +kernel
theorem dX7_helpsBySand_38 : decode cX7_helpsBySand 38 = .ok (.invokevirtual 112, 3) := by decide +kernel
theorem dX7_helpsBySand_41 : decode cX7_helpsBySand 41 = .ok (.istore_n 3, 1) := by decide +kernel
theorem dX7_helpsBySand_42 : decode cX7_helpsBySand 42 = .ok (.aload_n 0, 1) := by decide +kernel
theorem dX7_helpsBySand_43 : decode cX7_helpsBySand 43 = .ok (.getfield 52, 3) := by decide +kernel
theorem dX7_helpsBySand_46 : decode cX7_helpsBySand 46 = .ok (.iload_n 1, 1) := by decide +kernel
theorem dX7_helpsBySand_47 : decode cX7_helpsBySand 47 = .ok (.iload_n 2, 1) := by decide +kernel
theorem dX7_helpsBySand_48 : decode cX7_helpsBySand 48 = .ok (.ineg, 1) := by decide +kernel
theorem dX7_helpsBySand_49 : decode cX7_helpsBySand 49 = .ok (.invokevirtual 224, 3) := by decide +kernel
theorem dX7_helpsBySand_52 : decode cX7_helpsBySand 52 = .ok (.iload_n 3, 1) := by decide +kernel
theorem dX7_helpsBySand_53 : decode cX7_helpsBySand 53 = .ok (.ireturn, 1) := by decide +kernel
theorem dX7_isSheet_0 : decode cX7_isSheet 0 = .ok (.iload_n 0, 1) := by decide +kernel
theorem dX7_isSheet_1 : decode cX7_isSheet 1 = .ok (.ifCond .lt 12, 3) := by decide +kernel
theorem dX7_isSheet_4 : decode cX7_isSheet 4 = .ok (.iload_n 0, 1) := by decide +kernel
theorem dX7_isSheet_5 : decode cX7_isSheet 5 = .ok (.iconst 4, 1) := by decide +kernel
theorem dX7_isSheet_6 : decode cX7_isSheet 6 = .ok (.if_icmp .ge 7, 3) := by decide +kernel
theorem dX7_isSheet_9 : decode cX7_isSheet 9 = .ok (.iconst 1, 1) := by decide +kernel
theorem dX7_isSheet_10 : decode cX7_isSheet 10 = .ok (.goto 4, 3) := by decide +kernel
theorem dX7_isSheet_13 : decode cX7_isSheet 13 = .ok (.iconst 0, 1) := by decide +kernel
theorem dX7_isSheet_14 : decode cX7_isSheet 14 = .ok (.ireturn, 1) := by decide +kernel
theorem dX7_refusalOfRow_0 : decode cX7_refusalOfRow 0 = .ok (.iload_n 1, 1) := by decide +kernel
theorem dX7_refusalOfRow_1 : decode cX7_refusalOfRow 1 = .ok (.invokestatic 265, 3) := by decide +kernel
theorem dX7_refusalOfRow_4 : decode cX7_refusalOfRow 4 = .ok (.ifCond .eq 12, 3) := by decide +kernel
theorem dX7_refusalOfRow_7 : decode cX7_refusalOfRow 7 = .ok (.iload_n 2, 1) := by decide +kernel
theorem dX7_refusalOfRow_8 : decode cX7_refusalOfRow 8 = .ok (.ifCond .lt 8, 3) := by decide +kernel
theorem dX7_refusalOfRow_11 : decode cX7_refusalOfRow 11 = .ok (.iload_n 2, 1) := by decide +kernel
theorem dX7_refusalOfRow_12 : decode cX7_refusalOfRow 12 = .ok (.iconst 3, 1) := by decide +kernel
theorem dX7_refusalOfRow_13 : decode cX7_refusalOfRow 13 = .ok (.if_icmp .lt 5, 3) := by decide +kernel
theorem dX7_refusalOfRow_16 : decode cX7_refusalOfRow 16 = .ok (.iconst (-1), 1) := by decide +kernel
theorem dX7_refusalOfRow_17 : decode cX7_refusalOfRow 17 = .ok (.ireturn, 1) := by decide +kernel
theorem dX7_refusalOfRow_18 : decode cX7_refusalOfRow 18 = .ok (.aload_n 0, 1) := by decide +kernel
theorem dX7_refusalOfRow_19 : decode cX7_refusalOfRow 19 = .ok (.getfield 58, 3) := by decide +kernel
theorem dX7_refusalOfRow_22 : decode cX7_refusalOfRow 22 = .ok (.iload_n 1, 1) := by decide +kernel
theorem dX7_refusalOfRow_23 : decode cX7_refusalOfRow 23 = .ok (.aaload, 1) := by decide +kernel
theorem dX7_refusalOfRow_24 : decode cX7_refusalOfRow 24 = .ok (.getfield 271, 3) := by decide +kernel
theorem dX7_refusalOfRow_27 : decode cX7_refusalOfRow 27 = .ok (.ifCond .ne 6, 3) := by decide +kernel
theorem dX7_refusalOfRow_30 : decode cX7_refusalOfRow 30 = .ok (.bipush (-11), 2) := by decide +kernel
theorem dX7_refusalOfRow_32 : decode cX7_refusalOfRow 32 = .ok (.ireturn, 1) := by decide +kernel
theorem dX7_refusalOfRow_33 : decode cX7_refusalOfRow 33 = .ok (.aload_n 0, 1) := by decide +kernel
theorem dX7_refusalOfRow_34 : decode cX7_refusalOfRow 34 = .ok (.getfield 58, 3) := by decide +kernel
theorem dX7_refusalOfRow_37 : decode cX7_refusalOfRow 37 = .ok (.iload_n 1, 1) := by decide +kernel
theorem dX7_refusalOfRow_38 : decode cX7_refusalOfRow 38 = .ok (.aaload, 1) := by decide +kernel
theorem dX7_refusalOfRow_39 : decode cX7_refusalOfRow 39 = .ok (.getfield 275, 3) := by decide +kernel
theorem dX7_refusalOfRow_42 : decode cX7_refusalOfRow 42 = .ok (.iload_n 2, 1) := by decide +kernel
theorem dX7_refusalOfRow_43 : decode cX7_refusalOfRow 43 = .ok (.if_icmp .eq 6, 3) := by decide +kernel
theorem dX7_refusalOfRow_46 : decode cX7_refusalOfRow 46 = .ok (.bipush (-12), 2) := by decide +kernel
theorem dX7_refusalOfRow_48 : decode cX7_refusalOfRow 48 = .ok (.ireturn, 1) := by decide +kernel
theorem dX7_refusalOfRow_49 : decode cX7_refusalOfRow 49 = .ok (.aload_n 0, 1) := by decide +kernel
theorem dX7_refusalOfRow_50 : decode cX7_refusalOfRow 50 = .ok (.getfield 58, 3) := by decide +kernel
theorem dX7_refusalOfRow_53 : decode cX7_refusalOfRow 53 = .ok (.iload_n 1, 1) := by decide +kernel
theorem dX7_refusalOfRow_54 : decode cX7_refusalOfRow 54 = .ok (.aaload, 1) := by decide +kernel
theorem dX7_refusalOfRow_55 : decode cX7_refusalOfRow 55 = .ok (.iload_n 3, 1) := by decide +kernel
theorem dX7_refusalOfRow_56 : decode cX7_refusalOfRow 56 = .ok (.iload 4, 2) := by decide +kernel
theorem dX7_refusalOfRow_58 : decode cX7_refusalOfRow 58 = .ok (.invokevirtual 278, 3) := by decide +kernel
theorem dX7_refusalOfRow_61 : decode cX7_refusalOfRow 61 = .ok (.ifCond .eq 7, 3) := by decide +kernel
theorem dX7_refusalOfRow_64 : decode cX7_refusalOfRow 64 = .ok (.iconst 0, 1) := by decide +kernel
theorem dX7_refusalOfRow_65 : decode cX7_refusalOfRow 65 = .ok (.goto 5, 3) := by decide +kernel
theorem dX7_refusalOfRow_68 : decode cX7_refusalOfRow 68 = .ok (.bipush (-13), 2) := by decide +kernel
theorem dX7_refusalOfRow_70 : decode cX7_refusalOfRow 70 = .ok (.ireturn, 1) := by decide +kernel
end
section
theorem dX8_init_0 : decode cX8_init 0 = .ok (.aload_n 0, 1) := by decide +kernel
theorem dX8_init_1 : decode cX8_init 1 = .ok (.invokespecial 1, 3) := by decide +kernel
theorem dX8_init_4 : decode cX8_init 4 = .ok (.aload_n 0, 1) := by decide +kernel
theorem dX8_init_5 : decode cX8_init 5 = .ok (.bipush 10, 2) := by decide +kernel
theorem dX8_init_7 : decode cX8_init 7 = .ok (.newarray .int, 2) := by decide +kernel
theorem dX8_init_9 : decode cX8_init 9 = .ok (.putfield 7, 3) := by decide +kernel
theorem dX8_init_12 : decode cX8_init 12 = .ok (.aload_n 0, 1) := by decide +kernel
theorem dX8_init_13 : decode cX8_init 13 = .ok (.bipush 10, 2) := by decide +kernel
theorem dX8_init_15 : decode cX8_init 15 = .ok (.newarray .int, 2) := by decide +kernel
theorem dX8_init_17 : decode cX8_init 17 = .ok (.putfield 13, 3) := by decide +kernel
theorem dX8_init_20 : decode cX8_init 20 = .ok (.aload_n 0, 1) := by decide +kernel
theorem dX8_init_21 : decode cX8_init 21 = .ok (.bipush 10, 2) := by decide +kernel
theorem dX8_init_23 : decode cX8_init 23 = .ok (.newarray .int, 2) := by decide +kernel
theorem dX8_init_25 : decode cX8_init 25 = .ok (.putfield 16, 3) := by decide +kernel
theorem dX8_init_28 : decode cX8_init 28 = .ok (.aload_n 0, 1) := by decide +kernel
theorem dX8_init_29 : decode cX8_init 29 = .ok (.bipush 10, 2) := by decide +kernel
theorem dX8_init_31 : decode cX8_init 31 = .ok (.newarray .int, 2) := by decide +kernel
theorem dX8_init_33 : decode cX8_init 33 = .ok (.putfield 19, 3) := by decide +kernel
theorem dX8_init_36 : decode cX8_init 36 = .ok (.aload_n 0, 1) := by decide +kernel
theorem dX8_init_37 : decode cX8_init 37 = .ok (.bipush 12, 2) := by decide +kernel
theorem dX8_init_39 : decode cX8_init 39 = .ok (.newarray .int, 2) := by decide +kernel
theorem dX8_init_41 : decode cX8_init 41 = .ok (.putfield 22, 3) := by decide +kernel
theorem dX8_init_44 : decode cX8_init 44 = .ok (.aload_n 0, 1) := by decide +kernel
theorem dX8_init_45 : decode cX8_init 45 = .ok (.bipush 20, 2) := by decide +kernel
theorem dX8_init_47 : decode cX8_init 47 = .ok (.putfield 25, 3) := by decide +kernel
theorem dX8_init_50 : decode cX8_init 50 = .ok (.aload_n 0, 1) := by decide +kernel
theorem dX8_init_51 : decode cX8_init 51 = .ok (.bipush 12, 2) := by decide +kernel
theorem dX8_init_53 : decode cX8_init 53 = .ok (.newarray .int, 2) := by decide +kernel
theorem dX8_init_55 : decode cX8_init 55 = .ok (.putfield 29, 3) := by decide +kernel
theorem dX8_init_58 : decode cX8_init 58 = .ok (.aload_n 0, 1) := by decide +kernel
theorem dX8_init_59 : decode cX8_init 59 = .ok (.bipush 120, 2) := by decide +kernel
theorem dX8_init_61 : decode cX8_init 61 = .ok (.newarray .int, 2) := by decide +kernel
theorem dX8_init_63 : decode cX8_init 63 = .ok (.putfield 32, 3) := by decide +kernel
theorem dX8_init_66 : decode cX8_init 66 = .ok (.aload_n 0, 1) := by decide +kernel
theorem dX8_init_67 : decode cX8_init 67 = .ok (.sipush 240, 3) := by decide +kernel
theorem dX8_init_70 : decode cX8_init 70 = .ok (.newarray .int, 2) := by decide +kernel
theorem dX8_init_72 : decode cX8_init 72 = .ok (.putfield 35, 3) := by decide +kernel
theorem dX8_init_75 : decode cX8_init 75 = .ok (.aload_n 0, 1) := by decide +kernel
theorem dX8_init_76 : decode cX8_init 76 = .ok (.iconst 4, 1) := by decide +kernel
theorem dX8_init_77 : decode cX8_init 77 = .ok (.newarray .int, 2) := by decide +kernel
theorem dX8_init_79 : decode cX8_init 79 = .ok (.putfield 38, 3) := by decide +kernel
theorem dX8_init_82 : decode cX8_init 82 = .ok (.aload_n 0, 1) := by decide +kernel
theorem dX8_init_83 : decode cX8_init 83 = .ok (.iconst 4, 1) := by decide +kernel
theorem dX8_init_84 : decode cX8_init 84 = .ok (.newarray .int, 2) := by decide +kernel
theorem dX8_init_86 : decode cX8_init 86 = .ok (.putfield 41, 3) := by decide +kernel
theorem dX8_init_89 : decode cX8_init 89 = .ok (.aload_n 0, 1) := by decide +kernel
theorem dX8_init_90 : decode cX8_init 90 = .ok (.iconst 4, 1) := by decide +kernel
theorem dX8_init_91 : decode cX8_init 91 = .ok (.newarray .int, 2) := by decide +kernel
theorem dX8_init_93 : decode cX8_init 93 = .ok (.putfield 44, 3) := by decide +kernel
theorem dX8_init_96 : decode cX8_init 96 = .ok (.aload_n 0, 1) := by decide +kernel
theorem dX8_init_97 : decode cX8_init 97 = .ok (.sipush 1024, 3) := by decide +kernel
theorem dX8_init_100 : decode cX8_init 100 = .ok (.newarray .boolean, 2) := by decide +kernel
theorem dX8_init_102 : decode cX8_init 102 = .ok (.putfield 47, 3) := by decide +kernel
theorem dX8_init_105 : decode cX8_init 105 = .ok (.aload_n 0, 1) := by decide +kernel
theorem dX8_init_106 : decode cX8_init 106 = .ok (.sipush 1024, 3) := by decide +kernel
theorem dX8_init_109 : decode cX8_init 109 = .ok (.newarray .boolean, 2) := by decide +kernel
theorem dX8_init_111 : decode cX8_init 111 = .ok (.putfield 51, 3) := by decide +kernel
theorem dX8_init_114 : decode cX8_init 114 = .ok (.aload_n 0, 1) := by decide +kernel
theorem dX8_init_115 : decode cX8_init 115 = .ok (.bipush 56, 2) := by decide +kernel
theorem dX8_init_117 : decode cX8_init 117 = .ok (.newarray .int, 2) := by decide +kernel
theorem dX8_init_119 : decode cX8_init 119 = .ok (.putfield 54, 3) := by decide +kernel
theorem dX8_init_122 : decode cX8_init 122 = .ok (.aload_n 0, 1) := by decide +kernel
theorem dX8_init_123 : decode cX8_init 123 = .ok (.iconst 4, 1) := by decide +kernel
theorem dX8_init_124 : decode cX8_init 124 = .ok (.newarray .int, 2) := by decide +kernel
theorem dX8_init_126 : decode cX8_init 126 = .ok (.putfield 57, 3) := by decide +kernel
theorem dX8_init_129 : decode cX8_init 129 = .ok (.aload_n 0, 1) := by decide +kernel
theorem dX8_init_130 : decode cX8_init 130 = .ok (.iconst 4, 1) := by decide +kernel
theorem dX8_init_131 : decode cX8_init 131 = .ok (.newarray .int, 2) := by decide +kernel
theorem dX8_init_133 : decode cX8_init 133 = .ok (.putfield 60, 3) := by decide +kernel
theorem dX8_init_136 : decode cX8_init 136 = .ok (.aload_n 0, 1) := by decide +kernel
theorem dX8_init_137 : decode cX8_init 137 = .ok (.bipush 96, 2) := by decide +kernel
theorem dX8_init_139 : decode cX8_init 139 = .ok (.newarray .int, 2) := by decide +kernel
theorem dX8_init_141 : decode cX8_init 141 = .ok (.putfield 63, 3) := by decide +kernel
theorem dX8_init_144 : decode cX8_init 144 = .ok (.aload_n 0, 1) := by decide +kernel
theorem dX8_init_145 : decode cX8_init 145 = .ok (.bipush 24, 2) := by decide +kernel
theorem dX8_init_147 : decode cX8_init 147 = .ok (.newarray .int, 2) := by decide +kernel
theorem dX8_init_149 : decode cX8_init 149 = .ok (.putfield 66, 3) := by decide +kernel
theorem dX8_init_152 : decode cX8_init 152 = .ok (.iconst 0, 1) := by decide +kernel
theorem dX8_init_153 : decode cX8_init 153 = .ok (.istore_n 1, 1) := by decide +kernel
theorem dX8_init_154 : decode cX8_init 154 = .ok (.iload_n 1, 1) := by decide +kernel
theorem dX8_init_155 : decode cX8_init 155 = .ok (.iconst 4, 1) := by decide +kernel
theorem dX8_init_156 : decode cX8_init 156 = .ok (.if_icmp .ge 16, 3) := by decide +kernel
theorem dX8_init_159 : decode cX8_init 159 = .ok (.aload_n 0, 1) := by decide +kernel
theorem dX8_init_160 : decode cX8_init 160 = .ok (.getfield 57, 3) := by decide +kernel
theorem dX8_init_163 : decode cX8_init 163 = .ok (.iload_n 1, 1) := by decide +kernel
theorem dX8_init_164 : decode cX8_init 164 = .ok (.iconst (-1), 1) := by decide +kernel
theorem dX8_init_165 : decode cX8_init 165 = .ok (.iastore, 1) := by decide +kernel
theorem dX8_init_166 : decode cX8_init 166 = .ok (.iinc 1 1, 3) := by decide +kernel
theorem dX8_init_169 : decode cX8_init 169 = .ok (.goto (-15), 3) := by decide +kernel
theorem dX8_init_172 : decode cX8_init 172 = .ok (.return_, 1) := by decide +kernel
theorem dX8_in_0 : decode cX8_in 0 = .ok (.lload_n 0, 1) := by decide +kernel
theorem dX8_in_1 : decode cX8_in 1 = .ok (.lload_n 2, 1) := by decide +kernel
theorem dX8_in_2 : decode cX8_in 2 = .ok (.lcmp, 1) := by decide +kernel
theorem dX8_in_3 : decode cX8_in 3 = .ok (.ifCond .lt 14, 3) := by decide +kernel
theorem dX8_in_6 : decode cX8_in 6 = .ok (.lload_n 0, 1) := by decide +kernel
theorem dX8_in_7 : decode cX8_in 7 = .ok (.lload 4, 2) := by decide +kernel
theorem dX8_in_9 : decode cX8_in 9 = .ok (.lcmp, 1) := by decide +kernel
theorem dX8_in_10 : decode cX8_in 10 = .ok (.ifCond .gt 7, 3) := by decide +kernel
theorem dX8_in_13 : decode cX8_in 13 = .ok (.iconst 1, 1) := by decide +kernel
theorem dX8_in_14 : decode cX8_in 14 = .ok (.goto 4, 3) := by decide +kernel
theorem dX8_in_17 : decode cX8_in 17 = .ok (.iconst 0, 1) := by decide +kernel
theorem dX8_in_18 : decode cX8_in 18 = .ok (.ireturn, 1) := by decide +kernel
theorem dX8_has_0 : decode cX8_has 0 = .ok (.iload_n 0, 1) := by decide +kernel
theorem dX8_has_1 : decode cX8_has 1 = .ok (.iload_n 1, 1) := by decide +kernel
theorem dX8_has_2 : decode cX8_has 2 = .ok (.ishr, 1) := by decide +kernel
theorem dX8_has_3 : decode cX8_has 3 = .ok (.iconst 1, 1) := by decide +kernel
theorem dX8_has_4 : decode cX8_has 4 = .ok (.iand, 1) := by decide +kernel
theorem dX8_has_5 : decode cX8_has 5 = .ok (.iconst 1, 1) := by decide +kernel
theorem dX8_has_6 : decode cX8_has 6 = .ok (.if_icmp .ne 7, 3) := by decide +kernel
theorem dX8_has_9 : decode cX8_has 9 = .ok (.iconst 1, 1) := by decide +kernel
theorem dX8_has_10 : decode cX8_has 10 = .ok (.goto 4, 3) := by decide +kernel
theorem dX8_has_13 : decode cX8_has 13 = .ok (.iconst 0, 1) := by decide +kernel
theorem dX8_has_14 : decode cX8_has 14 = .ok (.ireturn, 1) := by decide +kernel
theorem dX8_isOne_0 : decode cX8_isOne 0 = .ok (.iload_n 1, 1) := by decide +kernel
theorem dX8_isOne_1 : decode cX8_isOne 1 = .ok (.i2l, 1) := by decide +kernel
theorem dX8_isOne_2 : decode cX8_isOne 2 = .ok (.lconst 0, 1) := by decide +kernel
theorem dX8_isOne_3 : decode cX8_isOne 3 = .ok (.aload_n 0, 1) := by decide +kernel
theorem dX8_isOne_4 : decode cX8_isOne 4 = .ok (.getfield 69, 3) := by decide +kernel
theorem dX8_isOne_7 : decode cX8_isOne 7 = .ok (.iconst 1, 1) := by decide +kernel
theorem dX8_isOne_8 : decode cX8_isOne 8 = .ok (.isub, 1) := by decide +kernel
theorem dX8_isOne_9 : decode cX8_isOne 9 = .ok (.i2l, 1) := by decide +kernel
theorem dX8_isOne_10 : decode cX8_isOne 10 = .ok (.invokestatic 72, 3) := by decide +kernel
theorem dX8_isOne_13 : decode cX8_isOne 13 = .ok (.ireturn, 1) := by decide +kernel
theorem dX8_isCar_0 : decode cX8_isCar 0 = .ok (.iload_n 0, 1) := by decide +kernel
theorem dX8_isCar_1 : decode cX8_isCar 1 = .ok (.i2l, 1) := by decide +kernel
theorem dX8_isCar_2 : decode cX8_isCar 2 = .ok (.lconst 0, 1) := by decide +kernel
theorem dX8_isCar_3 : decode cX8_isCar 3 = .ok (.ldc2_w 76, 3) := by decide +kernel
theorem dX8_isCar_6 : decode cX8_isCar 6 = .ok (.invokestatic 72, 3) := by decide +kernel
theorem dX8_isCar_9 : decode cX8_isCar 9 = .ok (.ireturn, 1) := by decide +kernel
theorem dX8_add_0 : decode cX8_add 0 = .ok (.aload_n 0, 1) := by decide +kernel
theorem dX8_add_1 : decode cX8_add 1 = .ok (.getfield 7, 3) := by decide +kernel
theorem dX8_add_4 : decode cX8_add 4 = .ok (.aload_n 0, 1) := by decide +kernel
theorem dX8_add_5 : decode cX8_add 5 = .ok (.getfield 69, 3) := by decide +kernel
theorem dX8_add_8 : decode cX8_add 8 = .ok (.iload_n 1, 1) := by decide +kernel
theorem dX8_add_9 : decode cX8_add 9 = .ok (.iastore, 1) := by decide +kernel
theorem dX8_add_10 : decode cX8_add 10 = .ok (.aload_n 0, 1) := by decide +kernel
theorem dX8_add_11 : decode cX8_add 11 = .ok (.getfield 13, 3) := by decide +kernel
theorem dX8_add_14 : decode cX8_add 14 = .ok (.aload_n 0, 1) := by decide +kernel
theorem dX8_add_15 : decode cX8_add 15 = .ok (.getfield 69, 3) := by decide +kernel
theorem dX8_add_18 : decode cX8_add 18 = .ok (.iload_n 2, 1) := by decide +kernel
theorem dX8_add_19 : decode cX8_add 19 = .ok (.iastore, 1) := by decide +kernel
theorem dX8_add_20 : decode cX8_add 20 = .ok (.aload_n 0, 1) := by decide +kernel
theorem dX8_add_21 : decode cX8_add 21 = .ok (.getfield 16, 3) := by decide +kernel
theorem dX8_add_24 : decode cX8_add 24 = .ok (.aload_n 0, 1) := by decide +kernel
theorem dX8_add_25 : decode cX8_add 25 = .ok (.getfield 69, 3) := by decide +kernel
theorem dX8_add_28 : decode cX8_add 28 = .ok (.bipush 12, 2) := by decide +kernel
theorem dX8_add_30 : decode cX8_add 30 = .ok (.iastore, 1) := by decide +kernel
theorem dX8_add_31 : decode cX8_add 31 = .ok (.aload_n 0, 1) := by decide +kernel
theorem dX8_add_32 : decode cX8_add 32 = .ok (.getfield 19, 3) := by decide +kernel
theorem dX8_add_35 : decode cX8_add 35 = .ok (.aload_n 0, 1) := by decide +kernel
theorem dX8_add_36 : decode cX8_add 36 = .ok (.getfield 69, 3) := by decide +kernel
theorem dX8_add_39 : decode cX8_add 39 = .ok (.bipush (-4), 2) := by decide +kernel
theorem dX8_add_41 : decode cX8_add 41 = .ok (.iastore, 1) := by decide +kernel
theorem dX8_add_42 : decode cX8_add 42 = .ok (.aload_n 0, 1) := by decide +kernel
theorem dX8_add_43 : decode cX8_add 43 = .ok (.dup, 1) := by decide +kernel
theorem dX8_add_44 : decode cX8_add 44 = .ok (.getfield 69, 3) := by decide +kernel
theorem dX8_add_47 : decode cX8_add 47 = .ok (.iconst 1, 1) := by decide +kernel
theorem dX8_add_48 : decode cX8_add 48 = .ok (.iadd, 1) := by decide +kernel
theorem dX8_add_49 : decode cX8_add 49 = .ok (.putfield 69, 3) := by decide +kernel
theorem dX8_add_52 : decode cX8_add 52 = .ok (.return_, 1) := by decide +kernel
theorem dX8_person_0 : decode cX8_person 0 = .ok (.iload_n 1, 1) := by decide +kernel
theorem dX8_person_1 : decode cX8_person 1 = .ok (.i2l, 1) := by decide +kernel
theorem dX8_person_2 : decode cX8_person 2 = .ok (.lconst 0, 1) := by decide +kernel
theorem dX8_person_3 : decode cX8_person 3 = .ok (.ldc2_w 78, 3) := by decide +kernel
theorem dX8_person_6 : decode cX8_person 6 = .ok (.invokestatic 72, 3) := by decide +kernel
theorem dX8_person_9 : decode cX8_person 9 = .ok (.ifCond .eq 15, 3) := by decide +kernel
theorem dX8_person_12 : decode cX8_person 12 = .ok (.iload_n 2, 1) := by decide +kernel
theorem dX8_person_13 : decode cX8_person 13 = .ok (.i2l, 1) := by decide +kernel
theorem dX8_person_14 : decode cX8_person 14 = .ok (.lconst 1, 1) := by decide +kernel
theorem dX8_person_15 : decode cX8_person 15 = .ok (.ldc2_w 80, 3) := by decide +kernel
theorem dX8_person_18 : decode cX8_person 18 = .ok (.invokestatic 72, 3) := by decide +kernel
theorem dX8_person_21 : decode cX8_person 21 = .ok (.ifCond .ne 5, 3) := by decide +kernel
theorem dX8_person_24 : decode cX8_person 24 = .ok (.iconst (-1), 1) := by decide +kernel
theorem dX8_person_25 : decode cX8_person 25 = .ok (.ireturn, 1) := by decide +kernel
theorem dX8_person_26 : decode cX8_person 26 = .ok (.aload_n 0, 1) := by decide +kernel
theorem dX8_person_27 : decode cX8_person 27 = .ok (.getfield 69, 3) := by decide +kernel
theorem dX8_person_30 : decode cX8_person 30 = .ok (.bipush 10, 2) := by decide +kernel
theorem dX8_person_32 : decode cX8_person 32 = .ok (.if_icmp .ne 6, 3) := by decide +kernel
theorem dX8_person_35 : decode cX8_person 35 = .ok (.bipush (-3), 2) := by decide +kernel
theorem dX8_person_37 : decode cX8_person 37 = .ok (.ireturn, 1) := by decide +kernel
theorem dX8_person_38 : decode cX8_person 38 = .ok (.aload_n 0, 1) := by decide +kernel
theorem dX8_person_39 : decode cX8_person 39 = .ok (.iload_n 1, 1) := by decide +kernel
theorem dX8_person_40 : decode cX8_person 40 = .ok (.iload_n 2, 1) := by decide +kernel
theorem dX8_person_41 : decode cX8_person 41 = .ok (.invokevirtual 82, 3) := by decide +kernel
theorem dX8_person_44 : decode cX8_person 44 = .ok (.aload_n 0, 1) := by decide +kernel
theorem dX8_person_45 : decode cX8_person 45 = .ok (.getfield 69, 3) := by decide +kernel
theorem dX8_person_48 : decode cX8_person 48 = .ok (.iconst 1, 1) := by decide +kernel
theorem dX8_person_49 : decode cX8_person 49 = .ok (.isub, 1) := by decide +kernel
theorem dX8_person_50 : decode cX8_person 50 = .ok (.ireturn, 1) := by decide +kernel
theorem dX8_told_0 : decode cX8_told 0 = .ok (.aload_n 0, 1) := by decide +kernel
theorem dX8_told_1 : decode cX8_told 1 = .ok (.iload_n 1, 1) := by decide +kernel
theorem dX8_told_2 : decode cX8_told 2 = .ok (.invokevirtual 86, 3) := by decide +kernel
theorem dX8_told_5 : decode cX8_told 5 = .ok (.ifCond .eq 15, 3) := by decide +kernel
theorem dX8_told_8 : decode cX8_told 8 = .ok (.iload_n 2, 1) := by decide +kernel
theorem dX8_told_9 : decode cX8_told 9 = .ok (.i2l, 1) := by decide +kernel
theorem dX8_told_10 : decode cX8_told 10 = .ok (.lconst 0, 1) := by decide +kernel
theorem dX8_told_11 : decode cX8_told 11 = .ok (.ldc2_w 78, 3) := by decide +kernel
theorem dX8_told_14 : decode cX8_told 14 = .ok (.invokestatic 72, 3) := by decide +kernel
theorem dX8_told_17 : decode cX8_told 17 = .ok (.ifCond .ne 5, 3) := by decide +kernel
theorem dX8_told_20 : decode cX8_told 20 = .ok (.iconst (-1), 1) := by decide +kernel
theorem dX8_told_21 : decode cX8_told 21 = .ok (.ireturn, 1) := by decide +kernel
theorem dX8_told_22 : decode cX8_told 22 = .ok (.iload_n 2, 1) := by decide +kernel
theorem dX8_told_23 : decode cX8_told 23 = .ok (.ifCond .ne 12, 3) := by decide +kernel
theorem dX8_told_26 : decode cX8_told 26 = .ok (.aload_n 0, 1) := by decide +kernel
theorem dX8_told_27 : decode cX8_told 27 = .ok (.getfield 7, 3) := by decide +kernel
theorem dX8_told_30 : decode cX8_told 30 = .ok (.iload_n 1, 1) := by decide +kernel
theorem dX8_told_31 : decode cX8_told 31 = .ok (.iaload, 1) := by decide +kernel
theorem dX8_told_32 : decode cX8_told 32 = .ok (.goto 37, 3) := by decide +kernel
theorem dX8_told_35 : decode cX8_told 35 = .ok (.iload_n 2, 1) := by decide +kernel
theorem dX8_told_36 : decode cX8_told 36 = .ok (.iconst 1, 1) := by decide +kernel
theorem dX8_told_37 : decode cX8_told 37 = .ok (.if_icmp .ne 12, 3) := by decide +kernel
theorem dX8_told_40 : decode cX8_told 40 = .ok (.aload_n 0, 1) := by decide +kernel
theorem dX8_told_41 : decode cX8_told 41 = .ok (.getfield 13, 3) := by decide +kernel
theorem dX8_told_44 : decode cX8_told 44 = .ok (.iload_n 1, 1) := by decide +kernel
theorem dX8_told_45 : decode cX8_told 45 = .ok (.iaload, 1) := by decide +kernel
theorem dX8_told_46 : decode cX8_told 46 = .ok (.goto 23, 3) := by decide +kernel
theorem dX8_told_49 : decode cX8_told 49 = .ok (.iload_n 2, 1) := by decide +kernel
theorem dX8_told_50 : decode cX8_told 50 = .ok (.iconst 2, 1) := by decide +kernel
theorem dX8_told_51 : decode cX8_told 51 = .ok (.if_icmp .ne 12, 3) := by decide +kernel
theorem dX8_told_54 : decode cX8_told 54 = .ok (.aload_n 0, 1) := by decide +kernel
theorem dX8_told_55 : decode cX8_told 55 = .ok (.getfield 16, 3) := by decide +kernel
theorem dX8_told_58 : decode cX8_told 58 = .ok (.iload_n 1, 1) := by decide +kernel
theorem dX8_told_59 : decode cX8_told 59 = .ok (.iaload, 1) := by decide +kernel
theorem dX8_told_60 : decode cX8_told 60 = .ok (.goto 9, 3) := by decide +kernel
theorem dX8_told_63 : decode cX8_told 63 = .ok (.aload_n 0, 1) := by decide +kernel
theorem dX8_told_64 : decode cX8_told 64 = .ok (.getfield 19, 3) := by decide +kernel
theorem dX8_told_67 : decode cX8_told 67 = .ok (.iload_n 1, 1) := by decide +kernel
theorem dX8_told_68 : decode cX8_told 68 = .ok (.iaload, 1) := by decide +kernel
theorem dX8_told_69 : decode cX8_told 69 = .ok (.ireturn, 1) := by decide +kernel
theorem dX8_whoIn_0 : decode cX8_whoIn 0 = .ok (.iconst 0, 1) := by decide +kernel
theorem dX8_whoIn_1 : decode cX8_whoIn 1 = .ok (.istore_n 2, 1) := by decide +kernel
theorem dX8_whoIn_2 : decode cX8_whoIn 2 = .ok (.iconst 0, 1) := by decide +kernel
theorem dX8_whoIn_3 : decode cX8_whoIn 3 = .ok (.istore_n 3, 1) := by decide +kernel
theorem dX8_whoIn_4 : decode cX8_whoIn 4 = .ok (.iload_n 3, 1) := by decide +kernel
theorem dX8_whoIn_5 : decode cX8_whoIn 5 = .ok (.aload_n 0, 1) := by decide +kernel
theorem dX8_whoIn_6 : decode cX8_whoIn 6 = .ok (.getfield 69, 3) := by decide +kernel
theorem dX8_whoIn_9 : decode cX8_whoIn 9 = .ok (.if_icmp .ge 29, 3) := by decide +kernel
theorem dX8_whoIn_12 : decode cX8_whoIn 12 = .ok (.iload_n 2, 1) := by decide +kernel
theorem dX8_whoIn_13 : decode cX8_whoIn 13 = .ok (.aload_n 0, 1) := by decide +kernel
theorem dX8_whoIn_14 : decode cX8_whoIn 14 = .ok (.getfield 16, 3) := by decide +kernel
theorem dX8_whoIn_17 : decode cX8_whoIn 17 = .ok (.iload_n 3, 1) := by decide +kernel
theorem dX8_whoIn_18 : decode cX8_whoIn 18 = .ok (.iaload, 1) := by decide +kernel
theorem dX8_whoIn_19 : decode cX8_whoIn 19 = .ok (.iload_n 1, 1) := by decide +kernel
theorem dX8_whoIn_20 : decode cX8_whoIn 20 = .ok (.if_icmp .ne 9, 3) := by decide +kernel
theorem dX8_whoIn_23 : decode cX8_whoIn 23 = .ok (.iconst 1, 1) := by decide +kernel
theorem dX8_whoIn_24 : decode cX8_whoIn 24 = .ok (.iload_n 3, 1) := by decide +kernel
theorem dX8_whoIn_25 : decode cX8_whoIn 25 = .ok (.ishl, 1) := by decide +kernel
theorem dX8_whoIn_26 : decode cX8_whoIn 26 = .ok (.goto 4, 3) := by decide +kernel
theorem dX8_whoIn_29 : decode cX8_whoIn 29 = .ok (.iconst 0, 1) := by decide +kernel
theorem dX8_whoIn_30 : decode cX8_whoIn 30 = .ok (.ior, 1) := by decide +kernel
theorem dX8_whoIn_31 : decode cX8_whoIn 31 = .ok (.istore_n 2, 1) := by decide +kernel
theorem dX8_whoIn_32 : decode cX8_whoIn 32 = .ok (.iinc 3 1, 3) := by decide +kernel
theorem dX8_whoIn_35 : decode cX8_whoIn 35 = .ok (.goto (-31), 3) := by decide +kernel
theorem dX8_whoIn_38 : decode cX8_whoIn 38 = .ok (.iload_n 2, 1) := by decide +kernel
theorem dX8_whoIn_39 : decode cX8_whoIn 39 = .ok (.ireturn, 1) := by decide +kernel
theorem dX8_seatsOf_0 : decode cX8_seatsOf 0 = .ok (.iconst 0, 1) := by decide +kernel
theorem dX8_seatsOf_1 : decode cX8_seatsOf 1 = .ok (.istore_n 2, 1) := by decide +kernel
theorem dX8_seatsOf_2 : decode cX8_seatsOf 2 = .ok (.iconst 0, 1) := by decide +kernel
theorem dX8_seatsOf_3 : decode cX8_seatsOf 3 = .ok (.istore_n 3, 1) := by decide +kernel
theorem dX8_seatsOf_4 : decode cX8_seatsOf 4 = .ok (.iload_n 3, 1) := by decide +kernel
theorem dX8_seatsOf_5 : decode cX8_seatsOf 5 = .ok (.aload_n 0, 1) := by decide +kernel
theorem dX8_seatsOf_6 : decode cX8_seatsOf 6 = .ok (.getfield 69, 3) := by decide +kernel
theorem dX8_seatsOf_9 : decode cX8_seatsOf 9 = .ok (.if_icmp .ge 39, 3) := by decide +kernel
theorem dX8_seatsOf_12 : decode cX8_seatsOf 12 = .ok (.iload_n 2, 1) := by decide +kernel
theorem dX8_seatsOf_13 : decode cX8_seatsOf 13 = .ok (.iload_n 1, 1) := by decide +kernel
theorem dX8_seatsOf_14 : decode cX8_seatsOf 14 = .ok (.iload_n 3, 1) := by decide +kernel
theorem dX8_seatsOf_15 : decode cX8_seatsOf 15 = .ok (.invokestatic 90, 3) := by decide +kernel
theorem dX8_seatsOf_18 : decode cX8_seatsOf 18 = .ok (.ifCond .eq 21, 3) := by decide +kernel
theorem dX8_seatsOf_21 : decode cX8_seatsOf 21 = .ok (.aload_n 0, 1) := by decide +kernel
theorem dX8_seatsOf_22 : decode cX8_seatsOf 22 = .ok (.getfield 7, 3) := by decide +kernel
theorem dX8_seatsOf_25 : decode cX8_seatsOf 25 = .ok (.iload_n 3, 1) := by decide +kernel
theorem dX8_seatsOf_26 : decode cX8_seatsOf 26 = .ok (.iaload, 1) := by decide +kernel
theorem dX8_seatsOf_27 : decode cX8_seatsOf 27 = .ok (.iconst 2, 1) := by decide +kernel
theorem dX8_seatsOf_28 : decode cX8_seatsOf 28 = .ok (.if_icmp .lt 7, 3) := by decide +kernel
theorem dX8_seatsOf_31 : decode cX8_seatsOf 31 = .ok (.iconst 2, 1) := by decide +kernel
theorem dX8_seatsOf_32 : decode cX8_seatsOf 32 = .ok (.goto 8, 3) := by decide +kernel
theorem dX8_seatsOf_35 : decode cX8_seatsOf 35 = .ok (.iconst 1, 1) := by decide +kernel
theorem dX8_seatsOf_36 : decode cX8_seatsOf 36 = .ok (.goto 4, 3) := by decide +kernel
theorem dX8_seatsOf_39 : decode cX8_seatsOf 39 = .ok (.iconst 0, 1) := by decide +kernel
theorem dX8_seatsOf_40 : decode cX8_seatsOf 40 = .ok (.iadd, 1) := by decide +kernel
theorem dX8_seatsOf_41 : decode cX8_seatsOf 41 = .ok (.istore_n 2, 1) := by decide +kernel
theorem dX8_seatsOf_42 : decode cX8_seatsOf 42 = .ok (.iinc 3 1, 3) := by decide +kernel
theorem dX8_seatsOf_45 : decode cX8_seatsOf 45 = .ok (.goto (-41), 3) := by decide +kernel
theorem dX8_seatsOf_48 : decode cX8_seatsOf 48 = .ok (.iload_n 2, 1) := by decide +kernel
theorem dX8_seatsOf_49 : decode cX8_seatsOf 49 = .ok (.ireturn, 1) := by decide +kernel
theorem dX8_weightOf_0 : decode cX8_weightOf 0 = .ok (.iconst 0, 1) := by decide +kernel
theorem dX8_weightOf_1 : decode cX8_weightOf 1 = .ok (.istore_n 2, 1) := by decide +kernel
theorem dX8_weightOf_2 : decode cX8_weightOf 2 = .ok (.iconst 0, 1) := by decide +kernel
theorem dX8_weightOf_3 : decode cX8_weightOf 3 = .ok (.istore_n 3, 1) := by decide +kernel
theorem dX8_weightOf_4 : decode cX8_weightOf 4 = .ok (.iload_n 3, 1) := by decide +kernel
theorem dX8_weightOf_5 : decode cX8_weightOf 5 = .ok (.aload_n 0, 1) := by decide +kernel
theorem dX8_weightOf_6 : decode cX8_weightOf 6 = .ok (.getfield 69, 3) := by decide +kernel
theorem dX8_weightOf_9 : decode cX8_weightOf 9 = .ok (.if_icmp .ge 30, 3) := by decide +kernel
theorem dX8_weightOf_12 : decode cX8_weightOf 12 = .ok (.iload_n 2, 1) := by decide +kernel
theorem dX8_weightOf_13 : decode cX8_weightOf 13 = .ok (.iload_n 1, 1) := by decide +kernel
theorem dX8_weightOf_14 : decode cX8_weightOf 14 = .ok (.iload_n 3, 1) := by decide +kernel
theorem dX8_weightOf_15 : decode cX8_weightOf 15 = .ok (.invokestatic 90, 3) := by decide +kernel
theorem dX8_weightOf_18 : decode cX8_weightOf 18 = .ok (.ifCond .eq 12, 3) := by decide +kernel
theorem dX8_weightOf_21 : decode cX8_weightOf 21 = .ok (.aload_n 0, 1) := by decide +kernel
theorem dX8_weightOf_22 : decode cX8_weightOf 22 = .ok (.getfield 13, 3) := by decide +kernel
theorem dX8_weightOf_25 : decode cX8_weightOf 25 = .ok (.iload_n 3, 1) := by decide +kernel
theorem dX8_weightOf_26 : decode cX8_weightOf 26 = .ok (.iaload, 1) := by decide +kernel
theorem dX8_weightOf_27 : decode cX8_weightOf 27 = .ok (.goto 4, 3) := by decide +kernel
theorem dX8_weightOf_30 : decode cX8_weightOf 30 = .ok (.iconst 0, 1) := by decide +kernel
theorem dX8_weightOf_31 : decode cX8_weightOf 31 = .ok (.iadd, 1) := by decide +kernel
theorem dX8_weightOf_32 : decode cX8_weightOf 32 = .ok (.istore_n 2, 1) := by decide +kernel
theorem dX8_weightOf_33 : decode cX8_weightOf 33 = .ok (.iinc 3 1, 3) := by decide +kernel
theorem dX8_weightOf_36 : decode cX8_weightOf 36 = .ok (.goto (-32), 3) := by decide +kernel
theorem dX8_weightOf_39 : decode cX8_weightOf 39 = .ok (.iload_n 2, 1) := by decide +kernel
theorem dX8_weightOf_40 : decode cX8_weightOf 40 = .ok (.ireturn, 1) := by decide +kernel
theorem dX8_fits_0 : decode cX8_fits 0 = .ok (.iconst 0, 1) := by decide +kernel
theorem dX8_fits_1 : decode cX8_fits 1 = .ok (.istore_n 2, 1) := by decide +kernel
theorem dX8_fits_2 : decode cX8_fits 2 = .ok (.iconst 0, 1) := by decide +kernel
theorem dX8_fits_3 : decode cX8_fits 3 = .ok (.istore_n 3, 1) := by decide +kernel
theorem dX8_fits_4 : decode cX8_fits 4 = .ok (.iconst 0, 1) := by decide +kernel
theorem dX8_fits_5 : decode cX8_fits 5 = .ok (.istore 4, 2) := by decide +kernel
theorem dX8_fits_7 : decode cX8_fits 7 = .ok (.iconst 0, 1) := by decide +kernel
theorem dX8_fits_8 : decode cX8_fits 8 = .ok (.istore 5, 2) := by decide +kernel
theorem dX8_fits_10 : decode cX8_fits 10 = .ok (.iload 5, 2) := by decide +kernel
theorem dX8_fits_12 : decode cX8_fits 12 = .ok (.aload_n 0, 1) := by decide +kernel
theorem dX8_fits_13 : decode cX8_fits 13 = .ok (.getfield 69, 3) := by decide +kernel
theorem dX8_fits_16 : decode cX8_fits 16 = .ok (.if_icmp .ge 83, 3) := by decide +kernel
theorem dX8_fits_19 : decode cX8_fits 19 = .ok (.iload_n 1, 1) := by decide +kernel
theorem dX8_fits_20 : decode cX8_fits 20 = .ok (.iload 5, 2) := by decide +kernel
theorem dX8_fits_22 : decode cX8_fits 22 = .ok (.invokestatic 90, 3) := by decide +kernel
theorem dX8_fits_25 : decode cX8_fits 25 = .ok (.ifCond .eq 68, 3) := by decide +kernel
theorem dX8_fits_28 : decode cX8_fits 28 = .ok (.iload_n 2, 1) := by decide +kernel
theorem dX8_fits_29 : decode cX8_fits 29 = .ok (.ifCond .ne 14, 3) := by decide +kernel
theorem dX8_fits_32 : decode cX8_fits 32 = .ok (.aload_n 0, 1) := by decide +kernel
theorem dX8_fits_33 : decode cX8_fits 33 = .ok (.getfield 7, 3) := by decide +kernel
theorem dX8_fits_36 : decode cX8_fits 36 = .ok (.iload 5, 2) := by decide +kernel
theorem dX8_fits_38 : decode cX8_fits 38 = .ok (.iaload, 1) := by decide +kernel
theorem dX8_fits_39 : decode cX8_fits 39 = .ok (.iconst 1, 1) := by decide +kernel
theorem dX8_fits_40 : decode cX8_fits 40 = .ok (.if_icmp .ne 7, 3) := by decide +kernel
theorem dX8_fits_43 : decode cX8_fits 43 = .ok (.iconst 1, 1) := by decide +kernel
theorem dX8_fits_44 : decode cX8_fits 44 = .ok (.goto 4, 3) := by decide +kernel
theorem dX8_fits_47 : decode cX8_fits 47 = .ok (.iconst 0, 1) := by decide +kernel
theorem dX8_fits_48 : decode cX8_fits 48 = .ok (.istore_n 2, 1) := by decide +kernel
theorem dX8_fits_49 : decode cX8_fits 49 = .ok (.iload_n 3, 1) := by decide +kernel
theorem dX8_fits_50 : decode cX8_fits 50 = .ok (.ifCond .ne 14, 3) := by decide +kernel
theorem dX8_fits_53 : decode cX8_fits 53 = .ok (.aload_n 0, 1) := by decide +kernel
theorem dX8_fits_54 : decode cX8_fits 54 = .ok (.getfield 7, 3) := by decide +kernel
theorem dX8_fits_57 : decode cX8_fits 57 = .ok (.iload 5, 2) := by decide +kernel
theorem dX8_fits_59 : decode cX8_fits 59 = .ok (.iaload, 1) := by decide +kernel
theorem dX8_fits_60 : decode cX8_fits 60 = .ok (.iconst 1, 1) := by decide +kernel
theorem dX8_fits_61 : decode cX8_fits 61 = .ok (.if_icmp .eq 7, 3) := by decide +kernel
theorem dX8_fits_64 : decode cX8_fits 64 = .ok (.iconst 1, 1) := by decide +kernel
theorem dX8_fits_65 : decode cX8_fits 65 = .ok (.goto 4, 3) := by decide +kernel
theorem dX8_fits_68 : decode cX8_fits 68 = .ok (.iconst 0, 1) := by decide +kernel
theorem dX8_fits_69 : decode cX8_fits 69 = .ok (.istore_n 3, 1) := by decide +kernel
theorem dX8_fits_70 : decode cX8_fits 70 = .ok (.iload 4, 2) := by decide +kernel
theorem dX8_fits_72 : decode cX8_fits 72 = .ok (.ifCond .ne 14, 3) := by decide +kernel
theorem dX8_fits_75 : decode cX8_fits 75 = .ok (.aload_n 0, 1) := by decide +kernel
theorem dX8_fits_76 : decode cX8_fits 76 = .ok (.getfield 7, 3) := by decide +kernel
theorem dX8_fits_79 : decode cX8_fits 79 = .ok (.iload 5, 2) := by decide +kernel
theorem dX8_fits_81 : decode cX8_fits 81 = .ok (.iaload, 1) := by decide +kernel
theorem dX8_fits_82 : decode cX8_fits 82 = .ok (.iconst 3, 1) := by decide +kernel
theorem dX8_fits_83 : decode cX8_fits 83 = .ok (.if_icmp .ne 7, 3) := by decide +kernel
theorem dX8_fits_86 : decode cX8_fits 86 = .ok (.iconst 1, 1) := by decide +kernel
theorem dX8_fits_87 : decode cX8_fits 87 = .ok (.goto 4, 3) := by decide +kernel
theorem dX8_fits_90 : decode cX8_fits 90 = .ok (.iconst 0, 1) := by decide +kernel
theorem dX8_fits_91 : decode cX8_fits 91 = .ok (.istore 4, 2) := by decide +kernel
theorem dX8_fits_93 : decode cX8_fits 93 = .ok (.iinc 5 1, 3) := by decide +kernel
theorem dX8_fits_96 : decode cX8_fits 96 = .ok (.goto (-86), 3) := by decide +kernel
theorem dX8_fits_99 : decode cX8_fits 99 = .ok (.aload_n 0, 1) := by decide +kernel
theorem dX8_fits_100 : decode cX8_fits 100 = .ok (.iload_n 1, 1) := by decide +kernel
theorem dX8_fits_101 : decode cX8_fits 101 = .ok (.invokevirtual 94, 3) := by decide +kernel
theorem dX8_fits_104 : decode cX8_fits 104 = .ok (.iconst 3, 1) := by decide +kernel
theorem dX8_fits_105 : decode cX8_fits 105 = .ok (.if_icmp .gt 24, 3) := by decide +kernel
theorem dX8_fits_108 : decode cX8_fits 108 = .ok (.iload_n 2, 1) := by decide +kernel
theorem dX8_fits_109 : decode cX8_fits 109 = .ok (.ifCond .eq 7, 3) := by decide +kernel
theorem dX8_fits_112 : decode cX8_fits 112 = .ok (.iload_n 3, 1) := by decide +kernel
theorem dX8_fits_113 : decode cX8_fits 113 = .ok (.ifCond .eq 16, 3) := by decide +kernel
theorem dX8_fits_116 : decode cX8_fits 116 = .ok (.iload_n 2, 1) := by decide +kernel
theorem dX8_fits_117 : decode cX8_fits 117 = .ok (.ifCond .eq 8, 3) := by decide +kernel
theorem dX8_fits_120 : decode cX8_fits 120 = .ok (.iload 4, 2) := by decide +kernel
theorem dX8_fits_122 : decode cX8_fits 122 = .ok (.ifCond .ne 7, 3) := by decide +kernel
theorem dX8_fits_125 : decode cX8_fits 125 = .ok (.iconst 1, 1) := by decide +kernel
theorem dX8_fits_126 : decode cX8_fits 126 = .ok (.goto 4, 3) := by decide +kernel
theorem dX8_fits_129 : decode cX8_fits 129 = .ok (.iconst 0, 1) := by decide +kernel
theorem dX8_fits_130 : decode cX8_fits 130 = .ok (.ireturn, 1) := by decide +kernel
theorem dX8_car_0 : decode cX8_car 0 = .ok (.iload_n 1, 1) := by decide +kernel
theorem dX8_car_1 : decode cX8_car 1 = .ok (.invokestatic 98, 3) := by decide +kernel
theorem dX8_car_4 : decode cX8_car 4 = .ok (.ifCond .eq 15, 3) := by decide +kernel
theorem dX8_car_7 : decode cX8_car 7 = .ok (.iload_n 2, 1) := by decide +kernel
theorem dX8_car_8 : decode cX8_car 8 = .ok (.i2l, 1) := by decide +kernel
theorem dX8_car_9 : decode cX8_car 9 = .ok (.lconst 0, 1) := by decide +kernel
theorem dX8_car_10 : decode cX8_car 10 = .ok (.ldc2_w 78, 3) := by decide +kernel
theorem dX8_car_13 : decode cX8_car 13 = .ok (.invokestatic 72, 3) := by decide +kernel
theorem dX8_car_16 : decode cX8_car 16 = .ok (.ifCond .ne 5, 3) := by decide +kernel
theorem dX8_car_19 : decode cX8_car 19 = .ok (.iconst (-1), 1) := by decide +kernel
theorem dX8_car_20 : decode cX8_car 20 = .ok (.ireturn, 1) := by decide +kernel
theorem dX8_car_21 : decode cX8_car 21 = .ok (.aload_n 0, 1) := by decide +kernel
theorem dX8_car_22 : decode cX8_car 22 = .ok (.iload_n 1, 1) := by decide +kernel
theorem dX8_car_23 : decode cX8_car 23 = .ok (.invokevirtual 101, 3) := by decide +kernel
theorem dX8_car_26 : decode cX8_car 26 = .ok (.istore_n 3, 1) := by decide +kernel
theorem dX8_car_27 : decode cX8_car 27 = .ok (.iload_n 2, 1) := by decide +kernel
theorem dX8_car_28 : decode cX8_car 28 = .ok (.ifCond .ne 18, 3) := by decide +kernel
theorem dX8_car_31 : decode cX8_car 31 = .ok (.aload_n 0, 1) := by decide +kernel
theorem dX8_car_32 : decode cX8_car 32 = .ok (.iload_n 3, 1) := by decide +kernel
theorem dX8_car_33 : decode cX8_car 33 = .ok (.invokevirtual 104, 3) := by decide +kernel
theorem dX8_car_36 : decode cX8_car 36 = .ok (.aload_n 0, 1) := by decide +kernel
theorem dX8_car_37 : decode cX8_car 37 = .ok (.getfield 22, 3) := by decide +kernel
theorem dX8_car_40 : decode cX8_car 40 = .ok (.iload_n 1, 1) := by decide +kernel
theorem dX8_car_41 : decode cX8_car 41 = .ok (.iaload, 1) := by decide +kernel
theorem dX8_car_42 : decode cX8_car 42 = .ok (.iadd, 1) := by decide +kernel
theorem dX8_car_43 : decode cX8_car 43 = .ok (.goto 31, 3) := by decide +kernel
theorem dX8_car_46 : decode cX8_car 46 = .ok (.iload_n 2, 1) := by decide +kernel
theorem dX8_car_47 : decode cX8_car 47 = .ok (.iconst 1, 1) := by decide +kernel
theorem dX8_car_48 : decode cX8_car 48 = .ok (.if_icmp .ne 11, 3) := by decide +kernel
theorem dX8_car_51 : decode cX8_car 51 = .ok (.aload_n 0, 1) := by decide +kernel
theorem dX8_car_52 : decode cX8_car 52 = .ok (.iload_n 3, 1) := by decide +kernel
theorem dX8_car_53 : decode cX8_car 53 = .ok (.invokevirtual 94, 3) := by decide +kernel
theorem dX8_car_56 : decode cX8_car 56 = .ok (.goto 18, 3) := by decide +kernel
theorem dX8_car_59 : decode cX8_car 59 = .ok (.iload_n 2, 1) := by decide +kernel
theorem dX8_car_60 : decode cX8_car 60 = .ok (.iconst 2, 1) := by decide +kernel
theorem dX8_car_61 : decode cX8_car 61 = .ok (.if_icmp .ne 12, 3) := by decide +kernel
theorem dX8_car_64 : decode cX8_car 64 = .ok (.aload_n 0, 1) := by decide +kernel
theorem dX8_car_65 : decode cX8_car 65 = .ok (.getfield 22, 3) := by decide +kernel
theorem dX8_car_68 : decode cX8_car 68 = .ok (.iload_n 1, 1) := by decide +kernel
theorem dX8_car_69 : decode cX8_car 69 = .ok (.iaload, 1) := by decide +kernel
theorem dX8_car_70 : decode cX8_car 70 = .ok (.goto 4, 3) := by decide +kernel
theorem dX8_car_73 : decode cX8_car 73 = .ok (.iload_n 3, 1) := by decide +kernel
theorem dX8_car_74 : decode cX8_car 74 = .ok (.ireturn, 1) := by decide +kernel
theorem dX8_findLoads_0 : decode cX8_findLoads 0 = .ok (.iconst 0, 1) := by decide +kernel
theorem dX8_findLoads_1 : decode cX8_findLoads 1 = .ok (.istore_n 1, 1) := by decide +kernel
theorem dX8_findLoads_2 : decode cX8_findLoads 2 = .ok (.iload_n 1, 1) := by decide +kernel
theorem dX8_findLoads_3 : decode cX8_findLoads 3 = .ok (.bipush 12, 2) := by decide +kernel
theorem dX8_findLoads_5 : decode cX8_findLoads 5 = .ok (.if_icmp .ge 21, 3) := by decide +kernel
theorem dX8_findLoads_8 : decode cX8_findLoads 8 = .ok (.aload_n 0, 1) := by decide +kernel
theorem dX8_findLoads_9 : decode cX8_findLoads 9 = .ok (.getfield 29, 3) := by decide +kernel
theorem dX8_findLoads_12 : decode cX8_findLoads 12 = .ok (.iload_n 1, 1) := by decide +kernel
theorem dX8_findLoads_13 : decode cX8_findLoads 13 = .ok (.aload_n 0, 1) := by decide +kernel
theorem dX8_findLoads_14 : decode cX8_findLoads 14 = .ok (.getfield 22, 3) := by decide +kernel
theorem dX8_findLoads_17 : decode cX8_findLoads 17 = .ok (.iload_n 1, 1) := by decide +kernel
theorem dX8_findLoads_18 : decode cX8_findLoads 18 = .ok (.iaload, 1) := by decide +kernel
theorem dX8_findLoads_19 : decode cX8_findLoads 19 = .ok (.iastore, 1) := by decide +kernel
theorem dX8_findLoads_20 : decode cX8_findLoads 20 = .ok (.iinc 1 1, 3) := by decide +kernel
theorem dX8_findLoads_23 : decode cX8_findLoads 23 = .ok (.goto (-21), 3) := by decide +kernel
theorem dX8_findLoads_26 : decode cX8_findLoads 26 = .ok (.iconst 0, 1) := by decide +kernel
theorem dX8_findLoads_27 : decode cX8_findLoads 27 = .ok (.istore_n 1, 1) := by decide +kernel
theorem dX8_findLoads_28 : decode cX8_findLoads 28 = .ok (.iload_n 1, 1) := by decide +kernel
theorem dX8_findLoads_29 : decode cX8_findLoads 29 = .ok (.aload_n 0, 1) := by decide +kernel
theorem dX8_findLoads_30 : decode cX8_findLoads 30 = .ok (.getfield 69, 3) := by decide +kernel
theorem dX8_findLoads_33 : decode cX8_findLoads 33 = .ok (.if_icmp .ge 40, 3) := by decide +kernel
theorem dX8_findLoads_36 : decode cX8_findLoads 36 = .ok (.aload_n 0, 1) := by decide +kernel
theorem dX8_findLoads_37 : decode cX8_findLoads 37 = .ok (.getfield 16, 3) := by decide +kernel
theorem dX8_findLoads_40 : decode cX8_findLoads 40 = .ok (.iload_n 1, 1) := by decide +kernel
theorem dX8_findLoads_41 : decode cX8_findLoads 41 = .ok (.iaload, 1) := by decide +kernel
theorem dX8_findLoads_42 : decode cX8_findLoads 42 = .ok (.bipush 12, 2) := by decide +kernel
theorem dX8_findLoads_44 : decode cX8_findLoads 44 = .ok (.if_icmp .ge 23, 3) := by decide +kernel
theorem dX8_findLoads_47 : decode cX8_findLoads 47 = .ok (.aload_n 0, 1) := by decide +kernel
theorem dX8_findLoads_48 : decode cX8_findLoads 48 = .ok (.getfield 29, 3) := by decide +kernel
theorem dX8_findLoads_51 : decode cX8_findLoads 51 = .ok (.aload_n 0, 1) := by decide +kernel
theorem dX8_findLoads_52 : decode cX8_findLoads 52 = .ok (.getfield 16, 3) := by decide +kernel
theorem dX8_findLoads_55 : decode cX8_findLoads 55 = .ok (.iload_n 1, 1) := by decide +kernel
theorem dX8_findLoads_56 : decode cX8_findLoads 56 = .ok (.iaload, 1) := by decide +kernel
theorem dX8_findLoads_57 : decode cX8_findLoads 57 = .ok (.dup2, 1) := by decide +kernel
theorem dX8_findLoads_58 : decode cX8_findLoads 58 = .ok (.iaload, 1) := by decide +kernel
theorem dX8_findLoads_59 : decode cX8_findLoads 59 = .ok (.aload_n 0, 1) := by decide +kernel
theorem dX8_findLoads_60 : decode cX8_findLoads 60 = .ok (.getfield 13, 3) := by decide +kernel
theorem dX8_findLoads_63 : decode cX8_findLoads 63 = .ok (.iload_n 1, 1) := by decide +kernel
theorem dX8_findLoads_64 : decode cX8_findLoads 64 = .ok (.iaload, 1) := by decide +kernel
theorem dX8_findLoads_65 : decode cX8_findLoads 65 = .ok (.iadd, 1) := by decide +kernel
theorem dX8_findLoads_66 : decode cX8_findLoads 66 = .ok (.iastore, 1) := by decide +kernel
theorem dX8_findLoads_67 : decode cX8_findLoads 67 = .ok (.iinc 1 1, 3) := by decide +kernel
theorem dX8_findLoads_70 : decode cX8_findLoads 70 = .ok (.goto (-42), 3) := by decide +kernel
theorem dX8_findLoads_73 : decode cX8_findLoads 73 = .ok (.return_, 1) := by decide +kernel
theorem dX8_cosine_0 : decode cX8_cosine 0 = .ok (.iload_n 0, 1) := by decide +kernel
theorem dX8_cosine_1 : decode cX8_cosine 1 = .ok (.bipush 6, 2) := by decide +kernel
theorem dX8_cosine_3 : decode cX8_cosine 3 = .ok (.if_icmp .le 10, 3) := by decide +kernel
theorem dX8_cosine_6 : decode cX8_cosine 6 = .ok (.bipush 12, 2) := by decide +kernel
theorem dX8_cosine_8 : decode cX8_cosine 8 = .ok (.iload_n 0, 1) := by decide +kernel
theorem dX8_cosine_9 : decode cX8_cosine 9 = .ok (.isub, 1) := by decide +kernel
theorem dX8_cosine_10 : decode cX8_cosine 10 = .ok (.goto 4, 3) := by decide +kernel
theorem dX8_cosine_13 : decode cX8_cosine 13 = .ok (.iload_n 0, 1) := by decide +kernel
theorem dX8_cosine_14 : decode cX8_cosine 14 = .ok (.istore_n 2, 1) := by decide +kernel
theorem dX8_cosine_15 : decode cX8_cosine 15 = .ok (.iload_n 1, 1) := by decide +kernel
theorem dX8_cosine_16 : decode cX8_cosine 16 = .ok (.iconst 1, 1) := by decide +kernel
theorem dX8_cosine_17 : decode cX8_cosine 17 = .ok (.if_icmp .ne 23, 3) := by decide +kernel
theorem dX8_cosine_20 : decode cX8_cosine 20 = .ok (.iload_n 2, 1) := by decide +kernel
theorem dX8_cosine_21 : decode cX8_cosine 21 = .ok (.iconst 1, 1) := by decide +kernel
theorem dX8_cosine_22 : decode cX8_cosine 22 = .ok (.if_icmp .ne 7, 3) := by decide +kernel
theorem dX8_cosine_25 : decode cX8_cosine 25 = .ok (.iconst 1, 1) := by decide +kernel
theorem dX8_cosine_26 : decode cX8_cosine 26 = .ok (.goto 13, 3) := by decide +kernel
theorem dX8_cosine_29 : decode cX8_cosine 29 = .ok (.iload_n 2, 1) := by decide +kernel
theorem dX8_cosine_30 : decode cX8_cosine 30 = .ok (.iconst 5, 1) := by decide +kernel
theorem dX8_cosine_31 : decode cX8_cosine 31 = .ok (.if_icmp .ne 7, 3) := by decide +kernel
theorem dX8_cosine_34 : decode cX8_cosine 34 = .ok (.iconst (-1), 1) := by decide +kernel
theorem dX8_cosine_35 : decode cX8_cosine 35 = .ok (.goto 4, 3) := by decide +kernel
theorem dX8_cosine_38 : decode cX8_cosine 38 = .ok (.iconst 0, 1) := by decide +kernel
theorem dX8_cosine_39 : decode cX8_cosine 39 = .ok (.ireturn, 1) := by decide +kernel
theorem dX8_cosine_40 : decode cX8_cosine 40 = .ok (.iload_n 2, 1) := by decide +kernel
theorem dX8_cosine_41 : decode cX8_cosine 41 = .ok (.ifCond .ne 7, 3) := by decide +kernel
theorem dX8_cosine_44 : decode cX8_cosine 44 = .ok (.iconst 2, 1) := by decide +kernel
theorem dX8_cosine_45 : decode cX8_cosine 45 = .ok (.goto 33, 3) := by decide +kernel
theorem dX8_cosine_48 : decode cX8_cosine 48 = .ok (.iload_n 2, 1) := by decide +kernel
theorem dX8_cosine_49 : decode cX8_cosine 49 = .ok (.iconst 2, 1) := by decide +kernel
theorem dX8_cosine_50 : decode cX8_cosine 50 = .ok (.if_icmp .ne 7, 3) := by decide +kernel
theorem dX8_cosine_53 : decode cX8_cosine 53 = .ok (.iconst 1, 1) := by decide +kernel
theorem dX8_cosine_54 : decode cX8_cosine 54 = .ok (.goto 24, 3) := by decide +kernel
theorem dX8_cosine_57 : decode cX8_cosine 57 = .ok (.iload_n 2, 1) := by decide +kernel
theorem dX8_cosine_58 : decode cX8_cosine 58 = .ok (.iconst 4, 1) := by decide +kernel
theorem dX8_cosine_59 : decode cX8_cosine 59 = .ok (.if_icmp .ne 7, 3) := by decide +kernel
theorem dX8_cosine_62 : decode cX8_cosine 62 = .ok (.iconst (-1), 1) := by decide +kernel
theorem dX8_cosine_63 : decode cX8_cosine 63 = .ok (.goto 15, 3) := by decide +kernel
theorem dX8_cosine_66 : decode cX8_cosine 66 = .ok (.iload_n 2, 1) := by decide +kernel
theorem dX8_cosine_67 : decode cX8_cosine 67 = .ok (.bipush 6, 2) := by decide +kernel
theorem dX8_cosine_69 : decode cX8_cosine 69 = .ok (.if_icmp .ne 8, 3) := by decide +kernel
theorem dX8_cosine_72 : decode cX8_cosine 72 = .ok (.bipush (-2), 2) := by decide +kernel
theorem dX8_cosine_74 : decode cX8_cosine 74 = .ok (.goto 4, 3) := by decide +kernel
theorem dX8_cosine_77 : decode cX8_cosine 77 = .ok (.iconst 0, 1) := by decide +kernel
theorem dX8_cosine_78 : decode cX8_cosine 78 = .ok (.ireturn, 1) := by decide +kernel
theorem dX8_findSquare_0 : decode cX8_findSquare 0 = .ok (.aload_n 0, 1) := by decide +kernel
theorem dX8_findSquare_1 : decode cX8_findSquare 1 = .ok (.iconst 0, 1) := by decide +kernel
theorem dX8_findSquare_2 : decode cX8_findSquare 2 = .ok (.putfield 107, 3) := by decide +kernel
theorem dX8_findSquare_5 : decode cX8_findSquare 5 = .ok (.aload_n 0, 1) := by decide +kernel
theorem dX8_findSquare_6 : decode cX8_findSquare 6 = .ok (.iconst 0, 1) := by decide +kernel
theorem dX8_findSquare_7 : decode cX8_findSquare 7 = .ok (.putfield 110, 3) := by decide +kernel
theorem dX8_findSquare_10 : decode cX8_findSquare 10 = .ok (.aload_n 0, 1) := by decide +kernel
theorem dX8_findSquare_11 : decode cX8_findSquare 11 = .ok (.iconst 0, 1) := by decide +kernel
theorem dX8_findSquare_12 : decode cX8_findSquare 12 = .ok (.putfield 113, 3) := by decide +kernel
theorem dX8_findSquare_15 : decode cX8_findSquare 15 = .ok (.aload_n 0, 1) := by decide +kernel
theorem dX8_findSquare_16 : decode cX8_findSquare 16 = .ok (.iconst 0, 1) := by decide +kernel
theorem dX8_findSquare_17 : decode cX8_findSquare 17 = .ok (.putfield 116, 3) := by decide +kernel
theorem dX8_findSquare_20 : decode cX8_findSquare 20 = .ok (.iconst 0, 1) := by decide +kernel
theorem dX8_findSquare_21 : decode cX8_findSquare 21 = .ok (.istore_n 1, 1) := by decide +kernel
theorem dX8_findSquare_22 : decode cX8_findSquare 22 = .ok (.iload_n 1, 1) := by decide +kernel
theorem dX8_findSquare_23 : decode cX8_findSquare 23 = .ok (.bipush 12, 2) := by decide +kernel
theorem dX8_findSquare_25 : decode cX8_findSquare 25 = .ok (.if_icmp .ge 105, 3) := by decide +kernel
theorem dX8_findSquare_28 : decode cX8_findSquare 28 = .ok (.aload_n 0, 1) := by decide +kernel
theorem dX8_findSquare_29 : decode cX8_findSquare 29 = .ok (.dup, 1) := by decide +kernel
theorem dX8_findSquare_30 : decode cX8_findSquare 30 = .ok (.getfield 107, 3) := by decide +kernel
theorem dX8_findSquare_33 : decode cX8_findSquare 33 = .ok (.aload_n 0, 1) := by decide +kernel
theorem dX8_findSquare_34 : decode cX8_findSquare 34 = .ok (.getfield 29, 3) := by decide +kernel
theorem dX8_findSquare_37 : decode cX8_findSquare 37 = .ok (.iload_n 1, 1) := by decide +kernel
theorem dX8_findSquare_38 : decode cX8_findSquare 38 = .ok (.iaload, 1) := by decide +kernel
theorem dX8_findSquare_39 : decode cX8_findSquare 39 = .ok (.iload_n 1, 1) := by decide +kernel
theorem dX8_findSquare_40 : decode cX8_findSquare 40 = .ok (.iconst 0, 1) := by decide +kernel
theorem dX8_findSquare_41 : decode cX8_findSquare 41 = .ok (.invokestatic 119, 3) := by decide +kernel
theorem dX8_findSquare_44 : decode cX8_findSquare 44 = .ok (.imul, 1) := by decide +kernel
theorem dX8_findSquare_45 : decode cX8_findSquare 45 = .ok (.iadd, 1) := by decide +kernel
theorem dX8_findSquare_46 : decode cX8_findSquare 46 = .ok (.putfield 107, 3) := by decide +kernel
theorem dX8_findSquare_49 : decode cX8_findSquare 49 = .ok (.aload_n 0, 1) := by decide +kernel
theorem dX8_findSquare_50 : decode cX8_findSquare 50 = .ok (.dup, 1) := by decide +kernel
theorem dX8_findSquare_51 : decode cX8_findSquare 51 = .ok (.getfield 110, 3) := by decide +kernel
theorem dX8_findSquare_54 : decode cX8_findSquare 54 = .ok (.aload_n 0, 1) := by decide +kernel
theorem dX8_findSquare_55 : decode cX8_findSquare 55 = .ok (.getfield 29, 3) := by decide +kernel
theorem dX8_findSquare_58 : decode cX8_findSquare 58 = .ok (.iload_n 1, 1) := by decide +kernel
theorem dX8_findSquare_59 : decode cX8_findSquare 59 = .ok (.iaload, 1) := by decide +kernel
theorem dX8_findSquare_60 : decode cX8_findSquare 60 = .ok (.iload_n 1, 1) := by decide +kernel
theorem dX8_findSquare_61 : decode cX8_findSquare 61 = .ok (.iconst 1, 1) := by decide +kernel
theorem dX8_findSquare_62 : decode cX8_findSquare 62 = .ok (.invokestatic 119, 3) := by decide +kernel
theorem dX8_findSquare_65 : decode cX8_findSquare 65 = .ok (.imul, 1) := by decide +kernel
theorem dX8_findSquare_66 : decode cX8_findSquare 66 = .ok (.iadd, 1) := by decide +kernel
theorem dX8_findSquare_67 : decode cX8_findSquare 67 = .ok (.putfield 110, 3) := by decide +kernel
theorem dX8_findSquare_70 : decode cX8_findSquare 70 = .ok (.aload_n 0, 1) := by decide +kernel
theorem dX8_findSquare_71 : decode cX8_findSquare 71 = .ok (.dup, 1) := by decide +kernel
theorem dX8_findSquare_72 : decode cX8_findSquare 72 = .ok (.getfield 113, 3) := by decide +kernel
theorem dX8_findSquare_75 : decode cX8_findSquare 75 = .ok (.aload_n 0, 1) := by decide +kernel
theorem dX8_findSquare_76 : decode cX8_findSquare 76 = .ok (.getfield 29, 3) := by decide +kernel
theorem dX8_findSquare_79 : decode cX8_findSquare 79 = .ok (.iload_n 1, 1) := by decide +kernel
theorem dX8_findSquare_80 : decode cX8_findSquare 80 = .ok (.iaload, 1) := by decide +kernel
theorem dX8_findSquare_81 : decode cX8_findSquare 81 = .ok (.iload_n 1, 1) := by decide +kernel
theorem dX8_findSquare_82 : decode cX8_findSquare 82 = .ok (.bipush 9, 2) := by decide +kernel
theorem dX8_findSquare_84 : decode cX8_findSquare 84 = .ok (.iadd, 1) := by decide +kernel
theorem dX8_findSquare_85 : decode cX8_findSquare 85 = .ok (.bipush 12, 2) := by decide +kernel
theorem dX8_findSquare_87 : decode cX8_findSquare 87 = .ok (.irem, 1) := by decide +kernel
theorem dX8_findSquare_88 : decode cX8_findSquare 88 = .ok (.iconst 0, 1) := by decide +kernel
theorem dX8_findSquare_89 : decode cX8_findSquare 89 = .ok (.invokestatic 119, 3) := by decide +kernel
theorem dX8_findSquare_92 : decode cX8_findSquare 92 = .ok (.imul, 1) := by decide +kernel
theorem dX8_findSquare_93 : decode cX8_findSquare 93 = .ok (.iadd, 1) := by decide +kernel
theorem dX8_findSquare_94 : decode cX8_findSquare 94 = .ok (.putfield 113, 3) := by decide +kernel
theorem dX8_findSquare_97 : decode cX8_findSquare 97 = .ok (.aload_n 0, 1) := by decide +kernel
theorem dX8_findSquare_98 : decode cX8_findSquare 98 = .ok (.dup, 1) := by decide +kernel
theorem dX8_findSquare_99 : decode cX8_findSquare 99 = .ok (.getfield 116, 3) := by decide +kernel
theorem dX8_findSquare_102 : decode cX8_findSquare 102 = .ok (.aload_n 0, 1) := by decide +kernel
theorem dX8_findSquare_103 : decode cX8_findSquare 103 = .ok (.getfield 29, 3) := by decide +kernel
theorem dX8_findSquare_106 : decode cX8_findSquare 106 = .ok (.iload_n 1, 1) := by decide +kernel
theorem dX8_findSquare_107 : decode cX8_findSquare 107 = .ok (.iaload, 1) := by decide +kernel
theorem dX8_findSquare_108 : decode cX8_findSquare 108 = .ok (.iload_n 1, 1) := by decide +kernel
theorem dX8_findSquare_109 : decode cX8_findSquare 109 = .ok (.bipush 9, 2) := by decide +kernel
theorem dX8_findSquare_111 : decode cX8_findSquare 111 = .ok (.iadd, 1) := by decide +kernel
theorem dX8_findSquare_112 : decode cX8_findSquare 112 = .ok (.bipush 12, 2) := by decide +kernel
theorem dX8_findSquare_114 : decode cX8_findSquare 114 = .ok (.irem, 1) := by decide +kernel
theorem dX8_findSquare_115 : decode cX8_findSquare 115 = .ok (.iconst 1, 1) := by decide +kernel
theorem dX8_findSquare_116 : decode cX8_findSquare 116 = .ok (.invokestatic 119, 3) := by decide +kernel
theorem dX8_findSquare_119 : decode cX8_findSquare 119 = .ok (.imul, 1) := by decide +kernel
theorem dX8_findSquare_120 : decode cX8_findSquare 120 = .ok (.iadd, 1) := by decide +kernel
theorem dX8_findSquare_121 : decode cX8_findSquare 121 = .ok (.putfield 116, 3) := by decide +kernel
theorem dX8_findSquare_124 : decode cX8_findSquare 124 = .ok (.iinc 1 1, 3) := by decide +kernel
theorem dX8_findSquare_127 : decode cX8_findSquare 127 = .ok (.goto (-105), 3) := by decide +kernel
theorem dX8_findSquare_130 : decode cX8_findSquare 130 = .ok (.aload_n 0, 1) := by decide +kernel
theorem dX8_findSquare_131 : decode cX8_findSquare 131 = .ok (.aload_n 0, 1) := by decide +kernel
theorem dX8_findSquare_132 : decode cX8_findSquare 132 = .ok (.getfield 107, 3) := by decide +kernel
theorem dX8_findSquare_135 : decode cX8_findSquare 135 = .ok (.i2l, 1) := by decide +kernel
theorem dX8_findSquare_136 : decode cX8_findSquare 136 = .ok (.aload_n 0, 1) := by decide +kernel
theorem dX8_findSquare_137 : decode cX8_findSquare 137 = .ok (.getfield 107, 3) := by decide +kernel
theorem dX8_findSquare_140 : decode cX8_findSquare 140 = .ok (.i2l, 1) := by decide +kernel
theorem dX8_findSquare_141 : decode cX8_findSquare 141 = .ok (.lmul, 1) := by decide +kernel
theorem dX8_findSquare_142 : decode cX8_findSquare 142 = .ok (.ldc2_w 78, 3) := by decide +kernel
theorem dX8_findSquare_145 : decode cX8_findSquare 145 = .ok (.aload_n 0, 1) := by decide +kernel
theorem dX8_findSquare_146 : decode cX8_findSquare 146 = .ok (.getfield 110, 3) := by decide +kernel
theorem dX8_findSquare_149 : decode cX8_findSquare 149 = .ok (.i2l, 1) := by decide +kernel
theorem dX8_findSquare_150 : decode cX8_findSquare 150 = .ok (.lmul, 1) := by decide +kernel
theorem dX8_findSquare_151 : decode cX8_findSquare 151 = .ok (.aload_n 0, 1) := by decide +kernel
theorem dX8_findSquare_152 : decode cX8_findSquare 152 = .ok (.getfield 110, 3) := by decide +kernel
theorem dX8_findSquare_155 : decode cX8_findSquare 155 = .ok (.i2l, 1) := by decide +kernel
theorem dX8_findSquare_156 : decode cX8_findSquare 156 = .ok (.lmul, 1) := by decide +kernel
theorem dX8_findSquare_157 : decode cX8_findSquare 157 = .ok (.ladd, 1) := by decide +kernel
theorem dX8_findSquare_158 : decode cX8_findSquare 158 = .ok (.aload_n 0, 1) := by decide +kernel
theorem dX8_findSquare_159 : decode cX8_findSquare 159 = .ok (.getfield 113, 3) := by decide +kernel
theorem dX8_findSquare_162 : decode cX8_findSquare 162 = .ok (.i2l, 1) := by decide +kernel
theorem dX8_findSquare_163 : decode cX8_findSquare 163 = .ok (.aload_n 0, 1) := by decide +kernel
theorem dX8_findSquare_164 : decode cX8_findSquare 164 = .ok (.getfield 113, 3) := by decide +kernel
theorem dX8_findSquare_167 : decode cX8_findSquare 167 = .ok (.i2l, 1) := by decide +kernel
theorem dX8_findSquare_168 : decode cX8_findSquare 168 = .ok (.lmul, 1) := by decide +kernel
theorem dX8_findSquare_169 : decode cX8_findSquare 169 = .ok (.ladd, 1) := by decide +kernel
theorem dX8_findSquare_170 : decode cX8_findSquare 170 = .ok (.ldc2_w 78, 3) := by decide +kernel
theorem dX8_findSquare_173 : decode cX8_findSquare 173 = .ok (.aload_n 0, 1) := by decide +kernel
theorem dX8_findSquare_174 : decode cX8_findSquare 174 = .ok (.getfield 116, 3) := by decide +kernel
theorem dX8_findSquare_177 : decode cX8_findSquare 177 = .ok (.i2l, 1) := by decide +kernel
theorem dX8_findSquare_178 : decode cX8_findSquare 178 = .ok (.lmul, 1) := by decide +kernel
theorem dX8_findSquare_179 : decode cX8_findSquare 179 = .ok (.aload_n 0, 1) := by decide +kernel
theorem dX8_findSquare_180 : decode cX8_findSquare 180 = .ok (.getfield 116, 3) := by decide +kernel
theorem dX8_findSquare_183 : decode cX8_findSquare 183 = .ok (.i2l, 1) := by decide +kernel
theorem dX8_findSquare_184 : decode cX8_findSquare 184 = .ok (.lmul, 1) := by decide +kernel
theorem dX8_findSquare_185 : decode cX8_findSquare 185 = .ok (.ladd, 1) := by decide +kernel
theorem dX8_findSquare_186 : decode cX8_findSquare 186 = .ok (.putfield 123, 3) := by decide +kernel
theorem dX8_findSquare_189 : decode cX8_findSquare 189 = .ok (.aload_n 0, 1) := by decide +kernel
theorem dX8_findSquare_190 : decode cX8_findSquare 190 = .ok (.ldc2_w 127, 3) := by decide +kernel
theorem dX8_findSquare_193 : decode cX8_findSquare 193 = .ok (.aload_n 0, 1) := by decide +kernel
theorem dX8_findSquare_194 : decode cX8_findSquare 194 = .ok (.getfield 107, 3) := by decide +kernel
theorem dX8_findSquare_197 : decode cX8_findSquare 197 = .ok (.i2l, 1) := by decide +kernel
theorem dX8_findSquare_198 : decode cX8_findSquare 198 = .ok (.aload_n 0, 1) := by decide +kernel
theorem dX8_findSquare_199 : decode cX8_findSquare 199 = .ok (.getfield 110, 3) := by decide +kernel
theorem dX8_findSquare_202 : decode cX8_findSquare 202 = .ok (.i2l, 1) := by decide +kernel
theorem dX8_findSquare_203 : decode cX8_findSquare 203 = .ok (.lmul, 1) := by decide +kernel
theorem dX8_findSquare_204 : decode cX8_findSquare 204 = .ok (.aload_n 0, 1) := by decide +kernel
theorem dX8_findSquare_205 : decode cX8_findSquare 205 = .ok (.getfield 113, 3) := by decide +kernel
theorem dX8_findSquare_208 : decode cX8_findSquare 208 = .ok (.i2l, 1) := by decide +kernel
theorem dX8_findSquare_209 : decode cX8_findSquare 209 = .ok (.aload_n 0, 1) := by decide +kernel
theorem dX8_findSquare_210 : decode cX8_findSquare 210 = .ok (.getfield 116, 3) := by decide +kernel
theorem dX8_findSquare_213 : decode cX8_findSquare 213 = .ok (.i2l, 1) := by decide +kernel
theorem dX8_findSquare_214 : decode cX8_findSquare 214 = .ok (.lmul, 1) := by decide +kernel
theorem dX8_findSquare_215 : decode cX8_findSquare 215 = .ok (.ladd, 1) := by decide +kernel
theorem dX8_findSquare_216 : decode cX8_findSquare 216 = .ok (.lmul, 1) := by decide +kernel
theorem dX8_findSquare_217 : decode cX8_findSquare 217 = .ok (.putfield 129, 3) := by decide +kernel
theorem dX8_findSquare_220 : decode cX8_findSquare 220 = .ok (.return_, 1) := by decide +kernel
theorem dX8_isNoMore_0 : decode cX8_isNoMore 0 = .ok (.lload_n 0, 1) := by decide +kernel
theorem dX8_isNoMore_1 : decode cX8_isNoMore 1 = .ok (.lconst 0, 1) := by decide +kernel
theorem dX8_isNoMore_2 : decode cX8_isNoMore 2 = .ok (.lcmp, 1) := by decide +kernel
theorem dX8_isNoMore_3 : decode cX8_isNoMore 3 = .ok (.ifCond .gt 11, 3) := by decide +kernel
theorem dX8_isNoMore_6 : decode cX8_isNoMore 6 = .ok (.lload_n 2, 1) := by decide +kernel
theorem dX8_isNoMore_7 : decode cX8_isNoMore 7 = .ok (.lconst 0, 1) := by decide +kernel
theorem dX8_isNoMore_8 : decode cX8_isNoMore 8 = .ok (.lcmp, 1) := by decide +kernel
theorem dX8_isNoMore_9 : decode cX8_isNoMore 9 = .ok (.ifCond .gt 5, 3) := by decide +kernel
theorem dX8_isNoMore_12 : decode cX8_isNoMore 12 = .ok (.iconst 1, 1) := by decide +kernel
theorem dX8_isNoMore_13 : decode cX8_isNoMore 13 = .ok (.ireturn, 1) := by decide +kernel
theorem dX8_isNoMore_14 : decode cX8_isNoMore 14 = .ok (.lload_n 0, 1) := by decide +kernel
theorem dX8_isNoMore_15 : decode cX8_isNoMore 15 = .ok (.lconst 0, 1) := by decide +kernel
theorem dX8_isNoMore_16 : decode cX8_isNoMore 16 = .ok (.lcmp, 1) := by decide +kernel
theorem dX8_isNoMore_17 : decode cX8_isNoMore 17 = .ok (.ifCond .le 11, 3) := by decide +kernel
theorem dX8_isNoMore_20 : decode cX8_isNoMore 20 = .ok (.lload_n 2, 1) := by decide +kernel
theorem dX8_isNoMore_21 : decode cX8_isNoMore 21 = .ok (.lconst 0, 1) := by decide +kernel
theorem dX8_isNoMore_22 : decode cX8_isNoMore 22 = .ok (.lcmp, 1) := by decide +kernel
theorem dX8_isNoMore_23 : decode cX8_isNoMore 23 = .ok (.ifCond .le 5, 3) := by decide +kernel
theorem dX8_isNoMore_26 : decode cX8_isNoMore 26 = .ok (.iconst 0, 1) := by decide +kernel
theorem dX8_isNoMore_27 : decode cX8_isNoMore 27 = .ok (.ireturn, 1) := by decide +kernel
theorem dX8_isNoMore_28 : decode cX8_isNoMore 28 = .ok (.lload_n 0, 1) := by decide +kernel
theorem dX8_isNoMore_29 : decode cX8_isNoMore 29 = .ok (.lconst 0, 1) := by decide +kernel
theorem dX8_isNoMore_30 : decode cX8_isNoMore 30 = .ok (.lcmp, 1) := by decide +kernel
theorem dX8_isNoMore_31 : decode cX8_isNoMore 31 = .ok (.ifCond .le 25, 3) := by decide +kernel
theorem dX8_isNoMore_34 : decode cX8_isNoMore 34 = .ok (.lload_n 0, 1) := by decide +kernel
theorem dX8_isNoMore_35 : decode cX8_isNoMore 35 = .ok (.lload_n 0, 1) := by decide +kernel
theorem dX8_isNoMore_36 : decode cX8_isNoMore 36 = .ok (.lmul, 1) := by decide +kernel
theorem dX8_isNoMore_37 : decode cX8_isNoMore 37 = .ok (.ldc2_w 78, 3) := by decide +kernel
theorem dX8_isNoMore_40 : decode cX8_isNoMore 40 = .ok (.lload_n 2, 1) := by decide +kernel
theorem dX8_isNoMore_41 : decode cX8_isNoMore 41 = .ok (.lmul, 1) := by decide +kernel
theorem dX8_isNoMore_42 : decode cX8_isNoMore 42 = .ok (.lload_n 2, 1) := by decide +kernel
theorem dX8_isNoMore_43 : decode cX8_isNoMore 43 = .ok (.lmul, 1) := by decide +kernel
theorem dX8_isNoMore_44 : decode cX8_isNoMore 44 = .ok (.lcmp, 1) := by decide +kernel
theorem dX8_isNoMore_45 : decode cX8_isNoMore 45 = .ok (.ifCond .gt 7, 3) := by decide +kernel
theorem dX8_isNoMore_48 : decode cX8_isNoMore 48 = .ok (.iconst 1, 1) := by decide +kernel
theorem dX8_isNoMore_49 : decode cX8_isNoMore 49 = .ok (.goto 26, 3) := by decide +kernel
theorem dX8_isNoMore_52 : decode cX8_isNoMore 52 = .ok (.iconst 0, 1) := by decide +kernel
theorem dX8_isNoMore_53 : decode cX8_isNoMore 53 = .ok (.goto 22, 3) := by decide +kernel
theorem dX8_isNoMore_56 : decode cX8_isNoMore 56 = .ok (.ldc2_w 78, 3) := by decide +kernel
theorem dX8_isNoMore_59 : decode cX8_isNoMore 59 = .ok (.lload_n 2, 1) := by decide +kernel
theorem dX8_isNoMore_60 : decode cX8_isNoMore 60 = .ok (.lmul, 1) := by decide +kernel
theorem dX8_isNoMore_61 : decode cX8_isNoMore 61 = .ok (.lload_n 2, 1) := by decide +kernel
theorem dX8_isNoMore_62 : decode cX8_isNoMore 62 = .ok (.lmul, 1) := by decide +kernel
theorem dX8_isNoMore_63 : decode cX8_isNoMore 63 = .ok (.lload_n 0, 1) := by decide +kernel
theorem dX8_isNoMore_64 : decode cX8_isNoMore 64 = .ok (.lload_n 0, 1) := by decide +kernel
theorem dX8_isNoMore_65 : decode cX8_isNoMore 65 = .ok (.lmul, 1) := by decide +kernel
theorem dX8_isNoMore_66 : decode cX8_isNoMore 66 = .ok (.lcmp, 1) := by decide +kernel
theorem dX8_isNoMore_67 : decode cX8_isNoMore 67 = .ok (.ifCond .gt 7, 3) := by decide +kernel
theorem dX8_isNoMore_70 : decode cX8_isNoMore 70 = .ok (.iconst 1, 1) := by decide +kernel
theorem dX8_isNoMore_71 : decode cX8_isNoMore 71 = .ok (.goto 4, 3) := by decide +kernel
theorem dX8_isNoMore_74 : decode cX8_isNoMore 74 = .ok (.iconst 0, 1) := by decide +kernel
theorem dX8_isNoMore_75 : decode cX8_isNoMore 75 = .ok (.ireturn, 1) := by decide +kernel
theorem dX8_isEvenNow_0 : decode cX8_isEvenNow 0 = .ok (.aload_n 0, 1) := by decide +kernel
theorem dX8_isEvenNow_1 : decode cX8_isEvenNow 1 = .ok (.invokevirtual 132, 3) := by decide +kernel
theorem dX8_isEvenNow_4 : decode cX8_isEvenNow 4 = .ok (.aload_n 0, 1) := by decide +kernel
theorem dX8_isEvenNow_5 : decode cX8_isEvenNow 5 = .ok (.getfield 123, 3) := by decide +kernel
theorem dX8_isEvenNow_8 : decode cX8_isEvenNow 8 = .ok (.ldc2_w 135, 3) := by decide +kernel
theorem dX8_isEvenNow_11 : decode cX8_isEvenNow 11 = .ok (.aload_n 0, 1) := by decide +kernel
theorem dX8_isEvenNow_12 : decode cX8_isEvenNow 12 = .ok (.getfield 25, 3) := by decide +kernel
theorem dX8_isEvenNow_15 : decode cX8_isEvenNow 15 = .ok (.i2l, 1) := by decide +kernel
theorem dX8_isEvenNow_16 : decode cX8_isEvenNow 16 = .ok (.lmul, 1) := by decide +kernel
theorem dX8_isEvenNow_17 : decode cX8_isEvenNow 17 = .ok (.aload_n 0, 1) := by decide +kernel
theorem dX8_isEvenNow_18 : decode cX8_isEvenNow 18 = .ok (.getfield 25, 3) := by decide +kernel
theorem dX8_isEvenNow_21 : decode cX8_isEvenNow 21 = .ok (.i2l, 1) := by decide +kernel
theorem dX8_isEvenNow_22 : decode cX8_isEvenNow 22 = .ok (.lmul, 1) := by decide +kernel
theorem dX8_isEvenNow_23 : decode cX8_isEvenNow 23 = .ok (.lsub, 1) := by decide +kernel
theorem dX8_isEvenNow_24 : decode cX8_isEvenNow 24 = .ok (.aload_n 0, 1) := by decide +kernel
theorem dX8_isEvenNow_25 : decode cX8_isEvenNow 25 = .ok (.getfield 129, 3) := by decide +kernel
theorem dX8_isEvenNow_28 : decode cX8_isEvenNow 28 = .ok (.invokestatic 137, 3) := by decide +kernel
theorem dX8_isEvenNow_31 : decode cX8_isEvenNow 31 = .ok (.ireturn, 1) := by decide +kernel
theorem dX8_isEven_0 : decode cX8_isEven 0 = .ok (.aload_n 0, 1) := by decide +kernel
theorem dX8_isEven_1 : decode cX8_isEven 1 = .ok (.invokevirtual 141, 3) := by decide +kernel
theorem dX8_isEven_4 : decode cX8_isEven 4 = .ok (.aload_n 0, 1) := by decide +kernel
theorem dX8_isEven_5 : decode cX8_isEven 5 = .ok (.invokevirtual 144, 3) := by decide +kernel
theorem dX8_isEven_8 : decode cX8_isEven 8 = .ok (.ireturn, 1) := by decide +kernel
theorem dX8_limit_0 : decode cX8_limit 0 = .ok (.iload_n 1, 1) := by decide +kernel
theorem dX8_limit_1 : decode cX8_limit 1 = .ok (.i2l, 1) := by decide +kernel
theorem dX8_limit_2 : decode cX8_limit 2 = .ok (.lconst 0, 1) := by decide +kernel
theorem dX8_limit_3 : decode cX8_limit 3 = .ok (.ldc2_w 148, 3) := by decide +kernel
theorem dX8_limit_6 : decode cX8_limit 6 = .ok (.invokestatic 72, 3) := by decide +kernel
theorem dX8_limit_9 : decode cX8_limit 9 = .ok (.ifCond .ne 5, 3) := by decide +kernel
theorem dX8_limit_12 : decode cX8_limit 12 = .ok (.iconst (-1), 1) := by decide +kernel
theorem dX8_limit_13 : decode cX8_limit 13 = .ok (.ireturn, 1) := by decide +kernel
theorem dX8_limit_14 : decode cX8_limit 14 = .ok (.aload_n 0, 1) := by decide +kernel
theorem dX8_limit_15 : decode cX8_limit 15 = .ok (.getfield 25, 3) := by decide +kernel
theorem dX8_limit_18 : decode cX8_limit 18 = .ok (.istore_n 2, 1) := by decide +kernel
theorem dX8_limit_19 : decode cX8_limit 19 = .ok (.aload_n 0, 1) := by decide +kernel
theorem dX8_limit_20 : decode cX8_limit 20 = .ok (.iload_n 1, 1) := by decide +kernel
theorem dX8_limit_21 : decode cX8_limit 21 = .ok (.putfield 25, 3) := by decide +kernel
theorem dX8_limit_24 : decode cX8_limit 24 = .ok (.aload_n 0, 1) := by decide +kernel
theorem dX8_limit_25 : decode cX8_limit 25 = .ok (.invokevirtual 150, 3) := by decide +kernel
theorem dX8_limit_28 : decode cX8_limit 28 = .ok (.ifCond .ne 11, 3) := by decide +kernel
theorem dX8_limit_31 : decode cX8_limit 31 = .ok (.aload_n 0, 1) := by decide +kernel
theorem dX8_limit_32 : decode cX8_limit 32 = .ok (.iload_n 2, 1) := by decide +kernel
theorem dX8_limit_33 : decode cX8_limit 33 = .ok (.putfield 25, 3) := by decide +kernel
theorem dX8_limit_36 : decode cX8_limit 36 = .ok (.bipush (-2), 2) := by decide +kernel
theorem dX8_limit_38 : decode cX8_limit 38 = .ok (.ireturn, 1) := by decide +kernel
theorem dX8_limit_39 : decode cX8_limit 39 = .ok (.iload_n 2, 1) := by decide +kernel
theorem dX8_limit_40 : decode cX8_limit 40 = .ok (.ireturn, 1) := by decide +kernel
theorem dX8_out_0 : decode cX8_out 0 = .ok (.iload_n 1, 1) := by decide +kernel
theorem dX8_out_1 : decode cX8_out 1 = .ok (.i2l, 1) := by decide +kernel
theorem dX8_out_2 : decode cX8_out 2 = .ok (.lconst 0, 1) := by decide +kernel
theorem dX8_out_3 : decode cX8_out 3 = .ok (.ldc2_w 153, 3) := by decide +kernel
theorem dX8_out_6 : decode cX8_out 6 = .ok (.invokestatic 72, 3) := by decide +kernel
theorem dX8_out_9 : decode cX8_out 9 = .ok (.ifCond .ne 6, 3) := by decide +kernel
theorem dX8_out_12 : decode cX8_out 12 = .ok (.ldc 155, 2) := by decide +kernel
theorem dX8_out_14 : decode cX8_out 14 = .ok (.ireturn, 1) := by decide +kernel
theorem dX8_out_15 : decode cX8_out 15 = .ok (.aload_n 0, 1) := by decide +kernel
theorem dX8_out_16 : decode cX8_out 16 = .ok (.invokevirtual 141, 3) := by decide +kernel
theorem dX8_out_19 : decode cX8_out 19 = .ok (.aload_n 0, 1) := by decide +kernel
theorem dX8_out_20 : decode cX8_out 20 = .ok (.invokevirtual 132, 3) := by decide +kernel
theorem dX8_out_23 : decode cX8_out 23 = .ok (.iload_n 1, 1) := by decide +kernel
theorem dX8_out_24 : decode cX8_out 24 = .ok (.ifCond .ne 10, 3) := by decide +kernel
theorem dX8_out_27 : decode cX8_out 27 = .ok (.aload_n 0, 1) := by decide +kernel
theorem dX8_out_28 : decode cX8_out 28 = .ok (.getfield 107, 3) := by decide +kernel
theorem dX8_out_31 : decode cX8_out 31 = .ok (.goto 56, 3) := by decide +kernel
theorem dX8_out_34 : decode cX8_out 34 = .ok (.iload_n 1, 1) := by decide +kernel
theorem dX8_out_35 : decode cX8_out 35 = .ok (.iconst 1, 1) := by decide +kernel
theorem dX8_out_36 : decode cX8_out 36 = .ok (.if_icmp .ne 10, 3) := by decide +kernel
theorem dX8_out_39 : decode cX8_out 39 = .ok (.aload_n 0, 1) := by decide +kernel
theorem dX8_out_40 : decode cX8_out 40 = .ok (.getfield 110, 3) := by decide +kernel
theorem dX8_out_43 : decode cX8_out 43 = .ok (.goto 44, 3) := by decide +kernel
theorem dX8_out_46 : decode cX8_out 46 = .ok (.iload_n 1, 1) := by decide +kernel
theorem dX8_out_47 : decode cX8_out 47 = .ok (.iconst 2, 1) := by decide +kernel
theorem dX8_out_48 : decode cX8_out 48 = .ok (.if_icmp .ne 10, 3) := by decide +kernel
theorem dX8_out_51 : decode cX8_out 51 = .ok (.aload_n 0, 1) := by decide +kernel
theorem dX8_out_52 : decode cX8_out 52 = .ok (.getfield 113, 3) := by decide +kernel
theorem dX8_out_55 : decode cX8_out 55 = .ok (.goto 32, 3) := by decide +kernel
theorem dX8_out_58 : decode cX8_out 58 = .ok (.iload_n 1, 1) := by decide +kernel
theorem dX8_out_59 : decode cX8_out 59 = .ok (.iconst 3, 1) := by decide +kernel
theorem dX8_out_60 : decode cX8_out 60 = .ok (.if_icmp .ne 10, 3) := by decide +kernel
theorem dX8_out_63 : decode cX8_out 63 = .ok (.aload_n 0, 1) := by decide +kernel
theorem dX8_out_64 : decode cX8_out 64 = .ok (.getfield 116, 3) := by decide +kernel
theorem dX8_out_67 : decode cX8_out 67 = .ok (.goto 20, 3) := by decide +kernel
theorem dX8_out_70 : decode cX8_out 70 = .ok (.iload_n 1, 1) := by decide +kernel
theorem dX8_out_71 : decode cX8_out 71 = .ok (.iconst 4, 1) := by decide +kernel
theorem dX8_out_72 : decode cX8_out 72 = .ok (.if_icmp .ne 10, 3) := by decide +kernel
theorem dX8_out_75 : decode cX8_out 75 = .ok (.aload_n 0, 1) := by decide +kernel
theorem dX8_out_76 : decode cX8_out 76 = .ok (.getfield 123, 3) := by decide +kernel
theorem dX8_out_79 : decode cX8_out 79 = .ok (.goto 7, 3) := by decide +kernel
theorem dX8_out_82 : decode cX8_out 82 = .ok (.aload_n 0, 1) := by decide +kernel
theorem dX8_out_83 : decode cX8_out 83 = .ok (.getfield 129, 3) := by decide +kernel
theorem dX8_out_86 : decode cX8_out 86 = .ok (.l2i, 1) := by decide +kernel
theorem dX8_out_87 : decode cX8_out 87 = .ok (.ireturn, 1) := by decide +kernel
theorem dX8_count_0 : decode cX8_count 0 = .ok (.iconst 0, 1) := by decide +kernel
theorem dX8_count_1 : decode cX8_count 1 = .ok (.istore_n 2, 1) := by decide +kernel
theorem dX8_count_2 : decode cX8_count 2 = .ok (.iconst 0, 1) := by decide +kernel
theorem dX8_count_3 : decode cX8_count 3 = .ok (.istore_n 3, 1) := by decide +kernel
theorem dX8_count_4 : decode cX8_count 4 = .ok (.iload_n 3, 1) := by decide +kernel
theorem dX8_count_5 : decode cX8_count 5 = .ok (.bipush 12, 2) := by decide +kernel
theorem dX8_count_7 : decode cX8_count 7 = .ok (.if_icmp .ge 18, 3) := by decide +kernel
theorem dX8_count_10 : decode cX8_count 10 = .ok (.iload_n 2, 1) := by decide +kernel
theorem dX8_count_11 : decode cX8_count 11 = .ok (.aload_n 0, 1) := by decide +kernel
theorem dX8_count_12 : decode cX8_count 12 = .ok (.getfield 22, 3) := by decide +kernel
theorem dX8_count_15 : decode cX8_count 15 = .ok (.iload_n 3, 1) := by decide +kernel
theorem dX8_count_16 : decode cX8_count 16 = .ok (.iaload, 1) := by decide +kernel
theorem dX8_count_17 : decode cX8_count 17 = .ok (.iadd, 1) := by decide +kernel
theorem dX8_count_18 : decode cX8_count 18 = .ok (.istore_n 2, 1) := by decide +kernel
theorem dX8_count_19 : decode cX8_count 19 = .ok (.iinc 3 1, 3) := by decide +kernel
theorem dX8_count_22 : decode cX8_count 22 = .ok (.goto (-18), 3) := by decide +kernel
theorem dX8_count_25 : decode cX8_count 25 = .ok (.iconst 0, 1) := by decide +kernel
theorem dX8_count_26 : decode cX8_count 26 = .ok (.istore_n 3, 1) := by decide +kernel
theorem dX8_count_27 : decode cX8_count 27 = .ok (.iconst 0, 1) := by decide +kernel
theorem dX8_count_28 : decode cX8_count 28 = .ok (.istore 4, 2) := by decide +kernel
theorem dX8_count_30 : decode cX8_count 30 = .ok (.iload 4, 2) := by decide +kernel
theorem dX8_count_32 : decode cX8_count 32 = .ok (.aload_n 0, 1) := by decide +kernel
theorem dX8_count_33 : decode cX8_count 33 = .ok (.getfield 69, 3) := by decide +kernel
theorem dX8_count_36 : decode cX8_count 36 = .ok (.if_icmp .ge 32, 3) := by decide +kernel
theorem dX8_count_39 : decode cX8_count 39 = .ok (.iload_n 3, 1) := by decide +kernel
theorem dX8_count_40 : decode cX8_count 40 = .ok (.aload_n 0, 1) := by decide +kernel
theorem dX8_count_41 : decode cX8_count 41 = .ok (.getfield 16, 3) := by decide +kernel
theorem dX8_count_44 : decode cX8_count 44 = .ok (.iload 4, 2) := by decide +kernel
theorem dX8_count_46 : decode cX8_count 46 = .ok (.iaload, 1) := by decide +kernel
theorem dX8_count_47 : decode cX8_count 47 = .ok (.bipush 12, 2) := by decide +kernel
theorem dX8_count_49 : decode cX8_count 49 = .ok (.if_icmp .ge 10, 3) := by decide +kernel
theorem dX8_count_52 : decode cX8_count 52 = .ok (.iconst 1, 1) := by decide +kernel
theorem dX8_count_53 : decode cX8_count 53 = .ok (.iload 4, 2) := by decide +kernel
theorem dX8_count_55 : decode cX8_count 55 = .ok (.ishl, 1) := by decide +kernel
theorem dX8_count_56 : decode cX8_count 56 = .ok (.goto 4, 3) := by decide +kernel
theorem dX8_count_59 : decode cX8_count 59 = .ok (.iconst 0, 1) := by decide +kernel
theorem dX8_count_60 : decode cX8_count 60 = .ok (.ior, 1) := by decide +kernel
theorem dX8_count_61 : decode cX8_count 61 = .ok (.istore_n 3, 1) := by decide +kernel
theorem dX8_count_62 : decode cX8_count 62 = .ok (.iinc 4 1, 3) := by decide +kernel
theorem dX8_count_65 : decode cX8_count 65 = .ok (.goto (-35), 3) := by decide +kernel
theorem dX8_count_68 : decode cX8_count 68 = .ok (.iload_n 1, 1) := by decide +kernel
theorem dX8_count_69 : decode cX8_count 69 = .ok (.tableswitch 76 0 6 #[43, 48, 53, 58, 65, 67, 74], 43) := by decide +kernel
theorem dX8_count_112 : decode cX8_count 112 = .ok (.aload_n 0, 1) := by decide +kernel
theorem dX8_count_113 : decode cX8_count 113 = .ok (.getfield 69, 3) := by decide +kernel
theorem dX8_count_116 : decode cX8_count 116 = .ok (.ireturn, 1) := by decide +kernel
theorem dX8_count_117 : decode cX8_count 117 = .ok (.aload_n 0, 1) := by decide +kernel
theorem dX8_count_118 : decode cX8_count 118 = .ok (.getfield 156, 3) := by decide +kernel
theorem dX8_count_121 : decode cX8_count 121 = .ok (.ireturn, 1) := by decide +kernel
theorem dX8_count_122 : decode cX8_count 122 = .ok (.aload_n 0, 1) := by decide +kernel
theorem dX8_count_123 : decode cX8_count 123 = .ok (.getfield 159, 3) := by decide +kernel
theorem dX8_count_126 : decode cX8_count 126 = .ok (.ireturn, 1) := by decide +kernel
theorem dX8_count_127 : decode cX8_count 127 = .ok (.aload_n 0, 1) := by decide +kernel
theorem dX8_count_128 : decode cX8_count 128 = .ok (.bipush 12, 2) := by decide +kernel
theorem dX8_count_130 : decode cX8_count 130 = .ok (.invokevirtual 101, 3) := by decide +kernel
theorem dX8_count_133 : decode cX8_count 133 = .ok (.ireturn, 1) := by decide +kernel
theorem dX8_count_134 : decode cX8_count 134 = .ok (.iload_n 3, 1) := by decide +kernel
theorem dX8_count_135 : decode cX8_count 135 = .ok (.ireturn, 1) := by decide +kernel
theorem dX8_count_136 : decode cX8_count 136 = .ok (.aload_n 0, 1) := by decide +kernel
theorem dX8_count_137 : decode cX8_count 137 = .ok (.bipush 13, 2) := by decide +kernel
theorem dX8_count_139 : decode cX8_count 139 = .ok (.invokevirtual 101, 3) := by decide +kernel
theorem dX8_count_142 : decode cX8_count 142 = .ok (.ireturn, 1) := by decide +kernel
theorem dX8_count_143 : decode cX8_count 143 = .ok (.iload_n 2, 1) := by decide +kernel
theorem dX8_count_144 : decode cX8_count 144 = .ok (.ireturn, 1) := by decide +kernel
theorem dX8_count_145 : decode cX8_count 145 = .ok (.iconst (-1), 1) := by decide +kernel
theorem dX8_count_146 : decode cX8_count 146 = .ok (.ireturn, 1) := by decide +kernel
theorem dX8_type_0 : decode cX8_type 0 = .ok (.iload_n 3, 1) := by decide +kernel
theorem dX8_type_1 : decode cX8_type 1 = .ok (.i2l, 1) := by decide +kernel
theorem dX8_type_2 : decode cX8_type 2 = .ok (.lconst 1, 1) := by decide +kernel
theorem dX8_type_3 : decode cX8_type 3 = .ok (.ldc2_w 162, 3) := by decide +kernel
theorem dX8_type_6 : decode cX8_type 6 = .ok (.invokestatic 72, 3) := by decide +kernel
theorem dX8_type_9 : decode cX8_type 9 = .ok (.ifCond .ne 5, 3) := by decide +kernel
theorem dX8_type_12 : decode cX8_type 12 = .ok (.iconst (-1), 1) := by decide +kernel
theorem dX8_type_13 : decode cX8_type 13 = .ok (.ireturn, 1) := by decide +kernel
theorem dX8_type_14 : decode cX8_type 14 = .ok (.iload_n 3, 1) := by decide +kernel
theorem dX8_type_15 : decode cX8_type 15 = .ok (.iconst 1, 1) := by decide +kernel
theorem dX8_type_16 : decode cX8_type 16 = .ok (.isub, 1) := by decide +kernel
theorem dX8_type_17 : decode cX8_type 17 = .ok (.istore 4, 2) := by decide +kernel
theorem dX8_type_19 : decode cX8_type 19 = .ok (.iload 4, 2) := by decide +kernel
theorem dX8_type_21 : decode cX8_type 21 = .ok (.ifCond .lt 34, 3) := by decide +kernel
theorem dX8_type_24 : decode cX8_type 24 = .ok (.lload_n 1, 1) := by decide +kernel
theorem dX8_type_25 : decode cX8_type 25 = .ok (.bipush 8, 2) := by decide +kernel
theorem dX8_type_27 : decode cX8_type 27 = .ok (.iload 4, 2) := by decide +kernel
theorem dX8_type_29 : decode cX8_type 29 = .ok (.imul, 1) := by decide +kernel
theorem dX8_type_30 : decode cX8_type 30 = .ok (.lshr, 1) := by decide +kernel
theorem dX8_type_31 : decode cX8_type 31 = .ok (.ldc2_w 164, 3) := by decide +kernel
theorem dX8_type_34 : decode cX8_type 34 = .ok (.land, 1) := by decide +kernel
theorem dX8_type_35 : decode cX8_type 35 = .ok (.ldc2_w 166, 3) := by decide +kernel
theorem dX8_type_38 : decode cX8_type 38 = .ok (.ldc2_w 168, 3) := by decide +kernel
theorem dX8_type_41 : decode cX8_type 41 = .ok (.invokestatic 72, 3) := by decide +kernel
theorem dX8_type_44 : decode cX8_type 44 = .ok (.ifCond .ne 5, 3) := by decide +kernel
theorem dX8_type_47 : decode cX8_type 47 = .ok (.iconst (-1), 1) := by decide +kernel
theorem dX8_type_48 : decode cX8_type 48 = .ok (.ireturn, 1) := by decide +kernel
theorem dX8_type_49 : decode cX8_type 49 = .ok (.iinc 4 (-1), 3) := by decide +kernel
theorem dX8_type_52 : decode cX8_type 52 = .ok (.goto (-33), 3) := by decide +kernel
theorem dX8_type_55 : decode cX8_type 55 = .ok (.aload_n 0, 1) := by decide +kernel
theorem dX8_type_56 : decode cX8_type 56 = .ok (.getfield 170, 3) := by decide +kernel
theorem dX8_type_59 : decode cX8_type 59 = .ok (.iload_n 3, 1) := by decide +kernel
theorem dX8_type_60 : decode cX8_type 60 = .ok (.iadd, 1) := by decide +kernel
theorem dX8_type_61 : decode cX8_type 61 = .ok (.bipush 120, 2) := by decide +kernel
theorem dX8_type_63 : decode cX8_type 63 = .ok (.if_icmp .le 6, 3) := by decide +kernel
theorem dX8_type_66 : decode cX8_type 66 = .ok (.bipush (-3), 2) := by decide +kernel
theorem dX8_type_68 : decode cX8_type 68 = .ok (.ireturn, 1) := by decide +kernel
theorem dX8_type_69 : decode cX8_type 69 = .ok (.iload_n 3, 1) := by decide +kernel
theorem dX8_type_70 : decode cX8_type 70 = .ok (.iconst 1, 1) := by decide +kernel
theorem dX8_type_71 : decode cX8_type 71 = .ok (.isub, 1) := by decide +kernel
theorem dX8_type_72 : decode cX8_type 72 = .ok (.istore 4, 2) := by decide +kernel
theorem dX8_type_74 : decode cX8_type 74 = .ok (.iload 4, 2) := by decide +kernel
theorem dX8_type_76 : decode cX8_type 76 = .ok (.ifCond .lt 40, 3) := by decide +kernel
theorem dX8_type_79 : decode cX8_type 79 = .ok (.aload_n 0, 1) := by decide +kernel
theorem dX8_type_80 : decode cX8_type 80 = .ok (.getfield 32, 3) := by decide +kernel
theorem dX8_type_83 : decode cX8_type 83 = .ok (.aload_n 0, 1) := by decide +kernel
theorem dX8_type_84 : decode cX8_type 84 = .ok (.getfield 170, 3) := by decide +kernel
theorem dX8_type_87 : decode cX8_type 87 = .ok (.lload_n 1, 1) := by decide +kernel
theorem dX8_type_88 : decode cX8_type 88 = .ok (.bipush 8, 2) := by decide +kernel
theorem dX8_type_90 : decode cX8_type 90 = .ok (.iload 4, 2) := by decide +kernel
theorem dX8_type_92 : decode cX8_type 92 = .ok (.imul, 1) := by decide +kernel
theorem dX8_type_93 : decode cX8_type 93 = .ok (.lshr, 1) := by decide +kernel
theorem dX8_type_94 : decode cX8_type 94 = .ok (.ldc2_w 164, 3) := by decide +kernel
theorem dX8_type_97 : decode cX8_type 97 = .ok (.land, 1) := by decide +kernel
theorem dX8_type_98 : decode cX8_type 98 = .ok (.l2i, 1) := by decide +kernel
theorem dX8_type_99 : decode cX8_type 99 = .ok (.iastore, 1) := by decide +kernel
theorem dX8_type_100 : decode cX8_type 100 = .ok (.aload_n 0, 1) := by decide +kernel
theorem dX8_type_101 : decode cX8_type 101 = .ok (.dup, 1) := by decide +kernel
theorem dX8_type_102 : decode cX8_type 102 = .ok (.getfield 170, 3) := by decide +kernel
theorem dX8_type_105 : decode cX8_type 105 = .ok (.iconst 1, 1) := by decide +kernel
theorem dX8_type_106 : decode cX8_type 106 = .ok (.iadd, 1) := by decide +kernel
theorem dX8_type_107 : decode cX8_type 107 = .ok (.putfield 170, 3) := by decide +kernel
theorem dX8_type_110 : decode cX8_type 110 = .ok (.iinc 4 (-1), 3) := by decide +kernel
theorem dX8_type_113 : decode cX8_type 113 = .ok (.goto (-39), 3) := by decide +kernel
theorem dX8_type_116 : decode cX8_type 116 = .ok (.aload_n 0, 1) := by decide +kernel
theorem dX8_type_117 : decode cX8_type 117 = .ok (.getfield 170, 3) := by decide +kernel
theorem dX8_type_120 : decode cX8_type 120 = .ok (.ireturn, 1) := by decide +kernel
theorem dX8_nextByte_0 : decode cX8_nextByte 0 = .ok (.aload_n 0, 1) := by decide +kernel
theorem dX8_nextByte_1 : decode cX8_nextByte 1 = .ok (.getfield 173, 3) := by decide +kernel
theorem dX8_nextByte_4 : decode cX8_nextByte 4 = .ok (.aload_n 0, 1) := by decide +kernel
theorem dX8_nextByte_5 : decode cX8_nextByte 5 = .ok (.getfield 170, 3) := by decide +kernel
theorem dX8_nextByte_8 : decode cX8_nextByte 8 = .ok (.if_icmp .ge 30, 3) := by decide +kernel
theorem dX8_nextByte_11 : decode cX8_nextByte 11 = .ok (.aload_n 0, 1) := by decide +kernel
theorem dX8_nextByte_12 : decode cX8_nextByte 12 = .ok (.getfield 32, 3) := by decide +kernel
theorem dX8_nextByte_15 : decode cX8_nextByte 15 = .ok (.aload_n 0, 1) := by decide +kernel
theorem dX8_nextByte_16 : decode cX8_nextByte 16 = .ok (.getfield 173, 3) := by decide +kernel
theorem dX8_nextByte_19 : decode cX8_nextByte 19 = .ok (.iaload, 1) := by decide +kernel
theorem dX8_nextByte_20 : decode cX8_nextByte 20 = .ok (.bipush 32, 2) := by decide +kernel
theorem dX8_nextByte_22 : decode cX8_nextByte 22 = .ok (.if_icmp .ne 16, 3) := by decide +kernel
theorem dX8_nextByte_25 : decode cX8_nextByte 25 = .ok (.aload_n 0, 1) := by decide +kernel
theorem dX8_nextByte_26 : decode cX8_nextByte 26 = .ok (.dup, 1) := by decide +kernel
theorem dX8_nextByte_27 : decode cX8_nextByte 27 = .ok (.getfield 173, 3) := by decide +kernel
theorem dX8_nextByte_30 : decode cX8_nextByte 30 = .ok (.iconst 1, 1) := by decide +kernel
theorem dX8_nextByte_31 : decode cX8_nextByte 31 = .ok (.iadd, 1) := by decide +kernel
theorem dX8_nextByte_32 : decode cX8_nextByte 32 = .ok (.putfield 173, 3) := by decide +kernel
theorem dX8_nextByte_35 : decode cX8_nextByte 35 = .ok (.goto (-35), 3) := by decide +kernel
theorem dX8_nextByte_38 : decode cX8_nextByte 38 = .ok (.aload_n 0, 1) := by decide +kernel
theorem dX8_nextByte_39 : decode cX8_nextByte 39 = .ok (.getfield 173, 3) := by decide +kernel
theorem dX8_nextByte_42 : decode cX8_nextByte 42 = .ok (.aload_n 0, 1) := by decide +kernel
theorem dX8_nextByte_43 : decode cX8_nextByte 43 = .ok (.getfield 170, 3) := by decide +kernel
theorem dX8_nextByte_46 : decode cX8_nextByte 46 = .ok (.if_icmp .ge 15, 3) := by decide +kernel
theorem dX8_nextByte_49 : decode cX8_nextByte 49 = .ok (.aload_n 0, 1) := by decide +kernel
theorem dX8_nextByte_50 : decode cX8_nextByte 50 = .ok (.getfield 32, 3) := by decide +kernel
theorem dX8_nextByte_53 : decode cX8_nextByte 53 = .ok (.aload_n 0, 1) := by decide +kernel
theorem dX8_nextByte_54 : decode cX8_nextByte 54 = .ok (.getfield 173, 3) := by decide +kernel
theorem dX8_nextByte_57 : decode cX8_nextByte 57 = .ok (.iaload, 1) := by decide +kernel
theorem dX8_nextByte_58 : decode cX8_nextByte 58 = .ok (.goto 4, 3) := by decide +kernel
theorem dX8_nextByte_61 : decode cX8_nextByte 61 = .ok (.iconst (-1), 1) := by decide +kernel
theorem dX8_nextByte_62 : decode cX8_nextByte 62 = .ok (.ireturn, 1) := by decide +kernel
theorem dX8_readNumber_0 : decode cX8_readNumber 0 = .ok (.aload_n 0, 1) := by decide +kernel
theorem dX8_readNumber_1 : decode cX8_readNumber 1 = .ok (.invokevirtual 176, 3) := by decide +kernel
theorem dX8_readNumber_4 : decode cX8_readNumber 4 = .ok (.pop, 1) := by decide +kernel
theorem dX8_readNumber_5 : decode cX8_readNumber 5 = .ok (.aload_n 0, 1) := by decide +kernel
theorem dX8_readNumber_6 : decode cX8_readNumber 6 = .ok (.getfield 173, 3) := by decide +kernel
theorem dX8_readNumber_9 : decode cX8_readNumber 9 = .ok (.istore_n 3, 1) := by decide +kernel
theorem dX8_readNumber_10 : decode cX8_readNumber 10 = .ok (.iconst 0, 1) := by decide +kernel
theorem dX8_readNumber_11 : decode cX8_readNumber 11 = .ok (.istore 4, 2) := by decide +kernel
theorem dX8_readNumber_13 : decode cX8_readNumber 13 = .ok (.aload_n 0, 1) := by decide +kernel
theorem dX8_readNumber_14 : decode cX8_readNumber 14 = .ok (.getfield 173, 3) := by decide +kernel
theorem dX8_readNumber_17 : decode cX8_readNumber 17 = .ok (.aload_n 0, 1) := by decide +kernel
theorem dX8_readNumber_18 : decode cX8_readNumber 18 = .ok (.getfield 170, 3) := by decide +kernel
theorem dX8_readNumber_21 : decode cX8_readNumber 21 = .ok (.if_icmp .ge 71, 3) := by decide +kernel
theorem dX8_readNumber_24 : decode cX8_readNumber 24 = .ok (.aload_n 0, 1) := by decide +kernel
theorem dX8_readNumber_25 : decode cX8_readNumber 25 = .ok (.getfield 32, 3) := by decide +kernel
theorem dX8_readNumber_28 : decode cX8_readNumber 28 = .ok (.aload_n 0, 1) := by decide +kernel
theorem dX8_readNumber_29 : decode cX8_readNumber 29 = .ok (.getfield 173, 3) := by decide +kernel
theorem dX8_readNumber_32 : decode cX8_readNumber 32 = .ok (.iaload, 1) := by decide +kernel
theorem dX8_readNumber_33 : decode cX8_readNumber 33 = .ok (.i2l, 1) := by decide +kernel
theorem dX8_readNumber_34 : decode cX8_readNumber 34 = .ok (.ldc2_w 180, 3) := by decide +kernel
theorem dX8_readNumber_37 : decode cX8_readNumber 37 = .ok (.ldc2_w 182, 3) := by decide +kernel
theorem dX8_readNumber_40 : decode cX8_readNumber 40 = .ok (.invokestatic 72, 3) := by decide +kernel
theorem dX8_readNumber_43 : decode cX8_readNumber 43 = .ok (.ifCond .eq 49, 3) := by decide +kernel
theorem dX8_readNumber_46 : decode cX8_readNumber 46 = .ok (.iload 4, 2) := by decide +kernel
theorem dX8_readNumber_48 : decode cX8_readNumber 48 = .ok (.sipush 999, 3) := by decide +kernel
theorem dX8_readNumber_51 : decode cX8_readNumber 51 = .ok (.if_icmp .le 8, 3) := by decide +kernel
theorem dX8_readNumber_54 : decode cX8_readNumber 54 = .ok (.iload 4, 2) := by decide +kernel
theorem dX8_readNumber_56 : decode cX8_readNumber 56 = .ok (.goto 21, 3) := by decide +kernel
theorem dX8_readNumber_59 : decode cX8_readNumber 59 = .ok (.bipush 10, 2) := by decide +kernel
theorem dX8_readNumber_61 : decode cX8_readNumber 61 = .ok (.iload 4, 2) := by decide +kernel
theorem dX8_readNumber_63 : decode cX8_readNumber 63 = .ok (.imul, 1) := by decide +kernel
theorem dX8_readNumber_64 : decode cX8_readNumber 64 = .ok (.aload_n 0, 1) := by decide +kernel
theorem dX8_readNumber_65 : decode cX8_readNumber 65 = .ok (.getfield 32, 3) := by decide +kernel
theorem dX8_readNumber_68 : decode cX8_readNumber 68 = .ok (.aload_n 0, 1) := by decide +kernel
theorem dX8_readNumber_69 : decode cX8_readNumber 69 = .ok (.getfield 173, 3) := by decide +kernel
theorem dX8_readNumber_72 : decode cX8_readNumber 72 = .ok (.iaload, 1) := by decide +kernel
theorem dX8_readNumber_73 : decode cX8_readNumber 73 = .ok (.iadd, 1) := by decide +kernel
theorem dX8_readNumber_74 : decode cX8_readNumber 74 = .ok (.bipush 48, 2) := by decide +kernel
theorem dX8_readNumber_76 : decode cX8_readNumber 76 = .ok (.isub, 1) := by decide +kernel
theorem dX8_readNumber_77 : decode cX8_readNumber 77 = .ok (.istore 4, 2) := by decide +kernel
theorem dX8_readNumber_79 : decode cX8_readNumber 79 = .ok (.aload_n 0, 1) := by decide +kernel
theorem dX8_readNumber_80 : decode cX8_readNumber 80 = .ok (.dup, 1) := by decide +kernel
theorem dX8_readNumber_81 : decode cX8_readNumber 81 = .ok (.getfield 173, 3) := by decide +kernel
theorem dX8_readNumber_84 : decode cX8_readNumber 84 = .ok (.iconst 1, 1) := by decide +kernel
theorem dX8_readNumber_85 : decode cX8_readNumber 85 = .ok (.iadd, 1) := by decide +kernel
theorem dX8_readNumber_86 : decode cX8_readNumber 86 = .ok (.putfield 173, 3) := by decide +kernel
theorem dX8_readNumber_89 : decode cX8_readNumber 89 = .ok (.goto (-76), 3) := by decide +kernel
theorem dX8_readNumber_92 : decode cX8_readNumber 92 = .ok (.aload_n 0, 1) := by decide +kernel
theorem dX8_readNumber_93 : decode cX8_readNumber 93 = .ok (.getfield 173, 3) := by decide +kernel
theorem dX8_readNumber_96 : decode cX8_readNumber 96 = .ok (.iload_n 3, 1) := by decide +kernel
theorem dX8_readNumber_97 : decode cX8_readNumber 97 = .ok (.if_icmp .ne 5, 3) := by decide +kernel
theorem dX8_readNumber_100 : decode cX8_readNumber 100 = .ok (.iconst (-1), 1) := by decide +kernel
theorem dX8_readNumber_101 : decode cX8_readNumber 101 = .ok (.ireturn, 1) := by decide +kernel
theorem dX8_readNumber_102 : decode cX8_readNumber 102 = .ok (.iload 4, 2) := by decide +kernel
theorem dX8_readNumber_104 : decode cX8_readNumber 104 = .ok (.i2l, 1) := by decide +kernel
theorem dX8_readNumber_105 : decode cX8_readNumber 105 = .ok (.iload_n 1, 1) := by decide +kernel
theorem dX8_readNumber_106 : decode cX8_readNumber 106 = .ok (.i2l, 1) := by decide +kernel
theorem dX8_readNumber_107 : decode cX8_readNumber 107 = .ok (.iload_n 2, 1) := by decide +kernel
theorem dX8_readNumber_108 : decode cX8_readNumber 108 = .ok (.i2l, 1) := by decide +kernel
theorem dX8_readNumber_109 : decode cX8_readNumber 109 = .ok (.invokestatic 72, 3) := by decide +kernel
theorem dX8_readNumber_112 : decode cX8_readNumber 112 = .ok (.ifCond .ne 10, 3) := by decide +kernel
theorem dX8_readNumber_115 : decode cX8_readNumber 115 = .ok (.aload_n 0, 1) := by decide +kernel
theorem dX8_readNumber_116 : decode cX8_readNumber 116 = .ok (.iload_n 3, 1) := by decide +kernel
theorem dX8_readNumber_117 : decode cX8_readNumber 117 = .ok (.putfield 173, 3) := by decide +kernel
theorem dX8_readNumber_120 : decode cX8_readNumber 120 = .ok (.iconst (-1), 1) := by decide +kernel
theorem dX8_readNumber_121 : decode cX8_readNumber 121 = .ok (.ireturn, 1) := by decide +kernel
theorem dX8_readNumber_122 : decode cX8_readNumber 122 = .ok (.iload 4, 2) := by decide +kernel
theorem dX8_readNumber_124 : decode cX8_readNumber 124 = .ok (.ireturn, 1) := by decide +kernel
theorem dX8_readOne_0 : decode cX8_readOne 0 = .ok (.aload_n 0, 1) := by decide +kernel
theorem dX8_readOne_1 : decode cX8_readOne 1 = .ok (.invokevirtual 176, 3) := by decide +kernel
theorem dX8_readOne_4 : decode cX8_readOne 4 = .ok (.istore_n 2, 1) := by decide +kernel
theorem dX8_readOne_5 : decode cX8_readOne 5 = .ok (.aload_n 0, 1) := by decide +kernel
theorem dX8_readOne_6 : decode cX8_readOne 6 = .ok (.getfield 35, 3) := by decide +kernel
theorem dX8_readOne_9 : decode cX8_readOne 9 = .ok (.iload_n 1, 1) := by decide +kernel
theorem dX8_readOne_10 : decode cX8_readOne 10 = .ok (.iload_n 2, 1) := by decide +kernel
theorem dX8_readOne_11 : decode cX8_readOne 11 = .ok (.bipush 103, 2) := by decide +kernel
theorem dX8_readOne_13 : decode cX8_readOne 13 = .ok (.if_icmp .ne 7, 3) := by decide +kernel
theorem dX8_readOne_16 : decode cX8_readOne 16 = .ok (.iconst 0, 1) := by decide +kernel
theorem dX8_readOne_17 : decode cX8_readOne 17 = .ok (.goto 34, 3) := by decide +kernel
theorem dX8_readOne_20 : decode cX8_readOne 20 = .ok (.iload_n 2, 1) := by decide +kernel
theorem dX8_readOne_21 : decode cX8_readOne 21 = .ok (.bipush 99, 2) := by decide +kernel
theorem dX8_readOne_23 : decode cX8_readOne 23 = .ok (.if_icmp .ne 7, 3) := by decide +kernel
theorem dX8_readOne_26 : decode cX8_readOne 26 = .ok (.iconst 1, 1) := by decide +kernel
theorem dX8_readOne_27 : decode cX8_readOne 27 = .ok (.goto 24, 3) := by decide +kernel
theorem dX8_readOne_30 : decode cX8_readOne 30 = .ok (.iload_n 2, 1) := by decide +kernel
theorem dX8_readOne_31 : decode cX8_readOne 31 = .ok (.bipush 115, 2) := by decide +kernel
theorem dX8_readOne_33 : decode cX8_readOne 33 = .ok (.if_icmp .ne 7, 3) := by decide +kernel
theorem dX8_readOne_36 : decode cX8_readOne 36 = .ok (.iconst 2, 1) := by decide +kernel
theorem dX8_readOne_37 : decode cX8_readOne 37 = .ok (.goto 14, 3) := by decide +kernel
theorem dX8_readOne_40 : decode cX8_readOne 40 = .ok (.iload_n 2, 1) := by decide +kernel
theorem dX8_readOne_41 : decode cX8_readOne 41 = .ok (.bipush 98, 2) := by decide +kernel
theorem dX8_readOne_43 : decode cX8_readOne 43 = .ok (.if_icmp .ne 7, 3) := by decide +kernel
theorem dX8_readOne_46 : decode cX8_readOne 46 = .ok (.iconst 3, 1) := by decide +kernel
theorem dX8_readOne_47 : decode cX8_readOne 47 = .ok (.goto 4, 3) := by decide +kernel
theorem dX8_readOne_50 : decode cX8_readOne 50 = .ok (.iconst (-1), 1) := by decide +kernel
theorem dX8_readOne_51 : decode cX8_readOne 51 = .ok (.iastore, 1) := by decide +kernel
theorem dX8_readOne_52 : decode cX8_readOne 52 = .ok (.aload_n 0, 1) := by decide +kernel
theorem dX8_readOne_53 : decode cX8_readOne 53 = .ok (.getfield 35, 3) := by decide +kernel
theorem dX8_readOne_56 : decode cX8_readOne 56 = .ok (.iload_n 1, 1) := by decide +kernel
theorem dX8_readOne_57 : decode cX8_readOne 57 = .ok (.iaload, 1) := by decide +kernel
theorem dX8_readOne_58 : decode cX8_readOne 58 = .ok (.ifCond .ge 5, 3) := by decide +kernel
theorem dX8_readOne_61 : decode cX8_readOne 61 = .ok (.iconst 0, 1) := by decide +kernel
theorem dX8_readOne_62 : decode cX8_readOne 62 = .ok (.ireturn, 1) := by decide +kernel
theorem dX8_readOne_63 : decode cX8_readOne 63 = .ok (.aload_n 0, 1) := by decide +kernel
theorem dX8_readOne_64 : decode cX8_readOne 64 = .ok (.dup, 1) := by decide +kernel
theorem dX8_readOne_65 : decode cX8_readOne 65 = .ok (.getfield 173, 3) := by decide +kernel
theorem dX8_readOne_68 : decode cX8_readOne 68 = .ok (.iconst 1, 1) := by decide +kernel
theorem dX8_readOne_69 : decode cX8_readOne 69 = .ok (.iadd, 1) := by decide +kernel
theorem dX8_readOne_70 : decode cX8_readOne 70 = .ok (.putfield 173, 3) := by decide +kernel
theorem dX8_readOne_73 : decode cX8_readOne 73 = .ok (.aload_n 0, 1) := by decide +kernel
theorem dX8_readOne_74 : decode cX8_readOne 74 = .ok (.getfield 35, 3) := by decide +kernel
theorem dX8_readOne_77 : decode cX8_readOne 77 = .ok (.iload_n 1, 1) := by decide +kernel
theorem dX8_readOne_78 : decode cX8_readOne 78 = .ok (.iconst 1, 1) := by decide +kernel
theorem dX8_readOne_79 : decode cX8_readOne 79 = .ok (.iadd, 1) := by decide +kernel
theorem dX8_readOne_80 : decode cX8_readOne 80 = .ok (.aload_n 0, 1) := by decide +kernel
theorem dX8_readOne_81 : decode cX8_readOne 81 = .ok (.iconst 1, 1) := by decide +kernel
theorem dX8_readOne_82 : decode cX8_readOne 82 = .ok (.bipush 99, 2) := by decide +kernel
theorem dX8_readOne_84 : decode cX8_readOne 84 = .ok (.invokevirtual 184, 3) := by decide +kernel
theorem dX8_readOne_87 : decode cX8_readOne 87 = .ok (.iastore, 1) := by decide +kernel
theorem dX8_readOne_88 : decode cX8_readOne 88 = .ok (.aload_n 0, 1) := by decide +kernel
theorem dX8_readOne_89 : decode cX8_readOne 89 = .ok (.getfield 35, 3) := by decide +kernel
theorem dX8_readOne_92 : decode cX8_readOne 92 = .ok (.iload_n 1, 1) := by decide +kernel
theorem dX8_readOne_93 : decode cX8_readOne 93 = .ok (.iconst 1, 1) := by decide +kernel
theorem dX8_readOne_94 : decode cX8_readOne 94 = .ok (.iadd, 1) := by decide +kernel
theorem dX8_readOne_95 : decode cX8_readOne 95 = .ok (.iaload, 1) := by decide +kernel
theorem dX8_readOne_96 : decode cX8_readOne 96 = .ok (.ifCond .le 7, 3) := by decide +kernel
theorem dX8_readOne_99 : decode cX8_readOne 99 = .ok (.iconst 1, 1) := by decide +kernel
theorem dX8_readOne_100 : decode cX8_readOne 100 = .ok (.goto 4, 3) := by decide +kernel
theorem dX8_readOne_103 : decode cX8_readOne 103 = .ok (.iconst 0, 1) := by decide +kernel
theorem dX8_readOne_104 : decode cX8_readOne 104 = .ok (.ireturn, 1) := by decide +kernel
theorem dX8_readPeople_0 : decode cX8_readPeople 0 = .ok (.aload_n 0, 1) := by decide +kernel
theorem dX8_readPeople_1 : decode cX8_readPeople 1 = .ok (.iconst 0, 1) := by decide +kernel
theorem dX8_readPeople_2 : decode cX8_readPeople 2 = .ok (.putfield 173, 3) := by decide +kernel
theorem dX8_readPeople_5 : decode cX8_readPeople 5 = .ok (.iconst 0, 1) := by decide +kernel
theorem dX8_readPeople_6 : decode cX8_readPeople 6 = .ok (.istore_n 1, 1) := by decide +kernel
theorem dX8_readPeople_7 : decode cX8_readPeople 7 = .ok (.iload_n 1, 1) := by decide +kernel
theorem dX8_readPeople_8 : decode cX8_readPeople 8 = .ok (.bipush 10, 2) := by decide +kernel
theorem dX8_readPeople_10 : decode cX8_readPeople 10 = .ok (.if_icmp .ge 63, 3) := by decide +kernel
theorem dX8_readPeople_13 : decode cX8_readPeople 13 = .ok (.aload_n 0, 1) := by decide +kernel
theorem dX8_readPeople_14 : decode cX8_readPeople 14 = .ok (.iconst 2, 1) := by decide +kernel
theorem dX8_readPeople_15 : decode cX8_readPeople 15 = .ok (.iload_n 1, 1) := by decide +kernel
theorem dX8_readPeople_16 : decode cX8_readPeople 16 = .ok (.imul, 1) := by decide +kernel
theorem dX8_readPeople_17 : decode cX8_readPeople 17 = .ok (.invokevirtual 187, 3) := by decide +kernel
theorem dX8_readPeople_20 : decode cX8_readPeople 20 = .ok (.ifCond .ne 5, 3) := by decide +kernel
theorem dX8_readPeople_23 : decode cX8_readPeople 23 = .ok (.iconst 0, 1) := by decide +kernel
theorem dX8_readPeople_24 : decode cX8_readPeople 24 = .ok (.ireturn, 1) := by decide +kernel
theorem dX8_readPeople_25 : decode cX8_readPeople 25 = .ok (.aload_n 0, 1) := by decide +kernel
theorem dX8_readPeople_26 : decode cX8_readPeople 26 = .ok (.iload_n 1, 1) := by decide +kernel
theorem dX8_readPeople_27 : decode cX8_readPeople 27 = .ok (.iconst 1, 1) := by decide +kernel
theorem dX8_readPeople_28 : decode cX8_readPeople 28 = .ok (.iadd, 1) := by decide +kernel
theorem dX8_readPeople_29 : decode cX8_readPeople 29 = .ok (.putfield 190, 3) := by decide +kernel
theorem dX8_readPeople_32 : decode cX8_readPeople 32 = .ok (.aload_n 0, 1) := by decide +kernel
theorem dX8_readPeople_33 : decode cX8_readPeople 33 = .ok (.invokevirtual 176, 3) := by decide +kernel
theorem dX8_readPeople_36 : decode cX8_readPeople 36 = .ok (.istore_n 2, 1) := by decide +kernel
theorem dX8_readPeople_37 : decode cX8_readPeople 37 = .ok (.iload_n 2, 1) := by decide +kernel
theorem dX8_readPeople_38 : decode cX8_readPeople 38 = .ok (.ifCond .ge 5, 3) := by decide +kernel
theorem dX8_readPeople_41 : decode cX8_readPeople 41 = .ok (.iconst 1, 1) := by decide +kernel
theorem dX8_readPeople_42 : decode cX8_readPeople 42 = .ok (.ireturn, 1) := by decide +kernel
theorem dX8_readPeople_43 : decode cX8_readPeople 43 = .ok (.iload_n 2, 1) := by decide +kernel
theorem dX8_readPeople_44 : decode cX8_readPeople 44 = .ok (.bipush 44, 2) := by decide +kernel
theorem dX8_readPeople_46 : decode cX8_readPeople 46 = .ok (.if_icmp .ne 9, 3) := by decide +kernel
theorem dX8_readPeople_49 : decode cX8_readPeople 49 = .ok (.iload_n 1, 1) := by decide +kernel
theorem dX8_readPeople_50 : decode cX8_readPeople 50 = .ok (.bipush 9, 2) := by decide +kernel
theorem dX8_readPeople_52 : decode cX8_readPeople 52 = .ok (.if_icmp .ne 5, 3) := by decide +kernel
theorem dX8_readPeople_55 : decode cX8_readPeople 55 = .ok (.iconst 0, 1) := by decide +kernel
theorem dX8_readPeople_56 : decode cX8_readPeople 56 = .ok (.ireturn, 1) := by decide +kernel
theorem dX8_readPeople_57 : decode cX8_readPeople 57 = .ok (.aload_n 0, 1) := by decide +kernel
theorem dX8_readPeople_58 : decode cX8_readPeople 58 = .ok (.dup, 1) := by decide +kernel
theorem dX8_readPeople_59 : decode cX8_readPeople 59 = .ok (.getfield 173, 3) := by decide +kernel
theorem dX8_readPeople_62 : decode cX8_readPeople 62 = .ok (.iconst 1, 1) := by decide +kernel
theorem dX8_readPeople_63 : decode cX8_readPeople 63 = .ok (.iadd, 1) := by decide +kernel
theorem dX8_readPeople_64 : decode cX8_readPeople 64 = .ok (.putfield 173, 3) := by decide +kernel
theorem dX8_readPeople_67 : decode cX8_readPeople 67 = .ok (.iinc 1 1, 3) := by decide +kernel
theorem dX8_readPeople_70 : decode cX8_readPeople 70 = .ok (.goto (-63), 3) := by decide +kernel
theorem dX8_readPeople_73 : decode cX8_readPeople 73 = .ok (.iconst 0, 1) := by decide +kernel
theorem dX8_readPeople_74 : decode cX8_readPeople 74 = .ok (.ireturn, 1) := by decide +kernel
theorem dX8_people_0 : decode cX8_people 0 = .ok (.aload_n 0, 1) := by decide +kernel
theorem dX8_people_1 : decode cX8_people 1 = .ok (.invokevirtual 193, 3) := by decide +kernel
theorem dX8_people_4 : decode cX8_people 4 = .ok (.istore_n 1, 1) := by decide +kernel
theorem dX8_people_5 : decode cX8_people 5 = .ok (.iload_n 1, 1) := by decide +kernel
theorem dX8_people_6 : decode cX8_people 6 = .ok (.ifCond .ne 8, 3) := by decide +kernel
theorem dX8_people_9 : decode cX8_people 9 = .ok (.aload_n 0, 1) := by decide +kernel
theorem dX8_people_10 : decode cX8_people 10 = .ok (.invokevirtual 176, 3) := by decide +kernel
theorem dX8_people_13 : decode cX8_people 13 = .ok (.pop, 1) := by decide +kernel
theorem dX8_people_14 : decode cX8_people 14 = .ok (.aload_n 0, 1) := by decide +kernel
theorem dX8_people_15 : decode cX8_people 15 = .ok (.iconst 0, 1) := by decide +kernel
theorem dX8_people_16 : decode cX8_people 16 = .ok (.putfield 170, 3) := by decide +kernel
theorem dX8_people_19 : decode cX8_people 19 = .ok (.iload_n 1, 1) := by decide +kernel
theorem dX8_people_20 : decode cX8_people 20 = .ok (.ifCond .ne 11, 3) := by decide +kernel
theorem dX8_people_23 : decode cX8_people 23 = .ok (.bipush (-20), 2) := by decide +kernel
theorem dX8_people_25 : decode cX8_people 25 = .ok (.aload_n 0, 1) := by decide +kernel
theorem dX8_people_26 : decode cX8_people 26 = .ok (.getfield 173, 3) := by decide +kernel
theorem dX8_people_29 : decode cX8_people 29 = .ok (.isub, 1) := by decide +kernel
theorem dX8_people_30 : decode cX8_people 30 = .ok (.ireturn, 1) := by decide +kernel
theorem dX8_people_31 : decode cX8_people 31 = .ok (.iconst 0, 1) := by decide +kernel
theorem dX8_people_32 : decode cX8_people 32 = .ok (.istore_n 2, 1) := by decide +kernel
theorem dX8_people_33 : decode cX8_people 33 = .ok (.iload_n 2, 1) := by decide +kernel
theorem dX8_people_34 : decode cX8_people 34 = .ok (.bipush 12, 2) := by decide +kernel
theorem dX8_people_36 : decode cX8_people 36 = .ok (.if_icmp .ge 21, 3) := by decide +kernel
theorem dX8_people_39 : decode cX8_people 39 = .ok (.aload_n 0, 1) := by decide +kernel
theorem dX8_people_40 : decode cX8_people 40 = .ok (.getfield 29, 3) := by decide +kernel
theorem dX8_people_43 : decode cX8_people 43 = .ok (.iload_n 2, 1) := by decide +kernel
theorem dX8_people_44 : decode cX8_people 44 = .ok (.aload_n 0, 1) := by decide +kernel
theorem dX8_people_45 : decode cX8_people 45 = .ok (.getfield 22, 3) := by decide +kernel
theorem dX8_people_48 : decode cX8_people 48 = .ok (.iload_n 2, 1) := by decide +kernel
theorem dX8_people_49 : decode cX8_people 49 = .ok (.iaload, 1) := by decide +kernel
theorem dX8_people_50 : decode cX8_people 50 = .ok (.iastore, 1) := by decide +kernel
theorem dX8_people_51 : decode cX8_people 51 = .ok (.iinc 2 1, 3) := by decide +kernel
theorem dX8_people_54 : decode cX8_people 54 = .ok (.goto (-21), 3) := by decide +kernel
theorem dX8_people_57 : decode cX8_people 57 = .ok (.aload_n 0, 1) := by decide +kernel
theorem dX8_people_58 : decode cX8_people 58 = .ok (.invokevirtual 144, 3) := by decide +kernel
theorem dX8_people_61 : decode cX8_people 61 = .ok (.ifCond .ne 6, 3) := by decide +kernel
theorem dX8_people_64 : decode cX8_people 64 = .ok (.bipush (-2), 2) := by decide +kernel
theorem dX8_people_66 : decode cX8_people 66 = .ok (.ireturn, 1) := by decide +kernel
theorem dX8_people_67 : decode cX8_people 67 = .ok (.aload_n 0, 1) := by decide +kernel
theorem dX8_people_68 : decode cX8_people 68 = .ok (.iconst 0, 1) := by decide +kernel
theorem dX8_people_69 : decode cX8_people 69 = .ok (.putfield 69, 3) := by decide +kernel
theorem dX8_people_72 : decode cX8_people 72 = .ok (.iconst 0, 1) := by decide +kernel
theorem dX8_people_73 : decode cX8_people 73 = .ok (.istore_n 2, 1) := by decide +kernel
theorem dX8_people_74 : decode cX8_people 74 = .ok (.iload_n 2, 1) := by decide +kernel
theorem dX8_people_75 : decode cX8_people 75 = .ok (.aload_n 0, 1) := by decide +kernel
theorem dX8_people_76 : decode cX8_people 76 = .ok (.getfield 190, 3) := by decide +kernel
theorem dX8_people_79 : decode cX8_people 79 = .ok (.if_icmp .ge 31, 3) := by decide +kernel
theorem dX8_people_82 : decode cX8_people 82 = .ok (.aload_n 0, 1) := by decide +kernel
theorem dX8_people_83 : decode cX8_people 83 = .ok (.aload_n 0, 1) := by decide +kernel
theorem dX8_people_84 : decode cX8_people 84 = .ok (.getfield 35, 3) := by decide +kernel
theorem dX8_people_87 : decode cX8_people 87 = .ok (.iconst 2, 1) := by decide +kernel
theorem dX8_people_88 : decode cX8_people 88 = .ok (.iload_n 2, 1) := by decide +kernel
theorem dX8_people_89 : decode cX8_people 89 = .ok (.imul, 1) := by decide +kernel
theorem dX8_people_90 : decode cX8_people 90 = .ok (.iaload, 1) := by decide +kernel
theorem dX8_people_91 : decode cX8_people 91 = .ok (.aload_n 0, 1) := by decide +kernel
theorem dX8_people_92 : decode cX8_people 92 = .ok (.getfield 35, 3) := by decide +kernel
theorem dX8_people_95 : decode cX8_people 95 = .ok (.iconst 2, 1) := by decide +kernel
theorem dX8_people_96 : decode cX8_people 96 = .ok (.iload_n 2, 1) := by decide +kernel
theorem dX8_people_97 : decode cX8_people 97 = .ok (.imul, 1) := by decide +kernel
theorem dX8_people_98 : decode cX8_people 98 = .ok (.iconst 1, 1) := by decide +kernel
theorem dX8_people_99 : decode cX8_people 99 = .ok (.iadd, 1) := by decide +kernel
theorem dX8_people_100 : decode cX8_people 100 = .ok (.iaload, 1) := by decide +kernel
theorem dX8_people_101 : decode cX8_people 101 = .ok (.invokevirtual 82, 3) := by decide +kernel
theorem dX8_people_104 : decode cX8_people 104 = .ok (.iinc 2 1, 3) := by decide +kernel
theorem dX8_people_107 : decode cX8_people 107 = .ok (.goto (-33), 3) := by decide +kernel
theorem dX8_people_110 : decode cX8_people 110 = .ok (.aload_n 0, 1) := by decide +kernel
theorem dX8_people_111 : decode cX8_people 111 = .ok (.getfield 69, 3) := by decide +kernel
theorem dX8_people_114 : decode cX8_people 114 = .ok (.ireturn, 1) := by decide +kernel
theorem dX8_readAct_0 : decode cX8_readAct 0 = .ok (.aload_n 0, 1) := by decide +kernel
theorem dX8_readAct_1 : decode cX8_readAct 1 = .ok (.invokevirtual 176, 3) := by decide +kernel
theorem dX8_readAct_4 : decode cX8_readAct 4 = .ok (.istore_n 2, 1) := by decide +kernel
theorem dX8_readAct_5 : decode cX8_readAct 5 = .ok (.iload_n 2, 1) := by decide +kernel
theorem dX8_readAct_6 : decode cX8_readAct 6 = .ok (.bipush 105, 2) := by decide +kernel
theorem dX8_readAct_8 : decode cX8_readAct 8 = .ok (.if_icmp .eq 23, 3) := by decide +kernel
theorem dX8_readAct_11 : decode cX8_readAct 11 = .ok (.iload_n 2, 1) := by decide +kernel
theorem dX8_readAct_12 : decode cX8_readAct 12 = .ok (.bipush 111, 2) := by decide +kernel
theorem dX8_readAct_14 : decode cX8_readAct 14 = .ok (.if_icmp .eq 17, 3) := by decide +kernel
theorem dX8_readAct_17 : decode cX8_readAct 17 = .ok (.iload_n 2, 1) := by decide +kernel
theorem dX8_readAct_18 : decode cX8_readAct 18 = .ok (.bipush 115, 2) := by decide +kernel
theorem dX8_readAct_20 : decode cX8_readAct 20 = .ok (.if_icmp .eq 11, 3) := by decide +kernel
theorem dX8_readAct_23 : decode cX8_readAct 23 = .ok (.iload_n 2, 1) := by decide +kernel
theorem dX8_readAct_24 : decode cX8_readAct 24 = .ok (.bipush 116, 2) := by decide +kernel
theorem dX8_readAct_26 : decode cX8_readAct 26 = .ok (.if_icmp .eq 5, 3) := by decide +kernel
theorem dX8_readAct_29 : decode cX8_readAct 29 = .ok (.iconst 0, 1) := by decide +kernel
theorem dX8_readAct_30 : decode cX8_readAct 30 = .ok (.ireturn, 1) := by decide +kernel
theorem dX8_readAct_31 : decode cX8_readAct 31 = .ok (.aload_n 0, 1) := by decide +kernel
theorem dX8_readAct_32 : decode cX8_readAct 32 = .ok (.getfield 35, 3) := by decide +kernel
theorem dX8_readAct_35 : decode cX8_readAct 35 = .ok (.iload_n 1, 1) := by decide +kernel
theorem dX8_readAct_36 : decode cX8_readAct 36 = .ok (.iload_n 2, 1) := by decide +kernel
theorem dX8_readAct_37 : decode cX8_readAct 37 = .ok (.iastore, 1) := by decide +kernel
theorem dX8_readAct_38 : decode cX8_readAct 38 = .ok (.aload_n 0, 1) := by decide +kernel
theorem dX8_readAct_39 : decode cX8_readAct 39 = .ok (.dup, 1) := by decide +kernel
theorem dX8_readAct_40 : decode cX8_readAct 40 = .ok (.getfield 173, 3) := by decide +kernel
theorem dX8_readAct_43 : decode cX8_readAct 43 = .ok (.iconst 1, 1) := by decide +kernel
theorem dX8_readAct_44 : decode cX8_readAct 44 = .ok (.iadd, 1) := by decide +kernel
theorem dX8_readAct_45 : decode cX8_readAct 45 = .ok (.putfield 173, 3) := by decide +kernel
theorem dX8_readAct_48 : decode cX8_readAct 48 = .ok (.iload_n 2, 1) := by decide +kernel
theorem dX8_readAct_49 : decode cX8_readAct 49 = .ok (.bipush 115, 2) := by decide +kernel
theorem dX8_readAct_51 : decode cX8_readAct 51 = .ok (.if_icmp .ne 35, 3) := by decide +kernel
theorem dX8_readAct_54 : decode cX8_readAct 54 = .ok (.aload_n 0, 1) := by decide +kernel
theorem dX8_readAct_55 : decode cX8_readAct 55 = .ok (.getfield 35, 3) := by decide +kernel
theorem dX8_readAct_58 : decode cX8_readAct 58 = .ok (.iload_n 1, 1) := by decide +kernel
theorem dX8_readAct_59 : decode cX8_readAct 59 = .ok (.iconst 1, 1) := by decide +kernel
theorem dX8_readAct_60 : decode cX8_readAct 60 = .ok (.iadd, 1) := by decide +kernel
theorem dX8_readAct_61 : decode cX8_readAct 61 = .ok (.aload_n 0, 1) := by decide +kernel
theorem dX8_readAct_62 : decode cX8_readAct 62 = .ok (.iconst 0, 1) := by decide +kernel
theorem dX8_readAct_63 : decode cX8_readAct 63 = .ok (.bipush 99, 2) := by decide +kernel
theorem dX8_readAct_65 : decode cX8_readAct 65 = .ok (.invokevirtual 184, 3) := by decide +kernel
theorem dX8_readAct_68 : decode cX8_readAct 68 = .ok (.iastore, 1) := by decide +kernel
theorem dX8_readAct_69 : decode cX8_readAct 69 = .ok (.aload_n 0, 1) := by decide +kernel
theorem dX8_readAct_70 : decode cX8_readAct 70 = .ok (.getfield 35, 3) := by decide +kernel
theorem dX8_readAct_73 : decode cX8_readAct 73 = .ok (.iload_n 1, 1) := by decide +kernel
theorem dX8_readAct_74 : decode cX8_readAct 74 = .ok (.iconst 1, 1) := by decide +kernel
theorem dX8_readAct_75 : decode cX8_readAct 75 = .ok (.iadd, 1) := by decide +kernel
theorem dX8_readAct_76 : decode cX8_readAct 76 = .ok (.iaload, 1) := by decide +kernel
theorem dX8_readAct_77 : decode cX8_readAct 77 = .ok (.ifCond .lt 7, 3) := by decide +kernel
theorem dX8_readAct_80 : decode cX8_readAct 80 = .ok (.iconst 1, 1) := by decide +kernel
theorem dX8_readAct_81 : decode cX8_readAct 81 = .ok (.goto 4, 3) := by decide +kernel
theorem dX8_readAct_84 : decode cX8_readAct 84 = .ok (.iconst 0, 1) := by decide +kernel
theorem dX8_readAct_85 : decode cX8_readAct 85 = .ok (.ireturn, 1) := by decide +kernel
theorem dX8_readAct_86 : decode cX8_readAct 86 = .ok (.iload_n 2, 1) := by decide +kernel
theorem dX8_readAct_87 : decode cX8_readAct 87 = .ok (.bipush 116, 2) := by decide +kernel
theorem dX8_readAct_89 : decode cX8_readAct 89 = .ok (.if_icmp .eq 49, 3) := by decide +kernel
theorem dX8_readAct_92 : decode cX8_readAct 92 = .ok (.aload_n 0, 1) := by decide +kernel
theorem dX8_readAct_93 : decode cX8_readAct 93 = .ok (.getfield 35, 3) := by decide +kernel
theorem dX8_readAct_96 : decode cX8_readAct 96 = .ok (.iload_n 1, 1) := by decide +kernel
theorem dX8_readAct_97 : decode cX8_readAct 97 = .ok (.iconst 1, 1) := by decide +kernel
theorem dX8_readAct_98 : decode cX8_readAct 98 = .ok (.iadd, 1) := by decide +kernel
theorem dX8_readAct_99 : decode cX8_readAct 99 = .ok (.aload_n 0, 1) := by decide +kernel
theorem dX8_readAct_100 : decode cX8_readAct 100 = .ok (.invokevirtual 176, 3) := by decide +kernel
theorem dX8_readAct_103 : decode cX8_readAct 103 = .ok (.bipush 48, 2) := by decide +kernel
theorem dX8_readAct_105 : decode cX8_readAct 105 = .ok (.isub, 1) := by decide +kernel
theorem dX8_readAct_106 : decode cX8_readAct 106 = .ok (.iastore, 1) := by decide +kernel
theorem dX8_readAct_107 : decode cX8_readAct 107 = .ok (.aload_n 0, 1) := by decide +kernel
theorem dX8_readAct_108 : decode cX8_readAct 108 = .ok (.getfield 35, 3) := by decide +kernel
theorem dX8_readAct_111 : decode cX8_readAct 111 = .ok (.iload_n 1, 1) := by decide +kernel
theorem dX8_readAct_112 : decode cX8_readAct 112 = .ok (.iconst 1, 1) := by decide +kernel
theorem dX8_readAct_113 : decode cX8_readAct 113 = .ok (.iadd, 1) := by decide +kernel
theorem dX8_readAct_114 : decode cX8_readAct 114 = .ok (.iaload, 1) := by decide +kernel
theorem dX8_readAct_115 : decode cX8_readAct 115 = .ok (.i2l, 1) := by decide +kernel
theorem dX8_readAct_116 : decode cX8_readAct 116 = .ok (.lconst 0, 1) := by decide +kernel
theorem dX8_readAct_117 : decode cX8_readAct 117 = .ok (.ldc2_w 196, 3) := by decide +kernel
theorem dX8_readAct_120 : decode cX8_readAct 120 = .ok (.invokestatic 72, 3) := by decide +kernel
theorem dX8_readAct_123 : decode cX8_readAct 123 = .ok (.ifCond .ne 5, 3) := by decide +kernel
theorem dX8_readAct_126 : decode cX8_readAct 126 = .ok (.iconst 0, 1) := by decide +kernel
theorem dX8_readAct_127 : decode cX8_readAct 127 = .ok (.ireturn, 1) := by decide +kernel
theorem dX8_readAct_128 : decode cX8_readAct 128 = .ok (.aload_n 0, 1) := by decide +kernel
theorem dX8_readAct_129 : decode cX8_readAct 129 = .ok (.dup, 1) := by decide +kernel
theorem dX8_readAct_130 : decode cX8_readAct 130 = .ok (.getfield 173, 3) := by decide +kernel
theorem dX8_readAct_133 : decode cX8_readAct 133 = .ok (.iconst 1, 1) := by decide +kernel
theorem dX8_readAct_134 : decode cX8_readAct 134 = .ok (.iadd, 1) := by decide +kernel
theorem dX8_readAct_135 : decode cX8_readAct 135 = .ok (.putfield 173, 3) := by decide +kernel
theorem dX8_readAct_138 : decode cX8_readAct 138 = .ok (.iconst 1, 1) := by decide +kernel
theorem dX8_readAct_139 : decode cX8_readAct 139 = .ok (.ireturn, 1) := by decide +kernel
theorem dX8_readEvening_0 : decode cX8_readEvening 0 = .ok (.aload_n 0, 1) := by decide +kernel
theorem dX8_readEvening_1 : decode cX8_readEvening 1 = .ok (.iconst 0, 1) := by decide +kernel
theorem dX8_readEvening_2 : decode cX8_readEvening 2 = .ok (.putfield 173, 3) := by decide +kernel
theorem dX8_readEvening_5 : decode cX8_readEvening 5 = .ok (.aload_n 0, 1) := by decide +kernel
theorem dX8_readEvening_6 : decode cX8_readEvening 6 = .ok (.iconst 0, 1) := by decide +kernel
theorem dX8_readEvening_7 : decode cX8_readEvening 7 = .ok (.putfield 190, 3) := by decide +kernel
theorem dX8_readEvening_10 : decode cX8_readEvening 10 = .ok (.iconst 1, 1) := by decide +kernel
theorem dX8_readEvening_11 : decode cX8_readEvening 11 = .ok (.istore_n 1, 1) := by decide +kernel
theorem dX8_readEvening_12 : decode cX8_readEvening 12 = .ok (.iload_n 1, 1) := by decide +kernel
theorem dX8_readEvening_13 : decode cX8_readEvening 13 = .ok (.ifCond .eq 64, 3) := by decide +kernel
theorem dX8_readEvening_16 : decode cX8_readEvening 16 = .ok (.aload_n 0, 1) := by decide +kernel
theorem dX8_readEvening_17 : decode cX8_readEvening 17 = .ok (.iconst 2, 1) := by decide +kernel
theorem dX8_readEvening_18 : decode cX8_readEvening 18 = .ok (.aload_n 0, 1) := by decide +kernel
theorem dX8_readEvening_19 : decode cX8_readEvening 19 = .ok (.getfield 190, 3) := by decide +kernel
theorem dX8_readEvening_22 : decode cX8_readEvening 22 = .ok (.imul, 1) := by decide +kernel
theorem dX8_readEvening_23 : decode cX8_readEvening 23 = .ok (.invokevirtual 198, 3) := by decide +kernel
theorem dX8_readEvening_26 : decode cX8_readEvening 26 = .ok (.ifCond .ne 5, 3) := by decide +kernel
theorem dX8_readEvening_29 : decode cX8_readEvening 29 = .ok (.iconst 0, 1) := by decide +kernel
theorem dX8_readEvening_30 : decode cX8_readEvening 30 = .ok (.ireturn, 1) := by decide +kernel
theorem dX8_readEvening_31 : decode cX8_readEvening 31 = .ok (.aload_n 0, 1) := by decide +kernel
theorem dX8_readEvening_32 : decode cX8_readEvening 32 = .ok (.dup, 1) := by decide +kernel
theorem dX8_readEvening_33 : decode cX8_readEvening 33 = .ok (.getfield 190, 3) := by decide +kernel
theorem dX8_readEvening_36 : decode cX8_readEvening 36 = .ok (.iconst 1, 1) := by decide +kernel
theorem dX8_readEvening_37 : decode cX8_readEvening 37 = .ok (.iadd, 1) := by decide +kernel
theorem dX8_readEvening_38 : decode cX8_readEvening 38 = .ok (.putfield 190, 3) := by decide +kernel
theorem dX8_readEvening_41 : decode cX8_readEvening 41 = .ok (.aload_n 0, 1) := by decide +kernel
theorem dX8_readEvening_42 : decode cX8_readEvening 42 = .ok (.invokevirtual 176, 3) := by decide +kernel
theorem dX8_readEvening_45 : decode cX8_readEvening 45 = .ok (.bipush 59, 2) := by decide +kernel
theorem dX8_readEvening_47 : decode cX8_readEvening 47 = .ok (.if_icmp .ne 7, 3) := by decide +kernel
theorem dX8_readEvening_50 : decode cX8_readEvening 50 = .ok (.iconst 1, 1) := by decide +kernel
theorem dX8_readEvening_51 : decode cX8_readEvening 51 = .ok (.goto 4, 3) := by decide +kernel
theorem dX8_readEvening_54 : decode cX8_readEvening 54 = .ok (.iconst 0, 1) := by decide +kernel
theorem dX8_readEvening_55 : decode cX8_readEvening 55 = .ok (.istore_n 1, 1) := by decide +kernel
theorem dX8_readEvening_56 : decode cX8_readEvening 56 = .ok (.aload_n 0, 1) := by decide +kernel
theorem dX8_readEvening_57 : decode cX8_readEvening 57 = .ok (.dup, 1) := by decide +kernel
theorem dX8_readEvening_58 : decode cX8_readEvening 58 = .ok (.getfield 173, 3) := by decide +kernel
theorem dX8_readEvening_61 : decode cX8_readEvening 61 = .ok (.iload_n 1, 1) := by decide +kernel
theorem dX8_readEvening_62 : decode cX8_readEvening 62 = .ok (.ifCond .eq 7, 3) := by decide +kernel
theorem dX8_readEvening_65 : decode cX8_readEvening 65 = .ok (.iconst 1, 1) := by decide +kernel
theorem dX8_readEvening_66 : decode cX8_readEvening 66 = .ok (.goto 4, 3) := by decide +kernel
theorem dX8_readEvening_69 : decode cX8_readEvening 69 = .ok (.iconst 0, 1) := by decide +kernel
theorem dX8_readEvening_70 : decode cX8_readEvening 70 = .ok (.iadd, 1) := by decide +kernel
theorem dX8_readEvening_71 : decode cX8_readEvening 71 = .ok (.putfield 173, 3) := by decide +kernel
theorem dX8_readEvening_74 : decode cX8_readEvening 74 = .ok (.goto (-62), 3) := by decide +kernel
theorem dX8_readEvening_77 : decode cX8_readEvening 77 = .ok (.aload_n 0, 1) := by decide +kernel
theorem dX8_readEvening_78 : decode cX8_readEvening 78 = .ok (.invokevirtual 176, 3) := by decide +kernel
theorem dX8_readEvening_81 : decode cX8_readEvening 81 = .ok (.ifCond .ge 7, 3) := by decide +kernel
theorem dX8_readEvening_84 : decode cX8_readEvening 84 = .ok (.iconst 1, 1) := by decide +kernel
theorem dX8_readEvening_85 : decode cX8_readEvening 85 = .ok (.goto 4, 3) := by decide +kernel
theorem dX8_readEvening_88 : decode cX8_readEvening 88 = .ok (.iconst 0, 1) := by decide +kernel
theorem dX8_readEvening_89 : decode cX8_readEvening 89 = .ok (.ireturn, 1) := by decide +kernel
theorem dX8_does_0 : decode cX8_does 0 = .ok (.aload_n 0, 1) := by decide +kernel
theorem dX8_does_1 : decode cX8_does 1 = .ok (.getfield 35, 3) := by decide +kernel
theorem dX8_does_4 : decode cX8_does 4 = .ok (.iload_n 1, 1) := by decide +kernel
theorem dX8_does_5 : decode cX8_does 5 = .ok (.iconst 1, 1) := by decide +kernel
theorem dX8_does_6 : decode cX8_does 6 = .ok (.iadd, 1) := by decide +kernel
theorem dX8_does_7 : decode cX8_does 7 = .ok (.iaload, 1) := by decide +kernel
theorem dX8_does_8 : decode cX8_does 8 = .ok (.istore_n 2, 1) := by decide +kernel
theorem dX8_does_9 : decode cX8_does 9 = .ok (.aload_n 0, 1) := by decide +kernel
theorem dX8_does_10 : decode cX8_does 10 = .ok (.getfield 35, 3) := by decide +kernel
theorem dX8_does_13 : decode cX8_does 13 = .ok (.iload_n 1, 1) := by decide +kernel
theorem dX8_does_14 : decode cX8_does 14 = .ok (.iaload, 1) := by decide +kernel
theorem dX8_does_15 : decode cX8_does 15 = .ok (.bipush 105, 2) := by decide +kernel
theorem dX8_does_17 : decode cX8_does 17 = .ok (.if_icmp .ne 19, 3) := by decide +kernel
theorem dX8_does_20 : decode cX8_does 20 = .ok (.aload_n 0, 1) := by decide +kernel
theorem dX8_does_21 : decode cX8_does 21 = .ok (.iload_n 2, 1) := by decide +kernel
theorem dX8_does_22 : decode cX8_does 22 = .ok (.invokevirtual 201, 3) := by decide +kernel
theorem dX8_does_25 : decode cX8_does 25 = .ok (.ifCond .lt 7, 3) := by decide +kernel
theorem dX8_does_28 : decode cX8_does 28 = .ok (.iconst 1, 1) := by decide +kernel
theorem dX8_does_29 : decode cX8_does 29 = .ok (.goto 74, 3) := by decide +kernel
theorem dX8_does_32 : decode cX8_does 32 = .ok (.iconst 0, 1) := by decide +kernel
theorem dX8_does_33 : decode cX8_does 33 = .ok (.goto 70, 3) := by decide +kernel
theorem dX8_does_36 : decode cX8_does 36 = .ok (.aload_n 0, 1) := by decide +kernel
theorem dX8_does_37 : decode cX8_does 37 = .ok (.getfield 35, 3) := by decide +kernel
theorem dX8_does_40 : decode cX8_does 40 = .ok (.iload_n 1, 1) := by decide +kernel
theorem dX8_does_41 : decode cX8_does 41 = .ok (.iaload, 1) := by decide +kernel
theorem dX8_does_42 : decode cX8_does 42 = .ok (.bipush 111, 2) := by decide +kernel
theorem dX8_does_44 : decode cX8_does 44 = .ok (.if_icmp .ne 19, 3) := by decide +kernel
theorem dX8_does_47 : decode cX8_does 47 = .ok (.aload_n 0, 1) := by decide +kernel
theorem dX8_does_48 : decode cX8_does 48 = .ok (.iload_n 2, 1) := by decide +kernel
theorem dX8_does_49 : decode cX8_does 49 = .ok (.invokevirtual 204, 3) := by decide +kernel
theorem dX8_does_52 : decode cX8_does 52 = .ok (.ifCond .lt 7, 3) := by decide +kernel
theorem dX8_does_55 : decode cX8_does 55 = .ok (.iconst 1, 1) := by decide +kernel
theorem dX8_does_56 : decode cX8_does 56 = .ok (.goto 47, 3) := by decide +kernel
theorem dX8_does_59 : decode cX8_does 59 = .ok (.iconst 0, 1) := by decide +kernel
theorem dX8_does_60 : decode cX8_does 60 = .ok (.goto 43, 3) := by decide +kernel
theorem dX8_does_63 : decode cX8_does 63 = .ok (.aload_n 0, 1) := by decide +kernel
theorem dX8_does_64 : decode cX8_does 64 = .ok (.getfield 35, 3) := by decide +kernel
theorem dX8_does_67 : decode cX8_does 67 = .ok (.iload_n 1, 1) := by decide +kernel
theorem dX8_does_68 : decode cX8_does 68 = .ok (.iaload, 1) := by decide +kernel
theorem dX8_does_69 : decode cX8_does 69 = .ok (.bipush 115, 2) := by decide +kernel
theorem dX8_does_71 : decode cX8_does 71 = .ok (.if_icmp .ne 19, 3) := by decide +kernel
theorem dX8_does_74 : decode cX8_does 74 = .ok (.aload_n 0, 1) := by decide +kernel
theorem dX8_does_75 : decode cX8_does 75 = .ok (.iload_n 2, 1) := by decide +kernel
theorem dX8_does_76 : decode cX8_does 76 = .ok (.invokevirtual 207, 3) := by decide +kernel
theorem dX8_does_79 : decode cX8_does 79 = .ok (.ifCond .lt 7, 3) := by decide +kernel
theorem dX8_does_82 : decode cX8_does 82 = .ok (.iconst 1, 1) := by decide +kernel
theorem dX8_does_83 : decode cX8_does 83 = .ok (.goto 20, 3) := by decide +kernel
theorem dX8_does_86 : decode cX8_does 86 = .ok (.iconst 0, 1) := by decide +kernel
theorem dX8_does_87 : decode cX8_does 87 = .ok (.goto 16, 3) := by decide +kernel
theorem dX8_does_90 : decode cX8_does 90 = .ok (.aload_n 0, 1) := by decide +kernel
theorem dX8_does_91 : decode cX8_does 91 = .ok (.iconst 1, 1) := by decide +kernel
theorem dX8_does_92 : decode cX8_does 92 = .ok (.invokevirtual 209, 3) := by decide +kernel
theorem dX8_does_95 : decode cX8_does 95 = .ok (.ifCond .lt 7, 3) := by decide +kernel
theorem dX8_does_98 : decode cX8_does 98 = .ok (.iconst 1, 1) := by decide +kernel
theorem dX8_does_99 : decode cX8_does 99 = .ok (.goto 4, 3) := by decide +kernel
theorem dX8_does_102 : decode cX8_does 102 = .ok (.iconst 0, 1) := by decide +kernel
theorem dX8_does_103 : decode cX8_does 103 = .ok (.ireturn, 1) := by decide +kernel
theorem dX8_evening_0 : decode cX8_evening 0 = .ok (.aload_n 0, 1) := by decide +kernel
theorem dX8_evening_1 : decode cX8_evening 1 = .ok (.invokevirtual 212, 3) := by decide +kernel
theorem dX8_evening_4 : decode cX8_evening 4 = .ok (.istore_n 1, 1) := by decide +kernel
theorem dX8_evening_5 : decode cX8_evening 5 = .ok (.iload_n 1, 1) := by decide +kernel
theorem dX8_evening_6 : decode cX8_evening 6 = .ok (.ifCond .ne 8, 3) := by decide +kernel
theorem dX8_evening_9 : decode cX8_evening 9 = .ok (.aload_n 0, 1) := by decide +kernel
theorem dX8_evening_10 : decode cX8_evening 10 = .ok (.invokevirtual 176, 3) := by decide +kernel
theorem dX8_evening_13 : decode cX8_evening 13 = .ok (.pop, 1) := by decide +kernel
theorem dX8_evening_14 : decode cX8_evening 14 = .ok (.aload_n 0, 1) := by decide +kernel
theorem dX8_evening_15 : decode cX8_evening 15 = .ok (.iconst 0, 1) := by decide +kernel
theorem dX8_evening_16 : decode cX8_evening 16 = .ok (.putfield 170, 3) := by decide +kernel
theorem dX8_evening_19 : decode cX8_evening 19 = .ok (.iload_n 1, 1) := by decide +kernel
theorem dX8_evening_20 : decode cX8_evening 20 = .ok (.ifCond .ne 11, 3) := by decide +kernel
theorem dX8_evening_23 : decode cX8_evening 23 = .ok (.bipush (-20), 2) := by decide +kernel
theorem dX8_evening_25 : decode cX8_evening 25 = .ok (.aload_n 0, 1) := by decide +kernel
theorem dX8_evening_26 : decode cX8_evening 26 = .ok (.getfield 173, 3) := by decide +kernel
theorem dX8_evening_29 : decode cX8_evening 29 = .ok (.isub, 1) := by decide +kernel
theorem dX8_evening_30 : decode cX8_evening 30 = .ok (.ireturn, 1) := by decide +kernel
theorem dX8_evening_31 : decode cX8_evening 31 = .ok (.aload_n 0, 1) := by decide +kernel
theorem dX8_evening_32 : decode cX8_evening 32 = .ok (.getfield 190, 3) := by decide +kernel
theorem dX8_evening_35 : decode cX8_evening 35 = .ok (.istore_n 2, 1) := by decide +kernel
theorem dX8_evening_36 : decode cX8_evening 36 = .ok (.iconst 0, 1) := by decide +kernel
theorem dX8_evening_37 : decode cX8_evening 37 = .ok (.istore_n 3, 1) := by decide +kernel
theorem dX8_evening_38 : decode cX8_evening 38 = .ok (.iload_n 3, 1) := by decide +kernel
theorem dX8_evening_39 : decode cX8_evening 39 = .ok (.iload_n 2, 1) := by decide +kernel
theorem dX8_evening_40 : decode cX8_evening 40 = .ok (.if_icmp .ge 21, 3) := by decide +kernel
theorem dX8_evening_43 : decode cX8_evening 43 = .ok (.aload_n 0, 1) := by decide +kernel
theorem dX8_evening_44 : decode cX8_evening 44 = .ok (.iconst 2, 1) := by decide +kernel
theorem dX8_evening_45 : decode cX8_evening 45 = .ok (.iload_n 3, 1) := by decide +kernel
theorem dX8_evening_46 : decode cX8_evening 46 = .ok (.imul, 1) := by decide +kernel
theorem dX8_evening_47 : decode cX8_evening 47 = .ok (.invokevirtual 215, 3) := by decide +kernel
theorem dX8_evening_50 : decode cX8_evening 50 = .ok (.ifCond .ne 5, 3) := by decide +kernel
theorem dX8_evening_53 : decode cX8_evening 53 = .ok (.iload_n 3, 1) := by decide +kernel
theorem dX8_evening_54 : decode cX8_evening 54 = .ok (.ireturn, 1) := by decide +kernel
theorem dX8_evening_55 : decode cX8_evening 55 = .ok (.iinc 3 1, 3) := by decide +kernel
theorem dX8_evening_58 : decode cX8_evening 58 = .ok (.goto (-20), 3) := by decide +kernel
theorem dX8_evening_61 : decode cX8_evening 61 = .ok (.iload_n 2, 1) := by decide +kernel
theorem dX8_evening_62 : decode cX8_evening 62 = .ok (.ireturn, 1) := by decide +kernel
theorem dX8_mayBoard_0 : decode cX8_mayBoard 0 = .ok (.aload_n 0, 1) := by decide +kernel
theorem dX8_mayBoard_1 : decode cX8_mayBoard 1 = .ok (.getfield 16, 3) := by decide +kernel
theorem dX8_mayBoard_4 : decode cX8_mayBoard 4 = .ok (.iload_n 1, 1) := by decide +kernel
theorem dX8_mayBoard_5 : decode cX8_mayBoard 5 = .ok (.iaload, 1) := by decide +kernel
theorem dX8_mayBoard_6 : decode cX8_mayBoard 6 = .ok (.istore_n 2, 1) := by decide +kernel
theorem dX8_mayBoard_7 : decode cX8_mayBoard 7 = .ok (.aload_n 0, 1) := by decide +kernel
theorem dX8_mayBoard_8 : decode cX8_mayBoard 8 = .ok (.getfield 16, 3) := by decide +kernel
theorem dX8_mayBoard_11 : decode cX8_mayBoard 11 = .ok (.iload_n 1, 1) := by decide +kernel
theorem dX8_mayBoard_12 : decode cX8_mayBoard 12 = .ok (.aload_n 0, 1) := by decide +kernel
theorem dX8_mayBoard_13 : decode cX8_mayBoard 13 = .ok (.getfield 159, 3) := by decide +kernel
theorem dX8_mayBoard_16 : decode cX8_mayBoard 16 = .ok (.iastore, 1) := by decide +kernel
theorem dX8_mayBoard_17 : decode cX8_mayBoard 17 = .ok (.aload_n 0, 1) := by decide +kernel
theorem dX8_mayBoard_18 : decode cX8_mayBoard 18 = .ok (.aload_n 0, 1) := by decide +kernel
theorem dX8_mayBoard_19 : decode cX8_mayBoard 19 = .ok (.aload_n 0, 1) := by decide +kernel
theorem dX8_mayBoard_20 : decode cX8_mayBoard 20 = .ok (.getfield 159, 3) := by decide +kernel
theorem dX8_mayBoard_23 : decode cX8_mayBoard 23 = .ok (.invokevirtual 101, 3) := by decide +kernel
theorem dX8_mayBoard_26 : decode cX8_mayBoard 26 = .ok (.invokevirtual 218, 3) := by decide +kernel
theorem dX8_mayBoard_29 : decode cX8_mayBoard 29 = .ok (.ifCond .eq 14, 3) := by decide +kernel
theorem dX8_mayBoard_32 : decode cX8_mayBoard 32 = .ok (.aload_n 0, 1) := by decide +kernel
theorem dX8_mayBoard_33 : decode cX8_mayBoard 33 = .ok (.invokevirtual 150, 3) := by decide +kernel
theorem dX8_mayBoard_36 : decode cX8_mayBoard 36 = .ok (.ifCond .eq 7, 3) := by decide +kernel
theorem dX8_mayBoard_39 : decode cX8_mayBoard 39 = .ok (.iconst 1, 1) := by decide +kernel
theorem dX8_mayBoard_40 : decode cX8_mayBoard 40 = .ok (.goto 4, 3) := by decide +kernel
theorem dX8_mayBoard_43 : decode cX8_mayBoard 43 = .ok (.iconst 0, 1) := by decide +kernel
theorem dX8_mayBoard_44 : decode cX8_mayBoard 44 = .ok (.istore_n 3, 1) := by decide +kernel
theorem dX8_mayBoard_45 : decode cX8_mayBoard 45 = .ok (.aload_n 0, 1) := by decide +kernel
theorem dX8_mayBoard_46 : decode cX8_mayBoard 46 = .ok (.getfield 16, 3) := by decide +kernel
theorem dX8_mayBoard_49 : decode cX8_mayBoard 49 = .ok (.iload_n 1, 1) := by decide +kernel
theorem dX8_mayBoard_50 : decode cX8_mayBoard 50 = .ok (.iload_n 2, 1) := by decide +kernel
theorem dX8_mayBoard_51 : decode cX8_mayBoard 51 = .ok (.iastore, 1) := by decide +kernel
theorem dX8_mayBoard_52 : decode cX8_mayBoard 52 = .ok (.iload_n 3, 1) := by decide +kernel
theorem dX8_mayBoard_53 : decode cX8_mayBoard 53 = .ok (.ireturn, 1) := by decide +kernel
theorem dX8_mayLeave_0 : decode cX8_mayLeave 0 = .ok (.aload_n 0, 1) := by decide +kernel
theorem dX8_mayLeave_1 : decode cX8_mayLeave 1 = .ok (.getfield 16, 3) := by decide +kernel
theorem dX8_mayLeave_4 : decode cX8_mayLeave 4 = .ok (.iload_n 1, 1) := by decide +kernel
theorem dX8_mayLeave_5 : decode cX8_mayLeave 5 = .ok (.bipush 13, 2) := by decide +kernel
theorem dX8_mayLeave_7 : decode cX8_mayLeave 7 = .ok (.iastore, 1) := by decide +kernel
theorem dX8_mayLeave_8 : decode cX8_mayLeave 8 = .ok (.aload_n 0, 1) := by decide +kernel
theorem dX8_mayLeave_9 : decode cX8_mayLeave 9 = .ok (.aload_n 0, 1) := by decide +kernel
theorem dX8_mayLeave_10 : decode cX8_mayLeave 10 = .ok (.aload_n 0, 1) := by decide +kernel
theorem dX8_mayLeave_11 : decode cX8_mayLeave 11 = .ok (.getfield 159, 3) := by decide +kernel
theorem dX8_mayLeave_14 : decode cX8_mayLeave 14 = .ok (.invokevirtual 101, 3) := by decide +kernel
theorem dX8_mayLeave_17 : decode cX8_mayLeave 17 = .ok (.invokevirtual 218, 3) := by decide +kernel
theorem dX8_mayLeave_20 : decode cX8_mayLeave 20 = .ok (.ifCond .eq 14, 3) := by decide +kernel
theorem dX8_mayLeave_23 : decode cX8_mayLeave 23 = .ok (.aload_n 0, 1) := by decide +kernel
theorem dX8_mayLeave_24 : decode cX8_mayLeave 24 = .ok (.invokevirtual 150, 3) := by decide +kernel
theorem dX8_mayLeave_27 : decode cX8_mayLeave 27 = .ok (.ifCond .eq 7, 3) := by decide +kernel
theorem dX8_mayLeave_30 : decode cX8_mayLeave 30 = .ok (.iconst 1, 1) := by decide +kernel
theorem dX8_mayLeave_31 : decode cX8_mayLeave 31 = .ok (.goto 4, 3) := by decide +kernel
theorem dX8_mayLeave_34 : decode cX8_mayLeave 34 = .ok (.iconst 0, 1) := by decide +kernel
theorem dX8_mayLeave_35 : decode cX8_mayLeave 35 = .ok (.istore_n 2, 1) := by decide +kernel
theorem dX8_mayLeave_36 : decode cX8_mayLeave 36 = .ok (.aload_n 0, 1) := by decide +kernel
theorem dX8_mayLeave_37 : decode cX8_mayLeave 37 = .ok (.getfield 16, 3) := by decide +kernel
theorem dX8_mayLeave_40 : decode cX8_mayLeave 40 = .ok (.iload_n 1, 1) := by decide +kernel
theorem dX8_mayLeave_41 : decode cX8_mayLeave 41 = .ok (.aload_n 0, 1) := by decide +kernel
theorem dX8_mayLeave_42 : decode cX8_mayLeave 42 = .ok (.getfield 159, 3) := by decide +kernel
theorem dX8_mayLeave_45 : decode cX8_mayLeave 45 = .ok (.iastore, 1) := by decide +kernel
theorem dX8_mayLeave_46 : decode cX8_mayLeave 46 = .ok (.iload_n 2, 1) := by decide +kernel
theorem dX8_mayLeave_47 : decode cX8_mayLeave 47 = .ok (.ireturn, 1) := by decide +kernel
theorem dX8_board_0 : decode cX8_board 0 = .ok (.aload_n 0, 1) := by decide +kernel
theorem dX8_board_1 : decode cX8_board 1 = .ok (.iload_n 1, 1) := by decide +kernel
theorem dX8_board_2 : decode cX8_board 2 = .ok (.invokevirtual 86, 3) := by decide +kernel
theorem dX8_board_5 : decode cX8_board 5 = .ok (.ifCond .eq 14, 3) := by decide +kernel
theorem dX8_board_8 : decode cX8_board 8 = .ok (.aload_n 0, 1) := by decide +kernel
theorem dX8_board_9 : decode cX8_board 9 = .ok (.getfield 16, 3) := by decide +kernel
theorem dX8_board_12 : decode cX8_board 12 = .ok (.iload_n 1, 1) := by decide +kernel
theorem dX8_board_13 : decode cX8_board 13 = .ok (.iaload, 1) := by decide +kernel
theorem dX8_board_14 : decode cX8_board 14 = .ok (.bipush 12, 2) := by decide +kernel
theorem dX8_board_16 : decode cX8_board 16 = .ok (.if_icmp .eq 5, 3) := by decide +kernel
theorem dX8_board_19 : decode cX8_board 19 = .ok (.iconst (-1), 1) := by decide +kernel
theorem dX8_board_20 : decode cX8_board 20 = .ok (.ireturn, 1) := by decide +kernel
theorem dX8_board_21 : decode cX8_board 21 = .ok (.aload_n 0, 1) := by decide +kernel
theorem dX8_board_22 : decode cX8_board 22 = .ok (.iload_n 1, 1) := by decide +kernel
theorem dX8_board_23 : decode cX8_board 23 = .ok (.invokevirtual 221, 3) := by decide +kernel
theorem dX8_board_26 : decode cX8_board 26 = .ok (.ifCond .ne 6, 3) := by decide +kernel
theorem dX8_board_29 : decode cX8_board 29 = .ok (.bipush (-2), 2) := by decide +kernel
theorem dX8_board_31 : decode cX8_board 31 = .ok (.ireturn, 1) := by decide +kernel
theorem dX8_board_32 : decode cX8_board 32 = .ok (.aload_n 0, 1) := by decide +kernel
theorem dX8_board_33 : decode cX8_board 33 = .ok (.getfield 16, 3) := by decide +kernel
theorem dX8_board_36 : decode cX8_board 36 = .ok (.iload_n 1, 1) := by decide +kernel
theorem dX8_board_37 : decode cX8_board 37 = .ok (.aload_n 0, 1) := by decide +kernel
theorem dX8_board_38 : decode cX8_board 38 = .ok (.getfield 159, 3) := by decide +kernel
theorem dX8_board_41 : decode cX8_board 41 = .ok (.iastore, 1) := by decide +kernel
theorem dX8_board_42 : decode cX8_board 42 = .ok (.aload_n 0, 1) := by decide +kernel
theorem dX8_board_43 : decode cX8_board 43 = .ok (.getfield 19, 3) := by decide +kernel
theorem dX8_board_46 : decode cX8_board 46 = .ok (.iload_n 1, 1) := by decide +kernel
theorem dX8_board_47 : decode cX8_board 47 = .ok (.aload_n 0, 1) := by decide +kernel
theorem dX8_board_48 : decode cX8_board 48 = .ok (.getfield 156, 3) := by decide +kernel
theorem dX8_board_51 : decode cX8_board 51 = .ok (.iastore, 1) := by decide +kernel
theorem dX8_board_52 : decode cX8_board 52 = .ok (.aload_n 0, 1) := by decide +kernel
theorem dX8_board_53 : decode cX8_board 53 = .ok (.aload_n 0, 1) := by decide +kernel
theorem dX8_board_54 : decode cX8_board 54 = .ok (.aload_n 0, 1) := by decide +kernel
theorem dX8_board_55 : decode cX8_board 55 = .ok (.getfield 159, 3) := by decide +kernel
theorem dX8_board_58 : decode cX8_board 58 = .ok (.invokevirtual 101, 3) := by decide +kernel
theorem dX8_board_61 : decode cX8_board 61 = .ok (.invokevirtual 94, 3) := by decide +kernel
theorem dX8_board_64 : decode cX8_board 64 = .ok (.ireturn, 1) := by decide +kernel
theorem dX8_leave_0 : decode cX8_leave 0 = .ok (.aload_n 0, 1) := by decide +kernel
theorem dX8_leave_1 : decode cX8_leave 1 = .ok (.iload_n 1, 1) := by decide +kernel
theorem dX8_leave_2 : decode cX8_leave 2 = .ok (.invokevirtual 86, 3) := by decide +kernel
theorem dX8_leave_5 : decode cX8_leave 5 = .ok (.ifCond .eq 16, 3) := by decide +kernel
theorem dX8_leave_8 : decode cX8_leave 8 = .ok (.aload_n 0, 1) := by decide +kernel
theorem dX8_leave_9 : decode cX8_leave 9 = .ok (.getfield 16, 3) := by decide +kernel
theorem dX8_leave_12 : decode cX8_leave 12 = .ok (.iload_n 1, 1) := by decide +kernel
theorem dX8_leave_13 : decode cX8_leave 13 = .ok (.iaload, 1) := by decide +kernel
theorem dX8_leave_14 : decode cX8_leave 14 = .ok (.aload_n 0, 1) := by decide +kernel
theorem dX8_leave_15 : decode cX8_leave 15 = .ok (.getfield 159, 3) := by decide +kernel
theorem dX8_leave_18 : decode cX8_leave 18 = .ok (.if_icmp .eq 5, 3) := by decide +kernel
theorem dX8_leave_21 : decode cX8_leave 21 = .ok (.iconst (-1), 1) := by decide +kernel
theorem dX8_leave_22 : decode cX8_leave 22 = .ok (.ireturn, 1) := by decide +kernel
theorem dX8_leave_23 : decode cX8_leave 23 = .ok (.aload_n 0, 1) := by decide +kernel
theorem dX8_leave_24 : decode cX8_leave 24 = .ok (.iload_n 1, 1) := by decide +kernel
theorem dX8_leave_25 : decode cX8_leave 25 = .ok (.invokevirtual 224, 3) := by decide +kernel
theorem dX8_leave_28 : decode cX8_leave 28 = .ok (.ifCond .ne 6, 3) := by decide +kernel
theorem dX8_leave_31 : decode cX8_leave 31 = .ok (.bipush (-2), 2) := by decide +kernel
theorem dX8_leave_33 : decode cX8_leave 33 = .ok (.ireturn, 1) := by decide +kernel
theorem dX8_leave_34 : decode cX8_leave 34 = .ok (.aload_n 0, 1) := by decide +kernel
theorem dX8_leave_35 : decode cX8_leave 35 = .ok (.getfield 16, 3) := by decide +kernel
theorem dX8_leave_38 : decode cX8_leave 38 = .ok (.iload_n 1, 1) := by decide +kernel
theorem dX8_leave_39 : decode cX8_leave 39 = .ok (.bipush 13, 2) := by decide +kernel
theorem dX8_leave_41 : decode cX8_leave 41 = .ok (.iastore, 1) := by decide +kernel
theorem dX8_leave_42 : decode cX8_leave 42 = .ok (.aload_n 0, 1) := by decide +kernel
theorem dX8_leave_43 : decode cX8_leave 43 = .ok (.getfield 156, 3) := by decide +kernel
theorem dX8_leave_46 : decode cX8_leave 46 = .ok (.aload_n 0, 1) := by decide +kernel
theorem dX8_leave_47 : decode cX8_leave 47 = .ok (.getfield 19, 3) := by decide +kernel
theorem dX8_leave_50 : decode cX8_leave 50 = .ok (.iload_n 1, 1) := by decide +kernel
theorem dX8_leave_51 : decode cX8_leave 51 = .ok (.iaload, 1) := by decide +kernel
theorem dX8_leave_52 : decode cX8_leave 52 = .ok (.isub, 1) := by decide +kernel
theorem dX8_leave_53 : decode cX8_leave 53 = .ok (.ireturn, 1) := by decide +kernel
theorem dX8_sand_0 : decode cX8_sand 0 = .ok (.iload_n 1, 1) := by decide +kernel
theorem dX8_sand_1 : decode cX8_sand 1 = .ok (.i2l, 1) := by decide +kernel
theorem dX8_sand_2 : decode cX8_sand 2 = .ok (.lconst 0, 1) := by decide +kernel
theorem dX8_sand_3 : decode cX8_sand 3 = .ok (.ldc2_w 80, 3) := by decide +kernel
theorem dX8_sand_6 : decode cX8_sand 6 = .ok (.invokestatic 72, 3) := by decide +kernel
theorem dX8_sand_9 : decode cX8_sand 9 = .ok (.ifCond .ne 5, 3) := by decide +kernel
theorem dX8_sand_12 : decode cX8_sand 12 = .ok (.iconst (-1), 1) := by decide +kernel
theorem dX8_sand_13 : decode cX8_sand 13 = .ok (.ireturn, 1) := by decide +kernel
theorem dX8_sand_14 : decode cX8_sand 14 = .ok (.aload_n 0, 1) := by decide +kernel
theorem dX8_sand_15 : decode cX8_sand 15 = .ok (.getfield 22, 3) := by decide +kernel
theorem dX8_sand_18 : decode cX8_sand 18 = .ok (.aload_n 0, 1) := by decide +kernel
theorem dX8_sand_19 : decode cX8_sand 19 = .ok (.getfield 159, 3) := by decide +kernel
theorem dX8_sand_22 : decode cX8_sand 22 = .ok (.iaload, 1) := by decide +kernel
theorem dX8_sand_23 : decode cX8_sand 23 = .ok (.istore_n 2, 1) := by decide +kernel
theorem dX8_sand_24 : decode cX8_sand 24 = .ok (.aload_n 0, 1) := by decide +kernel
theorem dX8_sand_25 : decode cX8_sand 25 = .ok (.getfield 22, 3) := by decide +kernel
theorem dX8_sand_28 : decode cX8_sand 28 = .ok (.aload_n 0, 1) := by decide +kernel
theorem dX8_sand_29 : decode cX8_sand 29 = .ok (.getfield 159, 3) := by decide +kernel
theorem dX8_sand_32 : decode cX8_sand 32 = .ok (.iload_n 1, 1) := by decide +kernel
theorem dX8_sand_33 : decode cX8_sand 33 = .ok (.iastore, 1) := by decide +kernel
theorem dX8_sand_34 : decode cX8_sand 34 = .ok (.aload_n 0, 1) := by decide +kernel
theorem dX8_sand_35 : decode cX8_sand 35 = .ok (.invokevirtual 150, 3) := by decide +kernel
theorem dX8_sand_38 : decode cX8_sand 38 = .ok (.ifCond .ne 16, 3) := by decide +kernel
theorem dX8_sand_41 : decode cX8_sand 41 = .ok (.aload_n 0, 1) := by decide +kernel
theorem dX8_sand_42 : decode cX8_sand 42 = .ok (.getfield 22, 3) := by decide +kernel
theorem dX8_sand_45 : decode cX8_sand 45 = .ok (.aload_n 0, 1) := by decide +kernel
theorem dX8_sand_46 : decode cX8_sand 46 = .ok (.getfield 159, 3) := by decide +kernel
theorem dX8_sand_49 : decode cX8_sand 49 = .ok (.iload_n 2, 1) := by decide +kernel
theorem dX8_sand_50 : decode cX8_sand 50 = .ok (.iastore, 1) := by decide +kernel
theorem dX8_sand_51 : decode cX8_sand 51 = .ok (.bipush (-2), 2) := by decide +kernel
theorem dX8_sand_53 : decode cX8_sand 53 = .ok (.ireturn, 1) := by decide +kernel
theorem dX8_sand_54 : decode cX8_sand 54 = .ok (.iload_n 2, 1) := by decide +kernel
theorem dX8_sand_55 : decode cX8_sand 55 = .ok (.ireturn, 1) := by decide +kernel
theorem dX8_turn_0 : decode cX8_turn 0 = .ok (.iload_n 1, 1) := by decide +kernel
theorem dX8_turn_1 : decode cX8_turn 1 = .ok (.i2l, 1) := by decide +kernel
theorem dX8_turn_2 : decode cX8_turn 2 = .ok (.lconst 1, 1) := by decide +kernel
theorem dX8_turn_3 : decode cX8_turn 3 = .ok (.ldc2_w 227, 3) := by decide +kernel
theorem dX8_turn_6 : decode cX8_turn 6 = .ok (.invokestatic 72, 3) := by decide +kernel
theorem dX8_turn_9 : decode cX8_turn 9 = .ok (.ifCond .ne 5, 3) := by decide +kernel
theorem dX8_turn_12 : decode cX8_turn 12 = .ok (.iconst (-1), 1) := by decide +kernel
theorem dX8_turn_13 : decode cX8_turn 13 = .ok (.ireturn, 1) := by decide +kernel
theorem dX8_turn_14 : decode cX8_turn 14 = .ok (.aload_n 0, 1) := by decide +kernel
theorem dX8_turn_15 : decode cX8_turn 15 = .ok (.getfield 156, 3) := by decide +kernel
theorem dX8_turn_18 : decode cX8_turn 18 = .ok (.iload_n 1, 1) := by decide +kernel
theorem dX8_turn_19 : decode cX8_turn 19 = .ok (.iadd, 1) := by decide +kernel
theorem dX8_turn_20 : decode cX8_turn 20 = .ok (.sipush 999, 3) := by decide +kernel
theorem dX8_turn_23 : decode cX8_turn 23 = .ok (.if_icmp .le 6, 3) := by decide +kernel
theorem dX8_turn_26 : decode cX8_turn 26 = .ok (.bipush (-3), 2) := by decide +kernel
theorem dX8_turn_28 : decode cX8_turn 28 = .ok (.ireturn, 1) := by decide +kernel
theorem dX8_turn_29 : decode cX8_turn 29 = .ok (.aload_n 0, 1) := by decide +kernel
theorem dX8_turn_30 : decode cX8_turn 30 = .ok (.dup, 1) := by decide +kernel
theorem dX8_turn_31 : decode cX8_turn 31 = .ok (.getfield 156, 3) := by decide +kernel
theorem dX8_turn_34 : decode cX8_turn 34 = .ok (.iload_n 1, 1) := by decide +kernel
theorem dX8_turn_35 : decode cX8_turn 35 = .ok (.iadd, 1) := by decide +kernel
theorem dX8_turn_36 : decode cX8_turn 36 = .ok (.putfield 156, 3) := by decide +kernel
theorem dX8_turn_39 : decode cX8_turn 39 = .ok (.aload_n 0, 1) := by decide +kernel
theorem dX8_turn_40 : decode cX8_turn 40 = .ok (.aload_n 0, 1) := by decide +kernel
theorem dX8_turn_41 : decode cX8_turn 41 = .ok (.getfield 159, 3) := by decide +kernel
theorem dX8_turn_44 : decode cX8_turn 44 = .ok (.iload_n 1, 1) := by decide +kernel
theorem dX8_turn_45 : decode cX8_turn 45 = .ok (.iadd, 1) := by decide +kernel
theorem dX8_turn_46 : decode cX8_turn 46 = .ok (.bipush 12, 2) := by decide +kernel
theorem dX8_turn_48 : decode cX8_turn 48 = .ok (.irem, 1) := by decide +kernel
theorem dX8_turn_49 : decode cX8_turn 49 = .ok (.putfield 159, 3) := by decide +kernel
theorem dX8_turn_52 : decode cX8_turn 52 = .ok (.aload_n 0, 1) := by decide +kernel
theorem dX8_turn_53 : decode cX8_turn 53 = .ok (.getfield 156, 3) := by decide +kernel
theorem dX8_turn_56 : decode cX8_turn 56 = .ok (.ireturn, 1) := by decide +kernel
theorem dX8_may_0 : decode cX8_may 0 = .ok (.iload_n 1, 1) := by decide +kernel
theorem dX8_may_1 : decode cX8_may 1 = .ok (.i2l, 1) := by decide +kernel
theorem dX8_may_2 : decode cX8_may 2 = .ok (.lconst 0, 1) := by decide +kernel
theorem dX8_may_3 : decode cX8_may 3 = .ok (.lconst 1, 1) := by decide +kernel
theorem dX8_may_4 : decode cX8_may 4 = .ok (.invokestatic 72, 3) := by decide +kernel
theorem dX8_may_7 : decode cX8_may 7 = .ok (.ifCond .ne 5, 3) := by decide +kernel
theorem dX8_may_10 : decode cX8_may 10 = .ok (.iconst (-1), 1) := by decide +kernel
theorem dX8_may_11 : decode cX8_may 11 = .ok (.ireturn, 1) := by decide +kernel
theorem dX8_may_12 : decode cX8_may 12 = .ok (.iconst 0, 1) := by decide +kernel
theorem dX8_may_13 : decode cX8_may 13 = .ok (.istore_n 2, 1) := by decide +kernel
theorem dX8_may_14 : decode cX8_may 14 = .ok (.iconst 0, 1) := by decide +kernel
theorem dX8_may_15 : decode cX8_may 15 = .ok (.istore_n 3, 1) := by decide +kernel
theorem dX8_may_16 : decode cX8_may 16 = .ok (.iload_n 3, 1) := by decide +kernel
theorem dX8_may_17 : decode cX8_may 17 = .ok (.aload_n 0, 1) := by decide +kernel
theorem dX8_may_18 : decode cX8_may 18 = .ok (.getfield 69, 3) := by decide +kernel
theorem dX8_may_21 : decode cX8_may 21 = .ok (.if_icmp .ge 83, 3) := by decide +kernel
theorem dX8_may_24 : decode cX8_may 24 = .ok (.iload_n 1, 1) := by decide +kernel
theorem dX8_may_25 : decode cX8_may 25 = .ok (.ifCond .ne 30, 3) := by decide +kernel
theorem dX8_may_28 : decode cX8_may 28 = .ok (.aload_n 0, 1) := by decide +kernel
theorem dX8_may_29 : decode cX8_may 29 = .ok (.getfield 16, 3) := by decide +kernel
theorem dX8_may_32 : decode cX8_may 32 = .ok (.iload_n 3, 1) := by decide +kernel
theorem dX8_may_33 : decode cX8_may 33 = .ok (.iaload, 1) := by decide +kernel
theorem dX8_may_34 : decode cX8_may 34 = .ok (.bipush 12, 2) := by decide +kernel
theorem dX8_may_36 : decode cX8_may 36 = .ok (.if_icmp .ne 15, 3) := by decide +kernel
theorem dX8_may_39 : decode cX8_may 39 = .ok (.aload_n 0, 1) := by decide +kernel
theorem dX8_may_40 : decode cX8_may 40 = .ok (.iload_n 3, 1) := by decide +kernel
theorem dX8_may_41 : decode cX8_may 41 = .ok (.invokevirtual 221, 3) := by decide +kernel
theorem dX8_may_44 : decode cX8_may 44 = .ok (.ifCond .eq 7, 3) := by decide +kernel
theorem dX8_may_47 : decode cX8_may 47 = .ok (.iconst 1, 1) := by decide +kernel
theorem dX8_may_48 : decode cX8_may 48 = .ok (.goto 33, 3) := by decide +kernel
theorem dX8_may_51 : decode cX8_may 51 = .ok (.iconst 0, 1) := by decide +kernel
theorem dX8_may_52 : decode cX8_may 52 = .ok (.goto 29, 3) := by decide +kernel
theorem dX8_may_55 : decode cX8_may 55 = .ok (.aload_n 0, 1) := by decide +kernel
theorem dX8_may_56 : decode cX8_may 56 = .ok (.getfield 16, 3) := by decide +kernel
theorem dX8_may_59 : decode cX8_may 59 = .ok (.iload_n 3, 1) := by decide +kernel
theorem dX8_may_60 : decode cX8_may 60 = .ok (.iaload, 1) := by decide +kernel
theorem dX8_may_61 : decode cX8_may 61 = .ok (.aload_n 0, 1) := by decide +kernel
theorem dX8_may_62 : decode cX8_may 62 = .ok (.getfield 159, 3) := by decide +kernel
theorem dX8_may_65 : decode cX8_may 65 = .ok (.if_icmp .ne 15, 3) := by decide +kernel
theorem dX8_may_68 : decode cX8_may 68 = .ok (.aload_n 0, 1) := by decide +kernel
theorem dX8_may_69 : decode cX8_may 69 = .ok (.iload_n 3, 1) := by decide +kernel
theorem dX8_may_70 : decode cX8_may 70 = .ok (.invokevirtual 224, 3) := by decide +kernel
theorem dX8_may_73 : decode cX8_may 73 = .ok (.ifCond .eq 7, 3) := by decide +kernel
theorem dX8_may_76 : decode cX8_may 76 = .ok (.iconst 1, 1) := by decide +kernel
theorem dX8_may_77 : decode cX8_may 77 = .ok (.goto 4, 3) := by decide +kernel
theorem dX8_may_80 : decode cX8_may 80 = .ok (.iconst 0, 1) := by decide +kernel
theorem dX8_may_81 : decode cX8_may 81 = .ok (.istore 4, 2) := by decide +kernel
theorem dX8_may_83 : decode cX8_may 83 = .ok (.iload_n 2, 1) := by decide +kernel
theorem dX8_may_84 : decode cX8_may 84 = .ok (.iload 4, 2) := by decide +kernel
theorem dX8_may_86 : decode cX8_may 86 = .ok (.ifCond .eq 9, 3) := by decide +kernel
theorem dX8_may_89 : decode cX8_may 89 = .ok (.iconst 1, 1) := by decide +kernel
theorem dX8_may_90 : decode cX8_may 90 = .ok (.iload_n 3, 1) := by decide +kernel
theorem dX8_may_91 : decode cX8_may 91 = .ok (.ishl, 1) := by decide +kernel
theorem dX8_may_92 : decode cX8_may 92 = .ok (.goto 4, 3) := by decide +kernel
theorem dX8_may_95 : decode cX8_may 95 = .ok (.iconst 0, 1) := by decide +kernel
theorem dX8_may_96 : decode cX8_may 96 = .ok (.ior, 1) := by decide +kernel
theorem dX8_may_97 : decode cX8_may 97 = .ok (.istore_n 2, 1) := by decide +kernel
theorem dX8_may_98 : decode cX8_may 98 = .ok (.iinc 3 1, 3) := by decide +kernel
theorem dX8_may_101 : decode cX8_may 101 = .ok (.goto (-85), 3) := by decide +kernel
theorem dX8_may_104 : decode cX8_may 104 = .ok (.iload_n 2, 1) := by decide +kernel
theorem dX8_may_105 : decode cX8_may 105 = .ok (.ireturn, 1) := by decide +kernel
theorem dX8_ones_0 : decode cX8_ones 0 = .ok (.iconst 0, 1) := by decide +kernel
theorem dX8_ones_1 : decode cX8_ones 1 = .ok (.istore_n 1, 1) := by decide +kernel
theorem dX8_ones_2 : decode cX8_ones 2 = .ok (.iload_n 0, 1) := by decide +kernel
theorem dX8_ones_3 : decode cX8_ones 3 = .ok (.istore_n 2, 1) := by decide +kernel
theorem dX8_ones_4 : decode cX8_ones 4 = .ok (.iload_n 2, 1) := by decide +kernel
theorem dX8_ones_5 : decode cX8_ones 5 = .ok (.ifCond .eq 15, 3) := by decide +kernel
theorem dX8_ones_8 : decode cX8_ones 8 = .ok (.iinc 1 1, 3) := by decide +kernel
theorem dX8_ones_11 : decode cX8_ones 11 = .ok (.iload_n 2, 1) := by decide +kernel
theorem dX8_ones_12 : decode cX8_ones 12 = .ok (.iload_n 2, 1) := by decide +kernel
theorem dX8_ones_13 : decode cX8_ones 13 = .ok (.iconst 1, 1) := by decide +kernel
theorem dX8_ones_14 : decode cX8_ones 14 = .ok (.isub, 1) := by decide +kernel
theorem dX8_ones_15 : decode cX8_ones 15 = .ok (.iand, 1) := by decide +kernel
theorem dX8_ones_16 : decode cX8_ones 16 = .ok (.istore_n 2, 1) := by decide +kernel
theorem dX8_ones_17 : decode cX8_ones 17 = .ok (.goto (-13), 3) := by decide +kernel
theorem dX8_ones_20 : decode cX8_ones 20 = .ok (.iload_n 1, 1) := by decide +kernel
theorem dX8_ones_21 : decode cX8_ones 21 = .ok (.ireturn, 1) := by decide +kernel
theorem dX8_isAllIn_0 : decode cX8_isAllIn 0 = .ok (.iload_n 1, 1) := by decide +kernel
theorem dX8_isAllIn_1 : decode cX8_isAllIn 1 = .ok (.ifCond .le 49, 3) := by decide +kernel
theorem dX8_isAllIn_4 : decode cX8_isAllIn 4 = .ok (.iload_n 1, 1) := by decide +kernel
theorem dX8_isAllIn_5 : decode cX8_isAllIn 5 = .ok (.iconst 1, 1) := by decide +kernel
theorem dX8_isAllIn_6 : decode cX8_isAllIn 6 = .ok (.aload_n 0, 1) := by decide +kernel
theorem dX8_isAllIn_7 : decode cX8_isAllIn 7 = .ok (.getfield 69, 3) := by decide +kernel
theorem dX8_isAllIn_10 : decode cX8_isAllIn 10 = .ok (.ishl, 1) := by decide +kernel
theorem dX8_isAllIn_11 : decode cX8_isAllIn 11 = .ok (.if_icmp .ge 39, 3) := by decide +kernel
theorem dX8_isAllIn_14 : decode cX8_isAllIn 14 = .ok (.iload_n 1, 1) := by decide +kernel
theorem dX8_isAllIn_15 : decode cX8_isAllIn 15 = .ok (.invokestatic 229, 3) := by decide +kernel
theorem dX8_isAllIn_18 : decode cX8_isAllIn 18 = .ok (.iconst 4, 1) := by decide +kernel
theorem dX8_isAllIn_19 : decode cX8_isAllIn 19 = .ok (.if_icmp .gt 31, 3) := by decide +kernel
theorem dX8_isAllIn_22 : decode cX8_isAllIn 22 = .ok (.aload_n 0, 1) := by decide +kernel
theorem dX8_isAllIn_23 : decode cX8_isAllIn 23 = .ok (.bipush 12, 2) := by decide +kernel
theorem dX8_isAllIn_25 : decode cX8_isAllIn 25 = .ok (.invokevirtual 101, 3) := by decide +kernel
theorem dX8_isAllIn_28 : decode cX8_isAllIn 28 = .ok (.iload_n 1, 1) := by decide +kernel
theorem dX8_isAllIn_29 : decode cX8_isAllIn 29 = .ok (.iand, 1) := by decide +kernel
theorem dX8_isAllIn_30 : decode cX8_isAllIn 30 = .ok (.iload_n 1, 1) := by decide +kernel
theorem dX8_isAllIn_31 : decode cX8_isAllIn 31 = .ok (.if_icmp .ne 19, 3) := by decide +kernel
theorem dX8_isAllIn_34 : decode cX8_isAllIn 34 = .ok (.iload_n 2, 1) := by decide +kernel
theorem dX8_isAllIn_35 : decode cX8_isAllIn 35 = .ok (.i2l, 1) := by decide +kernel
theorem dX8_isAllIn_36 : decode cX8_isAllIn 36 = .ok (.lconst 0, 1) := by decide +kernel
theorem dX8_isAllIn_37 : decode cX8_isAllIn 37 = .ok (.ldc2_w 127, 3) := by decide +kernel
theorem dX8_isAllIn_40 : decode cX8_isAllIn 40 = .ok (.invokestatic 72, 3) := by decide +kernel
theorem dX8_isAllIn_43 : decode cX8_isAllIn 43 = .ok (.ifCond .eq 7, 3) := by decide +kernel
theorem dX8_isAllIn_46 : decode cX8_isAllIn 46 = .ok (.iconst 1, 1) := by decide +kernel
theorem dX8_isAllIn_47 : decode cX8_isAllIn 47 = .ok (.goto 4, 3) := by decide +kernel
theorem dX8_isAllIn_50 : decode cX8_isAllIn 50 = .ok (.iconst 0, 1) := by decide +kernel
theorem dX8_isAllIn_51 : decode cX8_isAllIn 51 = .ok (.ireturn, 1) := by decide +kernel
theorem dX8_areSo_0 : decode cX8_areSo 0 = .ok (.iconst 1, 1) := by decide +kernel
theorem dX8_areSo_1 : decode cX8_areSo 1 = .ok (.istore_n 2, 1) := by decide +kernel
theorem dX8_areSo_2 : decode cX8_areSo 2 = .ok (.iconst 1, 1) := by decide +kernel
theorem dX8_areSo_3 : decode cX8_areSo 3 = .ok (.istore_n 3, 1) := by decide +kernel
theorem dX8_areSo_4 : decode cX8_areSo 4 = .ok (.iload_n 3, 1) := by decide +kernel
theorem dX8_areSo_5 : decode cX8_areSo 5 = .ok (.aload_n 0, 1) := by decide +kernel
theorem dX8_areSo_6 : decode cX8_areSo 6 = .ok (.getfield 232, 3) := by decide +kernel
theorem dX8_areSo_9 : decode cX8_areSo 9 = .ok (.if_icmp .ge 65, 3) := by decide +kernel
theorem dX8_areSo_12 : decode cX8_areSo 12 = .ok (.iload_n 2, 1) := by decide +kernel
theorem dX8_areSo_13 : decode cX8_areSo 13 = .ok (.ifCond .eq 53, 3) := by decide +kernel
theorem dX8_areSo_16 : decode cX8_areSo 16 = .ok (.iload_n 1, 1) := by decide +kernel
theorem dX8_areSo_17 : decode cX8_areSo 17 = .ok (.ifCond .eq 45, 3) := by decide +kernel
theorem dX8_areSo_20 : decode cX8_areSo 20 = .ok (.iload_n 1, 1) := by decide +kernel
theorem dX8_areSo_21 : decode cX8_areSo 21 = .ok (.iconst 1, 1) := by decide +kernel
theorem dX8_areSo_22 : decode cX8_areSo 22 = .ok (.if_icmp .ne 23, 3) := by decide +kernel
theorem dX8_areSo_25 : decode cX8_areSo 25 = .ok (.aload_n 0, 1) := by decide +kernel
theorem dX8_areSo_26 : decode cX8_areSo 26 = .ok (.getfield 41, 3) := by decide +kernel
theorem dX8_areSo_29 : decode cX8_areSo 29 = .ok (.iload_n 3, 1) := by decide +kernel
theorem dX8_areSo_30 : decode cX8_areSo 30 = .ok (.iaload, 1) := by decide +kernel
theorem dX8_areSo_31 : decode cX8_areSo 31 = .ok (.aload_n 0, 1) := by decide +kernel
theorem dX8_areSo_32 : decode cX8_areSo 32 = .ok (.getfield 41, 3) := by decide +kernel
theorem dX8_areSo_35 : decode cX8_areSo 35 = .ok (.iload_n 3, 1) := by decide +kernel
theorem dX8_areSo_36 : decode cX8_areSo 36 = .ok (.iconst 1, 1) := by decide +kernel
theorem dX8_areSo_37 : decode cX8_areSo 37 = .ok (.isub, 1) := by decide +kernel
theorem dX8_areSo_38 : decode cX8_areSo 38 = .ok (.iaload, 1) := by decide +kernel
theorem dX8_areSo_39 : decode cX8_areSo 39 = .ok (.if_icmp .lt 27, 3) := by decide +kernel
theorem dX8_areSo_42 : decode cX8_areSo 42 = .ok (.goto 20, 3) := by decide +kernel
theorem dX8_areSo_45 : decode cX8_areSo 45 = .ok (.aload_n 0, 1) := by decide +kernel
theorem dX8_areSo_46 : decode cX8_areSo 46 = .ok (.getfield 41, 3) := by decide +kernel
theorem dX8_areSo_49 : decode cX8_areSo 49 = .ok (.iload_n 3, 1) := by decide +kernel
theorem dX8_areSo_50 : decode cX8_areSo 50 = .ok (.iaload, 1) := by decide +kernel
theorem dX8_areSo_51 : decode cX8_areSo 51 = .ok (.aload_n 0, 1) := by decide +kernel
theorem dX8_areSo_52 : decode cX8_areSo 52 = .ok (.getfield 41, 3) := by decide +kernel
theorem dX8_areSo_55 : decode cX8_areSo 55 = .ok (.iload_n 3, 1) := by decide +kernel
theorem dX8_areSo_56 : decode cX8_areSo 56 = .ok (.iconst 1, 1) := by decide +kernel
theorem dX8_areSo_57 : decode cX8_areSo 57 = .ok (.isub, 1) := by decide +kernel
theorem dX8_areSo_58 : decode cX8_areSo 58 = .ok (.iaload, 1) := by decide +kernel
theorem dX8_areSo_59 : decode cX8_areSo 59 = .ok (.if_icmp .ne 7, 3) := by decide +kernel
theorem dX8_areSo_62 : decode cX8_areSo 62 = .ok (.iconst 1, 1) := by decide +kernel
theorem dX8_areSo_63 : decode cX8_areSo 63 = .ok (.goto 4, 3) := by decide +kernel
theorem dX8_areSo_66 : decode cX8_areSo 66 = .ok (.iconst 0, 1) := by decide +kernel
theorem dX8_areSo_67 : decode cX8_areSo 67 = .ok (.istore_n 2, 1) := by decide +kernel
theorem dX8_areSo_68 : decode cX8_areSo 68 = .ok (.iinc 3 1, 3) := by decide +kernel
theorem dX8_areSo_71 : decode cX8_areSo 71 = .ok (.goto (-67), 3) := by decide +kernel
theorem dX8_areSo_74 : decode cX8_areSo 74 = .ok (.iload_n 2, 1) := by decide +kernel
theorem dX8_areSo_75 : decode cX8_areSo 75 = .ok (.ireturn, 1) := by decide +kernel
theorem dX8_canBoard_0 : decode cX8_canBoard 0 = .ok (.aload_n 0, 1) := by decide +kernel
theorem dX8_canBoard_1 : decode cX8_canBoard 1 = .ok (.invokevirtual 141, 3) := by decide +kernel
theorem dX8_canBoard_4 : decode cX8_canBoard 4 = .ok (.iconst 1, 1) := by decide +kernel
theorem dX8_canBoard_5 : decode cX8_canBoard 5 = .ok (.istore_n 1, 1) := by decide +kernel
theorem dX8_canBoard_6 : decode cX8_canBoard 6 = .ok (.iconst 0, 1) := by decide +kernel
theorem dX8_canBoard_7 : decode cX8_canBoard 7 = .ok (.istore_n 2, 1) := by decide +kernel
theorem dX8_canBoard_8 : decode cX8_canBoard 8 = .ok (.iload_n 2, 1) := by decide +kernel
theorem dX8_canBoard_9 : decode cX8_canBoard 9 = .ok (.bipush 12, 2) := by decide +kernel
theorem dX8_canBoard_11 : decode cX8_canBoard 11 = .ok (.if_icmp .ge 118, 3) := by decide +kernel
theorem dX8_canBoard_14 : decode cX8_canBoard 14 = .ok (.iload_n 1, 1) := by decide +kernel
theorem dX8_canBoard_15 : decode cX8_canBoard 15 = .ok (.ifCond .eq 114, 3) := by decide +kernel
theorem dX8_canBoard_18 : decode cX8_canBoard 18 = .ok (.iconst 0, 1) := by decide +kernel
theorem dX8_canBoard_19 : decode cX8_canBoard 19 = .ok (.istore_n 3, 1) := by decide +kernel
theorem dX8_canBoard_20 : decode cX8_canBoard 20 = .ok (.iconst 0, 1) := by decide +kernel
theorem dX8_canBoard_21 : decode cX8_canBoard 21 = .ok (.istore 4, 2) := by decide +kernel
theorem dX8_canBoard_23 : decode cX8_canBoard 23 = .ok (.iload 4, 2) := by decide +kernel
theorem dX8_canBoard_25 : decode cX8_canBoard 25 = .ok (.aload_n 0, 1) := by decide +kernel
theorem dX8_canBoard_26 : decode cX8_canBoard 26 = .ok (.getfield 232, 3) := by decide +kernel
theorem dX8_canBoard_29 : decode cX8_canBoard 29 = .ok (.if_icmp .ge 36, 3) := by decide +kernel
theorem dX8_canBoard_32 : decode cX8_canBoard 32 = .ok (.iload_n 3, 1) := by decide +kernel
theorem dX8_canBoard_33 : decode cX8_canBoard 33 = .ok (.aload_n 0, 1) := by decide +kernel
theorem dX8_canBoard_34 : decode cX8_canBoard 34 = .ok (.getfield 41, 3) := by decide +kernel
theorem dX8_canBoard_37 : decode cX8_canBoard 37 = .ok (.iload 4, 2) := by decide +kernel
theorem dX8_canBoard_39 : decode cX8_canBoard 39 = .ok (.iaload, 1) := by decide +kernel
theorem dX8_canBoard_40 : decode cX8_canBoard 40 = .ok (.iload_n 2, 1) := by decide +kernel
theorem dX8_canBoard_41 : decode cX8_canBoard 41 = .ok (.if_icmp .ne 15, 3) := by decide +kernel
theorem dX8_canBoard_44 : decode cX8_canBoard 44 = .ok (.iconst 1, 1) := by decide +kernel
theorem dX8_canBoard_45 : decode cX8_canBoard 45 = .ok (.aload_n 0, 1) := by decide +kernel
theorem dX8_canBoard_46 : decode cX8_canBoard 46 = .ok (.getfield 38, 3) := by decide +kernel
theorem dX8_canBoard_49 : decode cX8_canBoard 49 = .ok (.iload 4, 2) := by decide +kernel
theorem dX8_canBoard_51 : decode cX8_canBoard 51 = .ok (.iaload, 1) := by decide +kernel
theorem dX8_canBoard_52 : decode cX8_canBoard 52 = .ok (.ishl, 1) := by decide +kernel
theorem dX8_canBoard_53 : decode cX8_canBoard 53 = .ok (.goto 4, 3) := by decide +kernel
theorem dX8_canBoard_56 : decode cX8_canBoard 56 = .ok (.iconst 0, 1) := by decide +kernel
theorem dX8_canBoard_57 : decode cX8_canBoard 57 = .ok (.ior, 1) := by decide +kernel
theorem dX8_canBoard_58 : decode cX8_canBoard 58 = .ok (.istore_n 3, 1) := by decide +kernel
theorem dX8_canBoard_59 : decode cX8_canBoard 59 = .ok (.iinc 4 1, 3) := by decide +kernel
theorem dX8_canBoard_62 : decode cX8_canBoard 62 = .ok (.goto (-39), 3) := by decide +kernel
theorem dX8_canBoard_65 : decode cX8_canBoard 65 = .ok (.iload_n 3, 1) := by decide +kernel
theorem dX8_canBoard_66 : decode cX8_canBoard 66 = .ok (.ifCond .eq 57, 3) := by decide +kernel
theorem dX8_canBoard_69 : decode cX8_canBoard 69 = .ok (.aload_n 0, 1) := by decide +kernel
theorem dX8_canBoard_70 : decode cX8_canBoard 70 = .ok (.getfield 159, 3) := by decide +kernel
theorem dX8_canBoard_73 : decode cX8_canBoard 73 = .ok (.iload_n 2, 1) := by decide +kernel
theorem dX8_canBoard_74 : decode cX8_canBoard 74 = .ok (.iadd, 1) := by decide +kernel
theorem dX8_canBoard_75 : decode cX8_canBoard 75 = .ok (.bipush 12, 2) := by decide +kernel
theorem dX8_canBoard_77 : decode cX8_canBoard 77 = .ok (.irem, 1) := by decide +kernel
theorem dX8_canBoard_78 : decode cX8_canBoard 78 = .ok (.istore 4, 2) := by decide +kernel
theorem dX8_canBoard_80 : decode cX8_canBoard 80 = .ok (.aload_n 0, 1) := by decide +kernel
theorem dX8_canBoard_81 : decode cX8_canBoard 81 = .ok (.getfield 29, 3) := by decide +kernel
theorem dX8_canBoard_84 : decode cX8_canBoard 84 = .ok (.iload 4, 2) := by decide +kernel
theorem dX8_canBoard_86 : decode cX8_canBoard 86 = .ok (.dup2, 1) := by decide +kernel
theorem dX8_canBoard_87 : decode cX8_canBoard 87 = .ok (.iaload, 1) := by decide +kernel
theorem dX8_canBoard_88 : decode cX8_canBoard 88 = .ok (.aload_n 0, 1) := by decide +kernel
theorem dX8_canBoard_89 : decode cX8_canBoard 89 = .ok (.iload_n 3, 1) := by decide +kernel
theorem dX8_canBoard_90 : decode cX8_canBoard 90 = .ok (.invokevirtual 104, 3) := by decide +kernel
theorem dX8_canBoard_93 : decode cX8_canBoard 93 = .ok (.iadd, 1) := by decide +kernel
theorem dX8_canBoard_94 : decode cX8_canBoard 94 = .ok (.iastore, 1) := by decide +kernel
theorem dX8_canBoard_95 : decode cX8_canBoard 95 = .ok (.aload_n 0, 1) := by decide +kernel
theorem dX8_canBoard_96 : decode cX8_canBoard 96 = .ok (.aload_n 0, 1) := by decide +kernel
theorem dX8_canBoard_97 : decode cX8_canBoard 97 = .ok (.iload 4, 2) := by decide +kernel
theorem dX8_canBoard_99 : decode cX8_canBoard 99 = .ok (.invokevirtual 101, 3) := by decide +kernel
theorem dX8_canBoard_102 : decode cX8_canBoard 102 = .ok (.iload_n 3, 1) := by decide +kernel
theorem dX8_canBoard_103 : decode cX8_canBoard 103 = .ok (.ior, 1) := by decide +kernel
theorem dX8_canBoard_104 : decode cX8_canBoard 104 = .ok (.invokevirtual 218, 3) := by decide +kernel
theorem dX8_canBoard_107 : decode cX8_canBoard 107 = .ok (.ifCond .eq 14, 3) := by decide +kernel
theorem dX8_canBoard_110 : decode cX8_canBoard 110 = .ok (.aload_n 0, 1) := by decide +kernel
theorem dX8_canBoard_111 : decode cX8_canBoard 111 = .ok (.invokevirtual 144, 3) := by decide +kernel
theorem dX8_canBoard_114 : decode cX8_canBoard 114 = .ok (.ifCond .eq 7, 3) := by decide +kernel
theorem dX8_canBoard_117 : decode cX8_canBoard 117 = .ok (.iconst 1, 1) := by decide +kernel
theorem dX8_canBoard_118 : decode cX8_canBoard 118 = .ok (.goto 4, 3) := by decide +kernel
theorem dX8_canBoard_121 : decode cX8_canBoard 121 = .ok (.iconst 0, 1) := by decide +kernel
theorem dX8_canBoard_122 : decode cX8_canBoard 122 = .ok (.istore_n 1, 1) := by decide +kernel
theorem dX8_canBoard_123 : decode cX8_canBoard 123 = .ok (.iinc 2 1, 3) := by decide +kernel
theorem dX8_canBoard_126 : decode cX8_canBoard 126 = .ok (.goto (-118), 3) := by decide +kernel
theorem dX8_canBoard_129 : decode cX8_canBoard 129 = .ok (.iload_n 1, 1) := by decide +kernel
theorem dX8_canBoard_130 : decode cX8_canBoard 130 = .ok (.ireturn, 1) := by decide +kernel
theorem dX8_nextTimes_0 : decode cX8_nextTimes 0 = .ok (.aload_n 0, 1) := by decide +kernel
theorem dX8_nextTimes_1 : decode cX8_nextTimes 1 = .ok (.getfield 232, 3) := by decide +kernel
theorem dX8_nextTimes_4 : decode cX8_nextTimes 4 = .ok (.iconst 1, 1) := by decide +kernel
theorem dX8_nextTimes_5 : decode cX8_nextTimes 5 = .ok (.isub, 1) := by decide +kernel
theorem dX8_nextTimes_6 : decode cX8_nextTimes 6 = .ok (.istore_n 1, 1) := by decide +kernel
theorem dX8_nextTimes_7 : decode cX8_nextTimes 7 = .ok (.iload_n 1, 1) := by decide +kernel
theorem dX8_nextTimes_8 : decode cX8_nextTimes 8 = .ok (.ifCond .lt 39, 3) := by decide +kernel
theorem dX8_nextTimes_11 : decode cX8_nextTimes 11 = .ok (.aload_n 0, 1) := by decide +kernel
theorem dX8_nextTimes_12 : decode cX8_nextTimes 12 = .ok (.getfield 41, 3) := by decide +kernel
theorem dX8_nextTimes_15 : decode cX8_nextTimes 15 = .ok (.iload_n 1, 1) := by decide +kernel
theorem dX8_nextTimes_16 : decode cX8_nextTimes 16 = .ok (.dup2, 1) := by decide +kernel
theorem dX8_nextTimes_17 : decode cX8_nextTimes 17 = .ok (.iaload, 1) := by decide +kernel
theorem dX8_nextTimes_18 : decode cX8_nextTimes 18 = .ok (.iconst 1, 1) := by decide +kernel
theorem dX8_nextTimes_19 : decode cX8_nextTimes 19 = .ok (.iadd, 1) := by decide +kernel
theorem dX8_nextTimes_20 : decode cX8_nextTimes 20 = .ok (.iastore, 1) := by decide +kernel
theorem dX8_nextTimes_21 : decode cX8_nextTimes 21 = .ok (.aload_n 0, 1) := by decide +kernel
theorem dX8_nextTimes_22 : decode cX8_nextTimes 22 = .ok (.getfield 41, 3) := by decide +kernel
theorem dX8_nextTimes_25 : decode cX8_nextTimes 25 = .ok (.iload_n 1, 1) := by decide +kernel
theorem dX8_nextTimes_26 : decode cX8_nextTimes 26 = .ok (.iaload, 1) := by decide +kernel
theorem dX8_nextTimes_27 : decode cX8_nextTimes 27 = .ok (.bipush 12, 2) := by decide +kernel
theorem dX8_nextTimes_29 : decode cX8_nextTimes 29 = .ok (.if_icmp .ge 5, 3) := by decide +kernel
theorem dX8_nextTimes_32 : decode cX8_nextTimes 32 = .ok (.iconst 1, 1) := by decide +kernel
theorem dX8_nextTimes_33 : decode cX8_nextTimes 33 = .ok (.ireturn, 1) := by decide +kernel
theorem dX8_nextTimes_34 : decode cX8_nextTimes 34 = .ok (.aload_n 0, 1) := by decide +kernel
theorem dX8_nextTimes_35 : decode cX8_nextTimes 35 = .ok (.getfield 41, 3) := by decide +kernel
theorem dX8_nextTimes_38 : decode cX8_nextTimes 38 = .ok (.iload_n 1, 1) := by decide +kernel
theorem dX8_nextTimes_39 : decode cX8_nextTimes 39 = .ok (.iconst 0, 1) := by decide +kernel
theorem dX8_nextTimes_40 : decode cX8_nextTimes 40 = .ok (.iastore, 1) := by decide +kernel
theorem dX8_nextTimes_41 : decode cX8_nextTimes 41 = .ok (.iinc 1 (-1), 3) := by decide +kernel
theorem dX8_nextTimes_44 : decode cX8_nextTimes 44 = .ok (.goto (-37), 3) := by decide +kernel
theorem dX8_nextTimes_47 : decode cX8_nextTimes 47 = .ok (.iconst 0, 1) := by decide +kernel
theorem dX8_nextTimes_48 : decode cX8_nextTimes 48 = .ok (.ireturn, 1) := by decide +kernel
theorem dX8_findSoonest_0 : decode cX8_findSoonest 0 = .ok (.aload_n 0, 1) := by decide +kernel
theorem dX8_findSoonest_1 : decode cX8_findSoonest 1 = .ok (.iconst 0, 1) := by decide +kernel
theorem dX8_findSoonest_2 : decode cX8_findSoonest 2 = .ok (.putfield 232, 3) := by decide +kernel
theorem dX8_findSoonest_5 : decode cX8_findSoonest 5 = .ok (.iconst 0, 1) := by decide +kernel
theorem dX8_findSoonest_6 : decode cX8_findSoonest 6 = .ok (.istore_n 3, 1) := by decide +kernel
theorem dX8_findSoonest_7 : decode cX8_findSoonest 7 = .ok (.iload_n 3, 1) := by decide +kernel
theorem dX8_findSoonest_8 : decode cX8_findSoonest 8 = .ok (.aload_n 0, 1) := by decide +kernel
theorem dX8_findSoonest_9 : decode cX8_findSoonest 9 = .ok (.getfield 69, 3) := by decide +kernel
theorem dX8_findSoonest_12 : decode cX8_findSoonest 12 = .ok (.if_icmp .ge 47, 3) := by decide +kernel
theorem dX8_findSoonest_15 : decode cX8_findSoonest 15 = .ok (.iload_n 1, 1) := by decide +kernel
theorem dX8_findSoonest_16 : decode cX8_findSoonest 16 = .ok (.iload_n 3, 1) := by decide +kernel
theorem dX8_findSoonest_17 : decode cX8_findSoonest 17 = .ok (.invokestatic 90, 3) := by decide +kernel
theorem dX8_findSoonest_20 : decode cX8_findSoonest 20 = .ok (.ifCond .eq 33, 3) := by decide +kernel
theorem dX8_findSoonest_23 : decode cX8_findSoonest 23 = .ok (.aload_n 0, 1) := by decide +kernel
theorem dX8_findSoonest_24 : decode cX8_findSoonest 24 = .ok (.getfield 38, 3) := by decide +kernel
theorem dX8_findSoonest_27 : decode cX8_findSoonest 27 = .ok (.aload_n 0, 1) := by decide +kernel
theorem dX8_findSoonest_28 : decode cX8_findSoonest 28 = .ok (.getfield 232, 3) := by decide +kernel
theorem dX8_findSoonest_31 : decode cX8_findSoonest 31 = .ok (.iload_n 3, 1) := by decide +kernel
theorem dX8_findSoonest_32 : decode cX8_findSoonest 32 = .ok (.iastore, 1) := by decide +kernel
theorem dX8_findSoonest_33 : decode cX8_findSoonest 33 = .ok (.aload_n 0, 1) := by decide +kernel
theorem dX8_findSoonest_34 : decode cX8_findSoonest 34 = .ok (.getfield 41, 3) := by decide +kernel
theorem dX8_findSoonest_37 : decode cX8_findSoonest 37 = .ok (.aload_n 0, 1) := by decide +kernel
theorem dX8_findSoonest_38 : decode cX8_findSoonest 38 = .ok (.getfield 232, 3) := by decide +kernel
theorem dX8_findSoonest_41 : decode cX8_findSoonest 41 = .ok (.iconst 0, 1) := by decide +kernel
theorem dX8_findSoonest_42 : decode cX8_findSoonest 42 = .ok (.iastore, 1) := by decide +kernel
theorem dX8_findSoonest_43 : decode cX8_findSoonest 43 = .ok (.aload_n 0, 1) := by decide +kernel
theorem dX8_findSoonest_44 : decode cX8_findSoonest 44 = .ok (.dup, 1) := by decide +kernel
theorem dX8_findSoonest_45 : decode cX8_findSoonest 45 = .ok (.getfield 232, 3) := by decide +kernel
theorem dX8_findSoonest_48 : decode cX8_findSoonest 48 = .ok (.iconst 1, 1) := by decide +kernel
theorem dX8_findSoonest_49 : decode cX8_findSoonest 49 = .ok (.iadd, 1) := by decide +kernel
theorem dX8_findSoonest_50 : decode cX8_findSoonest 50 = .ok (.putfield 232, 3) := by decide +kernel
theorem dX8_findSoonest_53 : decode cX8_findSoonest 53 = .ok (.iinc 3 1, 3) := by decide +kernel
theorem dX8_findSoonest_56 : decode cX8_findSoonest 56 = .ok (.goto (-49), 3) := by decide +kernel
theorem dX8_findSoonest_59 : decode cX8_findSoonest 59 = .ok (.bipush 12, 2) := by decide +kernel
theorem dX8_findSoonest_61 : decode cX8_findSoonest 61 = .ok (.istore_n 3, 1) := by decide +kernel
theorem dX8_findSoonest_62 : decode cX8_findSoonest 62 = .ok (.iconst 1, 1) := by decide +kernel
theorem dX8_findSoonest_63 : decode cX8_findSoonest 63 = .ok (.istore 4, 2) := by decide +kernel
theorem dX8_findSoonest_65 : decode cX8_findSoonest 65 = .ok (.iload 4, 2) := by decide +kernel
theorem dX8_findSoonest_67 : decode cX8_findSoonest 67 = .ok (.ifCond .eq 115, 3) := by decide +kernel
theorem dX8_findSoonest_70 : decode cX8_findSoonest 70 = .ok (.iconst 0, 1) := by decide +kernel
theorem dX8_findSoonest_71 : decode cX8_findSoonest 71 = .ok (.istore 5, 2) := by decide +kernel
theorem dX8_findSoonest_73 : decode cX8_findSoonest 73 = .ok (.iconst 0, 1) := by decide +kernel
theorem dX8_findSoonest_74 : decode cX8_findSoonest 74 = .ok (.istore 6, 2) := by decide +kernel
theorem dX8_findSoonest_76 : decode cX8_findSoonest 76 = .ok (.iload 6, 2) := by decide +kernel
theorem dX8_findSoonest_78 : decode cX8_findSoonest 78 = .ok (.aload_n 0, 1) := by decide +kernel
theorem dX8_findSoonest_79 : decode cX8_findSoonest 79 = .ok (.getfield 232, 3) := by decide +kernel
theorem dX8_findSoonest_82 : decode cX8_findSoonest 82 = .ok (.if_icmp .ge 35, 3) := by decide +kernel
theorem dX8_findSoonest_85 : decode cX8_findSoonest 85 = .ok (.aload_n 0, 1) := by decide +kernel
theorem dX8_findSoonest_86 : decode cX8_findSoonest 86 = .ok (.getfield 41, 3) := by decide +kernel
theorem dX8_findSoonest_89 : decode cX8_findSoonest 89 = .ok (.iload 6, 2) := by decide +kernel
theorem dX8_findSoonest_91 : decode cX8_findSoonest 91 = .ok (.iaload, 1) := by decide +kernel
theorem dX8_findSoonest_92 : decode cX8_findSoonest 92 = .ok (.iload 5, 2) := by decide +kernel
theorem dX8_findSoonest_94 : decode cX8_findSoonest 94 = .ok (.if_icmp .le 13, 3) := by decide +kernel
theorem dX8_findSoonest_97 : decode cX8_findSoonest 97 = .ok (.aload_n 0, 1) := by decide +kernel
theorem dX8_findSoonest_98 : decode cX8_findSoonest 98 = .ok (.getfield 41, 3) := by decide +kernel
theorem dX8_findSoonest_101 : decode cX8_findSoonest 101 = .ok (.iload 6, 2) := by decide +kernel
theorem dX8_findSoonest_103 : decode cX8_findSoonest 103 = .ok (.iaload, 1) := by decide +kernel
theorem dX8_findSoonest_104 : decode cX8_findSoonest 104 = .ok (.goto 5, 3) := by decide +kernel
theorem dX8_findSoonest_107 : decode cX8_findSoonest 107 = .ok (.iload 5, 2) := by decide +kernel
theorem dX8_findSoonest_109 : decode cX8_findSoonest 109 = .ok (.istore 5, 2) := by decide +kernel
theorem dX8_findSoonest_111 : decode cX8_findSoonest 111 = .ok (.iinc 6 1, 3) := by decide +kernel
theorem dX8_findSoonest_114 : decode cX8_findSoonest 114 = .ok (.goto (-38), 3) := by decide +kernel
theorem dX8_findSoonest_117 : decode cX8_findSoonest 117 = .ok (.iload 5, 2) := by decide +kernel
theorem dX8_findSoonest_119 : decode cX8_findSoonest 119 = .ok (.iload_n 3, 1) := by decide +kernel
theorem dX8_findSoonest_120 : decode cX8_findSoonest 120 = .ok (.if_icmp .ge 53, 3) := by decide +kernel
theorem dX8_findSoonest_123 : decode cX8_findSoonest 123 = .ok (.aload_n 0, 1) := by decide +kernel
theorem dX8_findSoonest_124 : decode cX8_findSoonest 124 = .ok (.iload_n 2, 1) := by decide +kernel
theorem dX8_findSoonest_125 : decode cX8_findSoonest 125 = .ok (.invokevirtual 235, 3) := by decide +kernel
theorem dX8_findSoonest_128 : decode cX8_findSoonest 128 = .ok (.ifCond .eq 45, 3) := by decide +kernel
theorem dX8_findSoonest_131 : decode cX8_findSoonest 131 = .ok (.aload_n 0, 1) := by decide +kernel
theorem dX8_findSoonest_132 : decode cX8_findSoonest 132 = .ok (.invokevirtual 238, 3) := by decide +kernel
theorem dX8_findSoonest_135 : decode cX8_findSoonest 135 = .ok (.ifCond .eq 38, 3) := by decide +kernel
theorem dX8_findSoonest_138 : decode cX8_findSoonest 138 = .ok (.iload 5, 2) := by decide +kernel
theorem dX8_findSoonest_140 : decode cX8_findSoonest 140 = .ok (.istore_n 3, 1) := by decide +kernel
theorem dX8_findSoonest_141 : decode cX8_findSoonest 141 = .ok (.iconst 0, 1) := by decide +kernel
theorem dX8_findSoonest_142 : decode cX8_findSoonest 142 = .ok (.istore 6, 2) := by decide +kernel
theorem dX8_findSoonest_144 : decode cX8_findSoonest 144 = .ok (.iload 6, 2) := by decide +kernel
theorem dX8_findSoonest_146 : decode cX8_findSoonest 146 = .ok (.aload_n 0, 1) := by decide +kernel
theorem dX8_findSoonest_147 : decode cX8_findSoonest 147 = .ok (.getfield 232, 3) := by decide +kernel
theorem dX8_findSoonest_150 : decode cX8_findSoonest 150 = .ok (.if_icmp .ge 23, 3) := by decide +kernel
theorem dX8_findSoonest_153 : decode cX8_findSoonest 153 = .ok (.aload_n 0, 1) := by decide +kernel
theorem dX8_findSoonest_154 : decode cX8_findSoonest 154 = .ok (.getfield 44, 3) := by decide +kernel
theorem dX8_findSoonest_157 : decode cX8_findSoonest 157 = .ok (.iload 6, 2) := by decide +kernel
theorem dX8_findSoonest_159 : decode cX8_findSoonest 159 = .ok (.aload_n 0, 1) := by decide +kernel
theorem dX8_findSoonest_160 : decode cX8_findSoonest 160 = .ok (.getfield 41, 3) := by decide +kernel
theorem dX8_findSoonest_163 : decode cX8_findSoonest 163 = .ok (.iload 6, 2) := by decide +kernel
theorem dX8_findSoonest_165 : decode cX8_findSoonest 165 = .ok (.iaload, 1) := by decide +kernel
theorem dX8_findSoonest_166 : decode cX8_findSoonest 166 = .ok (.iastore, 1) := by decide +kernel
theorem dX8_findSoonest_167 : decode cX8_findSoonest 167 = .ok (.iinc 6 1, 3) := by decide +kernel
theorem dX8_findSoonest_170 : decode cX8_findSoonest 170 = .ok (.goto (-26), 3) := by decide +kernel
theorem dX8_findSoonest_173 : decode cX8_findSoonest 173 = .ok (.aload_n 0, 1) := by decide +kernel
theorem dX8_findSoonest_174 : decode cX8_findSoonest 174 = .ok (.invokevirtual 241, 3) := by decide +kernel
theorem dX8_findSoonest_177 : decode cX8_findSoonest 177 = .ok (.istore 4, 2) := by decide +kernel
theorem dX8_findSoonest_179 : decode cX8_findSoonest 179 = .ok (.goto (-114), 3) := by decide +kernel
theorem dX8_findSoonest_182 : decode cX8_findSoonest 182 = .ok (.iload_n 3, 1) := by decide +kernel
theorem dX8_findSoonest_183 : decode cX8_findSoonest 183 = .ok (.bipush 12, 2) := by decide +kernel
theorem dX8_findSoonest_185 : decode cX8_findSoonest 185 = .ok (.if_icmp .ne 8, 3) := by decide +kernel
theorem dX8_findSoonest_188 : decode cX8_findSoonest 188 = .ok (.bipush (-4), 2) := by decide +kernel
theorem dX8_findSoonest_190 : decode cX8_findSoonest 190 = .ok (.goto 4, 3) := by decide +kernel
theorem dX8_findSoonest_193 : decode cX8_findSoonest 193 = .ok (.iload_n 3, 1) := by decide +kernel
theorem dX8_findSoonest_194 : decode cX8_findSoonest 194 = .ok (.ireturn, 1) := by decide +kernel
theorem dX8_soonest_0 : decode cX8_soonest 0 = .ok (.aload_n 0, 1) := by decide +kernel
theorem dX8_soonest_1 : decode cX8_soonest 1 = .ok (.iload_n 1, 1) := by decide +kernel
theorem dX8_soonest_2 : decode cX8_soonest 2 = .ok (.iload_n 2, 1) := by decide +kernel
theorem dX8_soonest_3 : decode cX8_soonest 3 = .ok (.invokevirtual 244, 3) := by decide +kernel
theorem dX8_soonest_6 : decode cX8_soonest 6 = .ok (.ifCond .eq 12, 3) := by decide +kernel
theorem dX8_soonest_9 : decode cX8_soonest 9 = .ok (.aload_n 0, 1) := by decide +kernel
theorem dX8_soonest_10 : decode cX8_soonest 10 = .ok (.iload_n 1, 1) := by decide +kernel
theorem dX8_soonest_11 : decode cX8_soonest 11 = .ok (.iload_n 2, 1) := by decide +kernel
theorem dX8_soonest_12 : decode cX8_soonest 12 = .ok (.invokevirtual 247, 3) := by decide +kernel
theorem dX8_soonest_15 : decode cX8_soonest 15 = .ok (.goto 4, 3) := by decide +kernel
theorem dX8_soonest_18 : decode cX8_soonest 18 = .ok (.iconst (-1), 1) := by decide +kernel
theorem dX8_soonest_19 : decode cX8_soonest 19 = .ok (.ireturn, 1) := by decide +kernel
theorem dX8_when_0 : decode cX8_when 0 = .ok (.aload_n 0, 1) := by decide +kernel
theorem dX8_when_1 : decode cX8_when 1 = .ok (.iload_n 1, 1) := by decide +kernel
theorem dX8_when_2 : decode cX8_when 2 = .ok (.iload_n 2, 1) := by decide +kernel
theorem dX8_when_3 : decode cX8_when 3 = .ok (.invokevirtual 244, 3) := by decide +kernel
theorem dX8_when_6 : decode cX8_when 6 = .ok (.ifCond .eq 19, 3) := by decide +kernel
theorem dX8_when_9 : decode cX8_when 9 = .ok (.aload_n 0, 1) := by decide +kernel
theorem dX8_when_10 : decode cX8_when 10 = .ok (.iload_n 3, 1) := by decide +kernel
theorem dX8_when_11 : decode cX8_when 11 = .ok (.invokevirtual 86, 3) := by decide +kernel
theorem dX8_when_14 : decode cX8_when 14 = .ok (.ifCond .eq 11, 3) := by decide +kernel
theorem dX8_when_17 : decode cX8_when 17 = .ok (.iload_n 1, 1) := by decide +kernel
theorem dX8_when_18 : decode cX8_when 18 = .ok (.iload_n 3, 1) := by decide +kernel
theorem dX8_when_19 : decode cX8_when 19 = .ok (.invokestatic 90, 3) := by decide +kernel
theorem dX8_when_22 : decode cX8_when 22 = .ok (.ifCond .ne 5, 3) := by decide +kernel
theorem dX8_when_25 : decode cX8_when 25 = .ok (.iconst (-1), 1) := by decide +kernel
theorem dX8_when_26 : decode cX8_when 26 = .ok (.ireturn, 1) := by decide +kernel
theorem dX8_when_27 : decode cX8_when 27 = .ok (.aload_n 0, 1) := by decide +kernel
theorem dX8_when_28 : decode cX8_when 28 = .ok (.iload_n 1, 1) := by decide +kernel
theorem dX8_when_29 : decode cX8_when 29 = .ok (.iload_n 2, 1) := by decide +kernel
theorem dX8_when_30 : decode cX8_when 30 = .ok (.invokevirtual 247, 3) := by decide +kernel
theorem dX8_when_33 : decode cX8_when 33 = .ok (.ifCond .ge 6, 3) := by decide +kernel
theorem dX8_when_36 : decode cX8_when 36 = .ok (.bipush (-4), 2) := by decide +kernel
theorem dX8_when_38 : decode cX8_when 38 = .ok (.ireturn, 1) := by decide +kernel
theorem dX8_when_39 : decode cX8_when 39 = .ok (.iconst 0, 1) := by decide +kernel
theorem dX8_when_40 : decode cX8_when 40 = .ok (.istore 4, 2) := by decide +kernel
theorem dX8_when_42 : decode cX8_when 42 = .ok (.aload_n 0, 1) := by decide +kernel
theorem dX8_when_43 : decode cX8_when 43 = .ok (.getfield 38, 3) := by decide +kernel
theorem dX8_when_46 : decode cX8_when 46 = .ok (.iload 4, 2) := by decide +kernel
theorem dX8_when_48 : decode cX8_when 48 = .ok (.iaload, 1) := by decide +kernel
theorem dX8_when_49 : decode cX8_when 49 = .ok (.iload_n 3, 1) := by decide +kernel
theorem dX8_when_50 : decode cX8_when 50 = .ok (.if_icmp .eq 9, 3) := by decide +kernel
theorem dX8_when_53 : decode cX8_when 53 = .ok (.iinc 4 1, 3) := by decide +kernel
theorem dX8_when_56 : decode cX8_when 56 = .ok (.goto (-14), 3) := by decide +kernel
theorem dX8_when_59 : decode cX8_when 59 = .ok (.aload_n 0, 1) := by decide +kernel
theorem dX8_when_60 : decode cX8_when 60 = .ok (.getfield 44, 3) := by decide +kernel
theorem dX8_when_63 : decode cX8_when 63 = .ok (.iload 4, 2) := by decide +kernel
theorem dX8_when_65 : decode cX8_when 65 = .ok (.iaload, 1) := by decide +kernel
theorem dX8_when_66 : decode cX8_when 66 = .ok (.ireturn, 1) := by decide +kernel
theorem dX8_isEvenWith_0 : decode cX8_isEvenWith 0 = .ok (.iconst 0, 1) := by decide +kernel
theorem dX8_isEvenWith_1 : decode cX8_isEvenWith 1 = .ok (.istore_n 2, 1) := by decide +kernel
theorem dX8_isEvenWith_2 : decode cX8_isEvenWith 2 = .ok (.iload_n 2, 1) := by decide +kernel
theorem dX8_isEvenWith_3 : decode cX8_isEvenWith 3 = .ok (.bipush 12, 2) := by decide +kernel
theorem dX8_isEvenWith_5 : decode cX8_isEvenWith 5 = .ok (.if_icmp .ge 21, 3) := by decide +kernel
theorem dX8_isEvenWith_8 : decode cX8_isEvenWith 8 = .ok (.aload_n 0, 1) := by decide +kernel
theorem dX8_isEvenWith_9 : decode cX8_isEvenWith 9 = .ok (.getfield 29, 3) := by decide +kernel
theorem dX8_isEvenWith_12 : decode cX8_isEvenWith 12 = .ok (.iload_n 2, 1) := by decide +kernel
theorem dX8_isEvenWith_13 : decode cX8_isEvenWith 13 = .ok (.aload_n 0, 1) := by decide +kernel
theorem dX8_isEvenWith_14 : decode cX8_isEvenWith 14 = .ok (.getfield 22, 3) := by decide +kernel
theorem dX8_isEvenWith_17 : decode cX8_isEvenWith 17 = .ok (.iload_n 2, 1) := by decide +kernel
theorem dX8_isEvenWith_18 : decode cX8_isEvenWith 18 = .ok (.iaload, 1) := by decide +kernel
theorem dX8_isEvenWith_19 : decode cX8_isEvenWith 19 = .ok (.iastore, 1) := by decide +kernel
theorem dX8_isEvenWith_20 : decode cX8_isEvenWith 20 = .ok (.iinc 2 1, 3) := by decide +kernel
theorem dX8_isEvenWith_23 : decode cX8_isEvenWith 23 = .ok (.goto (-21), 3) := by decide +kernel
theorem dX8_isEvenWith_26 : decode cX8_isEvenWith 26 = .ok (.iconst 0, 1) := by decide +kernel
theorem dX8_isEvenWith_27 : decode cX8_isEvenWith 27 = .ok (.istore_n 2, 1) := by decide +kernel
theorem dX8_isEvenWith_28 : decode cX8_isEvenWith 28 = .ok (.iload_n 2, 1) := by decide +kernel
theorem dX8_isEvenWith_29 : decode cX8_isEvenWith 29 = .ok (.aload_n 0, 1) := by decide +kernel
theorem dX8_isEvenWith_30 : decode cX8_isEvenWith 30 = .ok (.getfield 69, 3) := by decide +kernel
theorem dX8_isEvenWith_33 : decode cX8_isEvenWith 33 = .ok (.if_icmp .ge 37, 3) := by decide +kernel
theorem dX8_isEvenWith_36 : decode cX8_isEvenWith 36 = .ok (.iload_n 1, 1) := by decide +kernel
theorem dX8_isEvenWith_37 : decode cX8_isEvenWith 37 = .ok (.iload_n 2, 1) := by decide +kernel
theorem dX8_isEvenWith_38 : decode cX8_isEvenWith 38 = .ok (.invokestatic 90, 3) := by decide +kernel
theorem dX8_isEvenWith_41 : decode cX8_isEvenWith 41 = .ok (.ifCond .eq 23, 3) := by decide +kernel
theorem dX8_isEvenWith_44 : decode cX8_isEvenWith 44 = .ok (.aload_n 0, 1) := by decide +kernel
theorem dX8_isEvenWith_45 : decode cX8_isEvenWith 45 = .ok (.getfield 29, 3) := by decide +kernel
theorem dX8_isEvenWith_48 : decode cX8_isEvenWith 48 = .ok (.aload_n 0, 1) := by decide +kernel
theorem dX8_isEvenWith_49 : decode cX8_isEvenWith 49 = .ok (.getfield 16, 3) := by decide +kernel
theorem dX8_isEvenWith_52 : decode cX8_isEvenWith 52 = .ok (.iload_n 2, 1) := by decide +kernel
theorem dX8_isEvenWith_53 : decode cX8_isEvenWith 53 = .ok (.iaload, 1) := by decide +kernel
theorem dX8_isEvenWith_54 : decode cX8_isEvenWith 54 = .ok (.dup2, 1) := by decide +kernel
theorem dX8_isEvenWith_55 : decode cX8_isEvenWith 55 = .ok (.iaload, 1) := by decide +kernel
theorem dX8_isEvenWith_56 : decode cX8_isEvenWith 56 = .ok (.aload_n 0, 1) := by decide +kernel
theorem dX8_isEvenWith_57 : decode cX8_isEvenWith 57 = .ok (.getfield 13, 3) := by decide +kernel
theorem dX8_isEvenWith_60 : decode cX8_isEvenWith 60 = .ok (.iload_n 2, 1) := by decide +kernel
theorem dX8_isEvenWith_61 : decode cX8_isEvenWith 61 = .ok (.iaload, 1) := by decide +kernel
theorem dX8_isEvenWith_62 : decode cX8_isEvenWith 62 = .ok (.iadd, 1) := by decide +kernel
theorem dX8_isEvenWith_63 : decode cX8_isEvenWith 63 = .ok (.iastore, 1) := by decide +kernel
theorem dX8_isEvenWith_64 : decode cX8_isEvenWith 64 = .ok (.iinc 2 1, 3) := by decide +kernel
theorem dX8_isEvenWith_67 : decode cX8_isEvenWith 67 = .ok (.goto (-39), 3) := by decide +kernel
theorem dX8_isEvenWith_70 : decode cX8_isEvenWith 70 = .ok (.aload_n 0, 1) := by decide +kernel
theorem dX8_isEvenWith_71 : decode cX8_isEvenWith 71 = .ok (.invokevirtual 144, 3) := by decide +kernel
theorem dX8_isEvenWith_74 : decode cX8_isEvenWith 74 = .ok (.ireturn, 1) := by decide +kernel
theorem dX8_empty_0 : decode cX8_empty 0 = .ok (.aload_n 0, 1) := by decide +kernel
theorem dX8_empty_1 : decode cX8_empty 1 = .ok (.iconst 4, 1) := by decide +kernel
theorem dX8_empty_2 : decode cX8_empty 2 = .ok (.invokevirtual 250, 3) := by decide +kernel
theorem dX8_empty_5 : decode cX8_empty 5 = .ok (.istore_n 1, 1) := by decide +kernel
theorem dX8_empty_6 : decode cX8_empty 6 = .ok (.iconst 0, 1) := by decide +kernel
theorem dX8_empty_7 : decode cX8_empty 7 = .ok (.istore_n 2, 1) := by decide +kernel
theorem dX8_empty_8 : decode cX8_empty 8 = .ok (.iload_n 2, 1) := by decide +kernel
theorem dX8_empty_9 : decode cX8_empty 9 = .ok (.sipush 1024, 3) := by decide +kernel
theorem dX8_empty_12 : decode cX8_empty 12 = .ok (.if_icmp .ge 25, 3) := by decide +kernel
theorem dX8_empty_15 : decode cX8_empty 15 = .ok (.aload_n 0, 1) := by decide +kernel
theorem dX8_empty_16 : decode cX8_empty 16 = .ok (.getfield 47, 3) := by decide +kernel
theorem dX8_empty_19 : decode cX8_empty 19 = .ok (.iload_n 2, 1) := by decide +kernel
theorem dX8_empty_20 : decode cX8_empty 20 = .ok (.iload_n 2, 1) := by decide +kernel
theorem dX8_empty_21 : decode cX8_empty 21 = .ok (.iload_n 1, 1) := by decide +kernel
theorem dX8_empty_22 : decode cX8_empty 22 = .ok (.if_icmp .ne 7, 3) := by decide +kernel
theorem dX8_empty_25 : decode cX8_empty 25 = .ok (.iconst 1, 1) := by decide +kernel
theorem dX8_empty_26 : decode cX8_empty 26 = .ok (.goto 4, 3) := by decide +kernel
theorem dX8_empty_29 : decode cX8_empty 29 = .ok (.iconst 0, 1) := by decide +kernel
theorem dX8_empty_30 : decode cX8_empty 30 = .ok (.bastore, 1) := by decide +kernel
theorem dX8_empty_31 : decode cX8_empty 31 = .ok (.iinc 2 1, 3) := by decide +kernel
theorem dX8_empty_34 : decode cX8_empty 34 = .ok (.goto (-26), 3) := by decide +kernel
theorem dX8_empty_37 : decode cX8_empty 37 = .ok (.iconst 0, 1) := by decide +kernel
theorem dX8_empty_38 : decode cX8_empty 38 = .ok (.istore_n 2, 1) := by decide +kernel
theorem dX8_empty_39 : decode cX8_empty 39 = .ok (.iload_n 2, 1) := by decide +kernel
theorem dX8_empty_40 : decode cX8_empty 40 = .ok (.bipush 24, 2) := by decide +kernel
theorem dX8_empty_42 : decode cX8_empty 42 = .ok (.if_icmp .ge 52, 3) := by decide +kernel
theorem dX8_empty_45 : decode cX8_empty 45 = .ok (.iload_n 2, 1) := by decide +kernel
theorem dX8_empty_46 : decode cX8_empty 46 = .ok (.ifCond .ne 14, 3) := by decide +kernel
theorem dX8_empty_49 : decode cX8_empty 49 = .ok (.aload_n 0, 1) := by decide +kernel
theorem dX8_empty_50 : decode cX8_empty 50 = .ok (.getfield 47, 3) := by decide +kernel
theorem dX8_empty_53 : decode cX8_empty 53 = .ok (.iconst 0, 1) := by decide +kernel
theorem dX8_empty_54 : decode cX8_empty 54 = .ok (.baload, 1) := by decide +kernel
theorem dX8_empty_55 : decode cX8_empty 55 = .ok (.ifCond .eq 5, 3) := by decide +kernel
theorem dX8_empty_58 : decode cX8_empty 58 = .ok (.iconst 0, 1) := by decide +kernel
theorem dX8_empty_59 : decode cX8_empty 59 = .ok (.ireturn, 1) := by decide +kernel
theorem dX8_empty_60 : decode cX8_empty 60 = .ok (.aload_n 0, 1) := by decide +kernel
theorem dX8_empty_61 : decode cX8_empty 61 = .ok (.aload_n 0, 1) := by decide +kernel
theorem dX8_empty_62 : decode cX8_empty 62 = .ok (.aload_n 0, 1) := by decide +kernel
theorem dX8_empty_63 : decode cX8_empty 63 = .ok (.getfield 159, 3) := by decide +kernel
theorem dX8_empty_66 : decode cX8_empty 66 = .ok (.iload_n 2, 1) := by decide +kernel
theorem dX8_empty_67 : decode cX8_empty 67 = .ok (.iadd, 1) := by decide +kernel
theorem dX8_empty_68 : decode cX8_empty 68 = .ok (.bipush 12, 2) := by decide +kernel
theorem dX8_empty_70 : decode cX8_empty 70 = .ok (.irem, 1) := by decide +kernel
theorem dX8_empty_71 : decode cX8_empty 71 = .ok (.invokevirtual 101, 3) := by decide +kernel
theorem dX8_empty_74 : decode cX8_empty 74 = .ok (.invokevirtual 253, 3) := by decide +kernel
theorem dX8_empty_77 : decode cX8_empty 77 = .ok (.aload_n 0, 1) := by decide +kernel
theorem dX8_empty_78 : decode cX8_empty 78 = .ok (.getfield 47, 3) := by decide +kernel
theorem dX8_empty_81 : decode cX8_empty 81 = .ok (.iconst 0, 1) := by decide +kernel
theorem dX8_empty_82 : decode cX8_empty 82 = .ok (.baload, 1) := by decide +kernel
theorem dX8_empty_83 : decode cX8_empty 83 = .ok (.ifCond .eq 5, 3) := by decide +kernel
theorem dX8_empty_86 : decode cX8_empty 86 = .ok (.iload_n 2, 1) := by decide +kernel
theorem dX8_empty_87 : decode cX8_empty 87 = .ok (.ireturn, 1) := by decide +kernel
theorem dX8_empty_88 : decode cX8_empty 88 = .ok (.iinc 2 1, 3) := by decide +kernel
theorem dX8_empty_91 : decode cX8_empty 91 = .ok (.goto (-52), 3) := by decide +kernel
theorem dX8_empty_94 : decode cX8_empty 94 = .ok (.bipush (-4), 2) := by decide +kernel
theorem dX8_empty_96 : decode cX8_empty 96 = .ok (.ireturn, 1) := by decide +kernel
theorem dX8_getOut_0 : decode cX8_getOut 0 = .ok (.iconst 0, 1) := by decide +kernel
theorem dX8_getOut_1 : decode cX8_getOut 1 = .ok (.istore_n 2, 1) := by decide +kernel
theorem dX8_getOut_2 : decode cX8_getOut 2 = .ok (.iload_n 2, 1) := by decide +kernel
theorem dX8_getOut_3 : decode cX8_getOut 3 = .ok (.iconst 1, 1) := by decide +kernel
theorem dX8_getOut_4 : decode cX8_getOut 4 = .ok (.aload_n 0, 1) := by decide +kernel
theorem dX8_getOut_5 : decode cX8_getOut 5 = .ok (.getfield 69, 3) := by decide +kernel
theorem dX8_getOut_8 : decode cX8_getOut 8 = .ok (.ishl, 1) := by decide +kernel
theorem dX8_getOut_9 : decode cX8_getOut 9 = .ok (.if_icmp .ge 21, 3) := by decide +kernel
theorem dX8_getOut_12 : decode cX8_getOut 12 = .ok (.aload_n 0, 1) := by decide +kernel
theorem dX8_getOut_13 : decode cX8_getOut 13 = .ok (.getfield 51, 3) := by decide +kernel
theorem dX8_getOut_16 : decode cX8_getOut 16 = .ok (.iload_n 2, 1) := by decide +kernel
theorem dX8_getOut_17 : decode cX8_getOut 17 = .ok (.aload_n 0, 1) := by decide +kernel
theorem dX8_getOut_18 : decode cX8_getOut 18 = .ok (.getfield 47, 3) := by decide +kernel
theorem dX8_getOut_21 : decode cX8_getOut 21 = .ok (.iload_n 2, 1) := by decide +kernel
theorem dX8_getOut_22 : decode cX8_getOut 22 = .ok (.baload, 1) := by decide +kernel
theorem dX8_getOut_23 : decode cX8_getOut 23 = .ok (.bastore, 1) := by decide +kernel
theorem dX8_getOut_24 : decode cX8_getOut 24 = .ok (.iinc 2 1, 3) := by decide +kernel
theorem dX8_getOut_27 : decode cX8_getOut 27 = .ok (.goto (-25), 3) := by decide +kernel
theorem dX8_getOut_30 : decode cX8_getOut 30 = .ok (.iconst 0, 1) := by decide +kernel
theorem dX8_getOut_31 : decode cX8_getOut 31 = .ok (.istore_n 2, 1) := by decide +kernel
theorem dX8_getOut_32 : decode cX8_getOut 32 = .ok (.iload_n 2, 1) := by decide +kernel
theorem dX8_getOut_33 : decode cX8_getOut 33 = .ok (.iconst 1, 1) := by decide +kernel
theorem dX8_getOut_34 : decode cX8_getOut 34 = .ok (.aload_n 0, 1) := by decide +kernel
theorem dX8_getOut_35 : decode cX8_getOut 35 = .ok (.getfield 69, 3) := by decide +kernel
theorem dX8_getOut_38 : decode cX8_getOut 38 = .ok (.ishl, 1) := by decide +kernel
theorem dX8_getOut_39 : decode cX8_getOut 39 = .ok (.if_icmp .ge 95, 3) := by decide +kernel
theorem dX8_getOut_42 : decode cX8_getOut 42 = .ok (.aload_n 0, 1) := by decide +kernel
theorem dX8_getOut_43 : decode cX8_getOut 43 = .ok (.getfield 47, 3) := by decide +kernel
theorem dX8_getOut_46 : decode cX8_getOut 46 = .ok (.iload_n 2, 1) := by decide +kernel
theorem dX8_getOut_47 : decode cX8_getOut 47 = .ok (.baload, 1) := by decide +kernel
theorem dX8_getOut_48 : decode cX8_getOut 48 = .ok (.ifCond .eq 9, 3) := by decide +kernel
theorem dX8_getOut_51 : decode cX8_getOut 51 = .ok (.iload_n 2, 1) := by decide +kernel
theorem dX8_getOut_52 : decode cX8_getOut 52 = .ok (.iload_n 1, 1) := by decide +kernel
theorem dX8_getOut_53 : decode cX8_getOut 53 = .ok (.iand, 1) := by decide +kernel
theorem dX8_getOut_54 : decode cX8_getOut 54 = .ok (.goto 4, 3) := by decide +kernel
theorem dX8_getOut_57 : decode cX8_getOut 57 = .ok (.iconst 0, 1) := by decide +kernel
theorem dX8_getOut_58 : decode cX8_getOut 58 = .ok (.istore_n 3, 1) := by decide +kernel
theorem dX8_getOut_59 : decode cX8_getOut 59 = .ok (.iload_n 3, 1) := by decide +kernel
theorem dX8_getOut_60 : decode cX8_getOut 60 = .ok (.istore 4, 2) := by decide +kernel
theorem dX8_getOut_62 : decode cX8_getOut 62 = .ok (.iload 4, 2) := by decide +kernel
theorem dX8_getOut_64 : decode cX8_getOut 64 = .ok (.ifCond .eq 64, 3) := by decide +kernel
theorem dX8_getOut_67 : decode cX8_getOut 67 = .ok (.iload_n 2, 1) := by decide +kernel
theorem dX8_getOut_68 : decode cX8_getOut 68 = .ok (.iload 4, 2) := by decide +kernel
theorem dX8_getOut_70 : decode cX8_getOut 70 = .ok (.iconst (-1), 1) := by decide +kernel
theorem dX8_getOut_71 : decode cX8_getOut 71 = .ok (.ixor, 1) := by decide +kernel
theorem dX8_getOut_72 : decode cX8_getOut 72 = .ok (.iand, 1) := by decide +kernel
theorem dX8_getOut_73 : decode cX8_getOut 73 = .ok (.istore 5, 2) := by decide +kernel
theorem dX8_getOut_75 : decode cX8_getOut 75 = .ok (.aload_n 0, 1) := by decide +kernel
theorem dX8_getOut_76 : decode cX8_getOut 76 = .ok (.getfield 51, 3) := by decide +kernel
theorem dX8_getOut_79 : decode cX8_getOut 79 = .ok (.iload 5, 2) := by decide +kernel
theorem dX8_getOut_81 : decode cX8_getOut 81 = .ok (.aload_n 0, 1) := by decide +kernel
theorem dX8_getOut_82 : decode cX8_getOut 82 = .ok (.getfield 51, 3) := by decide +kernel
theorem dX8_getOut_85 : decode cX8_getOut 85 = .ok (.iload 5, 2) := by decide +kernel
theorem dX8_getOut_87 : decode cX8_getOut 87 = .ok (.baload, 1) := by decide +kernel
theorem dX8_getOut_88 : decode cX8_getOut 88 = .ok (.ifCond .ne 23, 3) := by decide +kernel
theorem dX8_getOut_91 : decode cX8_getOut 91 = .ok (.aload_n 0, 1) := by decide +kernel
theorem dX8_getOut_92 : decode cX8_getOut 92 = .ok (.iload 5, 2) := by decide +kernel
theorem dX8_getOut_94 : decode cX8_getOut 94 = .ok (.iload_n 1, 1) := by decide +kernel
theorem dX8_getOut_95 : decode cX8_getOut 95 = .ok (.iand, 1) := by decide +kernel
theorem dX8_getOut_96 : decode cX8_getOut 96 = .ok (.invokevirtual 218, 3) := by decide +kernel
theorem dX8_getOut_99 : decode cX8_getOut 99 = .ok (.ifCond .eq 16, 3) := by decide +kernel
theorem dX8_getOut_102 : decode cX8_getOut 102 = .ok (.aload_n 0, 1) := by decide +kernel
theorem dX8_getOut_103 : decode cX8_getOut 103 = .ok (.iload 5, 2) := by decide +kernel
theorem dX8_getOut_105 : decode cX8_getOut 105 = .ok (.invokevirtual 257, 3) := by decide +kernel
theorem dX8_getOut_108 : decode cX8_getOut 108 = .ok (.ifCond .eq 7, 3) := by decide +kernel
theorem dX8_getOut_111 : decode cX8_getOut 111 = .ok (.iconst 1, 1) := by decide +kernel
theorem dX8_getOut_112 : decode cX8_getOut 112 = .ok (.goto 4, 3) := by decide +kernel
theorem dX8_getOut_115 : decode cX8_getOut 115 = .ok (.iconst 0, 1) := by decide +kernel
theorem dX8_getOut_116 : decode cX8_getOut 116 = .ok (.bastore, 1) := by decide +kernel
theorem dX8_getOut_117 : decode cX8_getOut 117 = .ok (.iload 4, 2) := by decide +kernel
theorem dX8_getOut_119 : decode cX8_getOut 119 = .ok (.iconst 1, 1) := by decide +kernel
theorem dX8_getOut_120 : decode cX8_getOut 120 = .ok (.isub, 1) := by decide +kernel
theorem dX8_getOut_121 : decode cX8_getOut 121 = .ok (.iload_n 3, 1) := by decide +kernel
theorem dX8_getOut_122 : decode cX8_getOut 122 = .ok (.iand, 1) := by decide +kernel
theorem dX8_getOut_123 : decode cX8_getOut 123 = .ok (.istore 4, 2) := by decide +kernel
theorem dX8_getOut_125 : decode cX8_getOut 125 = .ok (.goto (-63), 3) := by decide +kernel
theorem dX8_getOut_128 : decode cX8_getOut 128 = .ok (.iinc 2 1, 3) := by decide +kernel
theorem dX8_getOut_131 : decode cX8_getOut 131 = .ok (.goto (-99), 3) := by decide +kernel
theorem dX8_getOut_134 : decode cX8_getOut 134 = .ok (.iconst 0, 1) := by decide +kernel
theorem dX8_getOut_135 : decode cX8_getOut 135 = .ok (.istore_n 2, 1) := by decide +kernel
theorem dX8_getOut_136 : decode cX8_getOut 136 = .ok (.iload_n 2, 1) := by decide +kernel
theorem dX8_getOut_137 : decode cX8_getOut 137 = .ok (.iconst 1, 1) := by decide +kernel
theorem dX8_getOut_138 : decode cX8_getOut 138 = .ok (.aload_n 0, 1) := by decide +kernel
theorem dX8_getOut_139 : decode cX8_getOut 139 = .ok (.getfield 69, 3) := by decide +kernel
theorem dX8_getOut_142 : decode cX8_getOut 142 = .ok (.ishl, 1) := by decide +kernel
theorem dX8_getOut_143 : decode cX8_getOut 143 = .ok (.if_icmp .ge 21, 3) := by decide +kernel
theorem dX8_getOut_146 : decode cX8_getOut 146 = .ok (.aload_n 0, 1) := by decide +kernel
theorem dX8_getOut_147 : decode cX8_getOut 147 = .ok (.getfield 47, 3) := by decide +kernel
theorem dX8_getOut_150 : decode cX8_getOut 150 = .ok (.iload_n 2, 1) := by decide +kernel
theorem dX8_getOut_151 : decode cX8_getOut 151 = .ok (.aload_n 0, 1) := by decide +kernel
theorem dX8_getOut_152 : decode cX8_getOut 152 = .ok (.getfield 51, 3) := by decide +kernel
theorem dX8_getOut_155 : decode cX8_getOut 155 = .ok (.iload_n 2, 1) := by decide +kernel
theorem dX8_getOut_156 : decode cX8_getOut 156 = .ok (.baload, 1) := by decide +kernel
theorem dX8_getOut_157 : decode cX8_getOut 157 = .ok (.bastore, 1) := by decide +kernel
theorem dX8_getOut_158 : decode cX8_getOut 158 = .ok (.iinc 2 1, 3) := by decide +kernel
theorem dX8_getOut_161 : decode cX8_getOut 161 = .ok (.goto (-25), 3) := by decide +kernel
theorem dX8_getOut_164 : decode cX8_getOut 164 = .ok (.return_, 1) := by decide +kernel
theorem dX8_least_0 : decode cX8_least 0 = .ok (.aload_n 0, 1) := by decide +kernel
theorem dX8_least_1 : decode cX8_least 1 = .ok (.iload_n 1, 1) := by decide +kernel
theorem dX8_least_2 : decode cX8_least 2 = .ok (.invokevirtual 86, 3) := by decide +kernel
theorem dX8_least_5 : decode cX8_least 5 = .ok (.ifCond .eq 24, 3) := by decide +kernel
theorem dX8_least_8 : decode cX8_least 8 = .ok (.aload_n 0, 1) := by decide +kernel
theorem dX8_least_9 : decode cX8_least 9 = .ok (.getfield 16, 3) := by decide +kernel
theorem dX8_least_12 : decode cX8_least 12 = .ok (.iload_n 1, 1) := by decide +kernel
theorem dX8_least_13 : decode cX8_least 13 = .ok (.iaload, 1) := by decide +kernel
theorem dX8_least_14 : decode cX8_least 14 = .ok (.bipush 12, 2) := by decide +kernel
theorem dX8_least_16 : decode cX8_least 16 = .ok (.if_icmp .ne 13, 3) := by decide +kernel
theorem dX8_least_19 : decode cX8_least 19 = .ok (.iload_n 2, 1) := by decide +kernel
theorem dX8_least_20 : decode cX8_least 20 = .ok (.i2l, 1) := by decide +kernel
theorem dX8_least_21 : decode cX8_least 21 = .ok (.lconst 0, 1) := by decide +kernel
theorem dX8_least_22 : decode cX8_least 22 = .ok (.lconst 1, 1) := by decide +kernel
theorem dX8_least_23 : decode cX8_least 23 = .ok (.invokestatic 72, 3) := by decide +kernel
theorem dX8_least_26 : decode cX8_least 26 = .ok (.ifCond .ne 5, 3) := by decide +kernel
theorem dX8_least_29 : decode cX8_least 29 = .ok (.iconst (-1), 1) := by decide +kernel
theorem dX8_least_30 : decode cX8_least 30 = .ok (.ireturn, 1) := by decide +kernel
theorem dX8_least_31 : decode cX8_least 31 = .ok (.aload_n 0, 1) := by decide +kernel
theorem dX8_least_32 : decode cX8_least 32 = .ok (.getfield 16, 3) := by decide +kernel
theorem dX8_least_35 : decode cX8_least 35 = .ok (.iload_n 1, 1) := by decide +kernel
theorem dX8_least_36 : decode cX8_least 36 = .ok (.aload_n 0, 1) := by decide +kernel
theorem dX8_least_37 : decode cX8_least 37 = .ok (.getfield 159, 3) := by decide +kernel
theorem dX8_least_40 : decode cX8_least 40 = .ok (.iastore, 1) := by decide +kernel
theorem dX8_least_41 : decode cX8_least 41 = .ok (.aload_n 0, 1) := by decide +kernel
theorem dX8_least_42 : decode cX8_least 42 = .ok (.aload_n 0, 1) := by decide +kernel
theorem dX8_least_43 : decode cX8_least 43 = .ok (.aload_n 0, 1) := by decide +kernel
theorem dX8_least_44 : decode cX8_least 44 = .ok (.getfield 159, 3) := by decide +kernel
theorem dX8_least_47 : decode cX8_least 47 = .ok (.invokevirtual 101, 3) := by decide +kernel
theorem dX8_least_50 : decode cX8_least 50 = .ok (.invokevirtual 218, 3) := by decide +kernel
theorem dX8_least_53 : decode cX8_least 53 = .ok (.istore_n 3, 1) := by decide +kernel
theorem dX8_least_54 : decode cX8_least 54 = .ok (.bipush (-4), 2) := by decide +kernel
theorem dX8_least_56 : decode cX8_least 56 = .ok (.istore 4, 2) := by decide +kernel
theorem dX8_least_58 : decode cX8_least 58 = .ok (.bipush 100, 2) := by decide +kernel
theorem dX8_least_60 : decode cX8_least 60 = .ok (.istore 5, 2) := by decide +kernel
theorem dX8_least_62 : decode cX8_least 62 = .ok (.iconst 0, 1) := by decide +kernel
theorem dX8_least_63 : decode cX8_least 63 = .ok (.istore 6, 2) := by decide +kernel
theorem dX8_least_65 : decode cX8_least 65 = .ok (.iload 6, 2) := by decide +kernel
theorem dX8_least_67 : decode cX8_least 67 = .ok (.bipush 12, 2) := by decide +kernel
theorem dX8_least_69 : decode cX8_least 69 = .ok (.if_icmp .ge 75, 3) := by decide +kernel
theorem dX8_least_72 : decode cX8_least 72 = .ok (.iload_n 3, 1) := by decide +kernel
theorem dX8_least_73 : decode cX8_least 73 = .ok (.ifCond .eq 71, 3) := by decide +kernel
theorem dX8_least_76 : decode cX8_least 76 = .ok (.iconst 0, 1) := by decide +kernel
theorem dX8_least_77 : decode cX8_least 77 = .ok (.istore 7, 2) := by decide +kernel
theorem dX8_least_79 : decode cX8_least 79 = .ok (.iload 7, 2) := by decide +kernel
theorem dX8_least_81 : decode cX8_least 81 = .ok (.iload 5, 2) := by decide +kernel
theorem dX8_least_83 : decode cX8_least 83 = .ok (.if_icmp .ge 55, 3) := by decide +kernel
theorem dX8_least_86 : decode cX8_least 86 = .ok (.aload_n 0, 1) := by decide +kernel
theorem dX8_least_87 : decode cX8_least 87 = .ok (.getfield 22, 3) := by decide +kernel
theorem dX8_least_90 : decode cX8_least 90 = .ok (.iload 6, 2) := by decide +kernel
theorem dX8_least_92 : decode cX8_least 92 = .ok (.iaload, 1) := by decide +kernel
theorem dX8_least_93 : decode cX8_least 93 = .ok (.iload 7, 2) := by decide +kernel
theorem dX8_least_95 : decode cX8_least 95 = .ok (.iadd, 1) := by decide +kernel
theorem dX8_least_96 : decode cX8_least 96 = .ok (.bipush 100, 2) := by decide +kernel
theorem dX8_least_98 : decode cX8_least 98 = .ok (.if_icmp .ge 40, 3) := by decide +kernel
theorem dX8_least_101 : decode cX8_least 101 = .ok (.aload_n 0, 1) := by decide +kernel
theorem dX8_least_102 : decode cX8_least 102 = .ok (.invokevirtual 141, 3) := by decide +kernel
theorem dX8_least_105 : decode cX8_least 105 = .ok (.aload_n 0, 1) := by decide +kernel
theorem dX8_least_106 : decode cX8_least 106 = .ok (.getfield 29, 3) := by decide +kernel
theorem dX8_least_109 : decode cX8_least 109 = .ok (.iload 6, 2) := by decide +kernel
theorem dX8_least_111 : decode cX8_least 111 = .ok (.dup2, 1) := by decide +kernel
theorem dX8_least_112 : decode cX8_least 112 = .ok (.iaload, 1) := by decide +kernel
theorem dX8_least_113 : decode cX8_least 113 = .ok (.iload 7, 2) := by decide +kernel
theorem dX8_least_115 : decode cX8_least 115 = .ok (.iadd, 1) := by decide +kernel
theorem dX8_least_116 : decode cX8_least 116 = .ok (.iastore, 1) := by decide +kernel
theorem dX8_least_117 : decode cX8_least 117 = .ok (.aload_n 0, 1) := by decide +kernel
theorem dX8_least_118 : decode cX8_least 118 = .ok (.invokevirtual 144, 3) := by decide +kernel
theorem dX8_least_121 : decode cX8_least 121 = .ok (.ifCond .eq 11, 3) := by decide +kernel
theorem dX8_least_124 : decode cX8_least 124 = .ok (.iload 6, 2) := by decide +kernel
theorem dX8_least_126 : decode cX8_least 126 = .ok (.istore 4, 2) := by decide +kernel
theorem dX8_least_128 : decode cX8_least 128 = .ok (.iload 7, 2) := by decide +kernel
theorem dX8_least_130 : decode cX8_least 130 = .ok (.istore 5, 2) := by decide +kernel
theorem dX8_least_132 : decode cX8_least 132 = .ok (.iinc 7 1, 3) := by decide +kernel
theorem dX8_least_135 : decode cX8_least 135 = .ok (.goto (-56), 3) := by decide +kernel
theorem dX8_least_138 : decode cX8_least 138 = .ok (.iinc 6 1, 3) := by decide +kernel
theorem dX8_least_141 : decode cX8_least 141 = .ok (.goto (-76), 3) := by decide +kernel
theorem dX8_least_144 : decode cX8_least 144 = .ok (.aload_n 0, 1) := by decide +kernel
theorem dX8_least_145 : decode cX8_least 145 = .ok (.getfield 16, 3) := by decide +kernel
theorem dX8_least_148 : decode cX8_least 148 = .ok (.iload_n 1, 1) := by decide +kernel
theorem dX8_least_149 : decode cX8_least 149 = .ok (.bipush 12, 2) := by decide +kernel
theorem dX8_least_151 : decode cX8_least 151 = .ok (.iastore, 1) := by decide +kernel
theorem dX8_least_152 : decode cX8_least 152 = .ok (.iload 4, 2) := by decide +kernel
theorem dX8_least_154 : decode cX8_least 154 = .ok (.ifCond .ge 8, 3) := by decide +kernel
theorem dX8_least_157 : decode cX8_least 157 = .ok (.bipush (-4), 2) := by decide +kernel
theorem dX8_least_159 : decode cX8_least 159 = .ok (.goto 14, 3) := by decide +kernel
theorem dX8_least_162 : decode cX8_least 162 = .ok (.iload_n 2, 1) := by decide +kernel
theorem dX8_least_163 : decode cX8_least 163 = .ok (.ifCond .ne 8, 3) := by decide +kernel
theorem dX8_least_166 : decode cX8_least 166 = .ok (.iload 5, 2) := by decide +kernel
theorem dX8_least_168 : decode cX8_least 168 = .ok (.goto 5, 3) := by decide +kernel
theorem dX8_least_171 : decode cX8_least 171 = .ok (.iload 4, 2) := by decide +kernel
theorem dX8_least_173 : decode cX8_least 173 = .ok (.ireturn, 1) := by decide +kernel
theorem dX8_findWorst_0 : decode cX8_findWorst 0 = .ok (.aload_n 0, 1) := by decide +kernel
theorem dX8_findWorst_1 : decode cX8_findWorst 1 = .ok (.ldc2_w 260, 3) := by decide +kernel
theorem dX8_findWorst_4 : decode cX8_findWorst 4 = .ok (.putfield 262, 3) := by decide +kernel
theorem dX8_findWorst_7 : decode cX8_findWorst 7 = .ok (.aload_n 0, 1) := by decide +kernel
theorem dX8_findWorst_8 : decode cX8_findWorst 8 = .ok (.lconst 0, 1) := by decide +kernel
theorem dX8_findWorst_9 : decode cX8_findWorst 9 = .ok (.putfield 265, 3) := by decide +kernel
theorem dX8_findWorst_12 : decode cX8_findWorst 12 = .ok (.aload_n 0, 1) := by decide +kernel
theorem dX8_findWorst_13 : decode cX8_findWorst 13 = .ok (.iconst 4, 1) := by decide +kernel
theorem dX8_findWorst_14 : decode cX8_findWorst 14 = .ok (.invokevirtual 250, 3) := by decide +kernel
theorem dX8_findWorst_17 : decode cX8_findWorst 17 = .ok (.istore_n 2, 1) := by decide +kernel
theorem dX8_findWorst_18 : decode cX8_findWorst 18 = .ok (.iload_n 2, 1) := by decide +kernel
theorem dX8_findWorst_19 : decode cX8_findWorst 19 = .ok (.invokestatic 229, 3) := by decide +kernel
theorem dX8_findWorst_22 : decode cX8_findWorst 22 = .ok (.istore_n 3, 1) := by decide +kernel
theorem dX8_findWorst_23 : decode cX8_findWorst 23 = .ok (.iconst 0, 1) := by decide +kernel
theorem dX8_findWorst_24 : decode cX8_findWorst 24 = .ok (.istore 4, 2) := by decide +kernel
theorem dX8_findWorst_26 : decode cX8_findWorst 26 = .ok (.iload 4, 2) := by decide +kernel
theorem dX8_findWorst_28 : decode cX8_findWorst 28 = .ok (.iconst 1, 1) := by decide +kernel
theorem dX8_findWorst_29 : decode cX8_findWorst 29 = .ok (.iload_n 3, 1) := by decide +kernel
theorem dX8_findWorst_30 : decode cX8_findWorst 30 = .ok (.ishl, 1) := by decide +kernel
theorem dX8_findWorst_31 : decode cX8_findWorst 31 = .ok (.if_icmp .ge 190, 3) := by decide +kernel
theorem dX8_findWorst_34 : decode cX8_findWorst 34 = .ok (.iconst 0, 1) := by decide +kernel
theorem dX8_findWorst_35 : decode cX8_findWorst 35 = .ok (.istore 5, 2) := by decide +kernel
theorem dX8_findWorst_37 : decode cX8_findWorst 37 = .ok (.iload 5, 2) := by decide +kernel
theorem dX8_findWorst_39 : decode cX8_findWorst 39 = .ok (.bipush 12, 2) := by decide +kernel
theorem dX8_findWorst_41 : decode cX8_findWorst 41 = .ok (.if_icmp .ge 23, 3) := by decide +kernel
theorem dX8_findWorst_44 : decode cX8_findWorst 44 = .ok (.aload_n 0, 1) := by decide +kernel
theorem dX8_findWorst_45 : decode cX8_findWorst 45 = .ok (.getfield 29, 3) := by decide +kernel
theorem dX8_findWorst_48 : decode cX8_findWorst 48 = .ok (.iload 5, 2) := by decide +kernel
theorem dX8_findWorst_50 : decode cX8_findWorst 50 = .ok (.aload_n 0, 1) := by decide +kernel
theorem dX8_findWorst_51 : decode cX8_findWorst 51 = .ok (.getfield 22, 3) := by decide +kernel
theorem dX8_findWorst_54 : decode cX8_findWorst 54 = .ok (.iload 5, 2) := by decide +kernel
theorem dX8_findWorst_56 : decode cX8_findWorst 56 = .ok (.iaload, 1) := by decide +kernel
theorem dX8_findWorst_57 : decode cX8_findWorst 57 = .ok (.iastore, 1) := by decide +kernel
theorem dX8_findWorst_58 : decode cX8_findWorst 58 = .ok (.iinc 5 1, 3) := by decide +kernel
theorem dX8_findWorst_61 : decode cX8_findWorst 61 = .ok (.goto (-24), 3) := by decide +kernel
theorem dX8_findWorst_64 : decode cX8_findWorst 64 = .ok (.iconst 0, 1) := by decide +kernel
theorem dX8_findWorst_65 : decode cX8_findWorst 65 = .ok (.istore 5, 2) := by decide +kernel
theorem dX8_findWorst_67 : decode cX8_findWorst 67 = .ok (.iconst 0, 1) := by decide +kernel
theorem dX8_findWorst_68 : decode cX8_findWorst 68 = .ok (.istore 6, 2) := by decide +kernel
theorem dX8_findWorst_70 : decode cX8_findWorst 70 = .ok (.iload 6, 2) := by decide +kernel
theorem dX8_findWorst_72 : decode cX8_findWorst 72 = .ok (.aload_n 0, 1) := by decide +kernel
theorem dX8_findWorst_73 : decode cX8_findWorst 73 = .ok (.getfield 69, 3) := by decide +kernel
theorem dX8_findWorst_76 : decode cX8_findWorst 76 = .ok (.if_icmp .ge 86, 3) := by decide +kernel
theorem dX8_findWorst_79 : decode cX8_findWorst 79 = .ok (.iload_n 2, 1) := by decide +kernel
theorem dX8_findWorst_80 : decode cX8_findWorst 80 = .ok (.iload 6, 2) := by decide +kernel
theorem dX8_findWorst_82 : decode cX8_findWorst 82 = .ok (.invokestatic 90, 3) := by decide +kernel
theorem dX8_findWorst_85 : decode cX8_findWorst 85 = .ok (.ifCond .eq 71, 3) := by decide +kernel
theorem dX8_findWorst_88 : decode cX8_findWorst 88 = .ok (.aload_n 0, 1) := by decide +kernel
theorem dX8_findWorst_89 : decode cX8_findWorst 89 = .ok (.getfield 13, 3) := by decide +kernel
theorem dX8_findWorst_92 : decode cX8_findWorst 92 = .ok (.iload 6, 2) := by decide +kernel
theorem dX8_findWorst_94 : decode cX8_findWorst 94 = .ok (.iaload, 1) := by decide +kernel
theorem dX8_findWorst_95 : decode cX8_findWorst 95 = .ok (.iload_n 1, 1) := by decide +kernel
theorem dX8_findWorst_96 : decode cX8_findWorst 96 = .ok (.if_icmp .le 15, 3) := by decide +kernel
theorem dX8_findWorst_99 : decode cX8_findWorst 99 = .ok (.aload_n 0, 1) := by decide +kernel
theorem dX8_findWorst_100 : decode cX8_findWorst 100 = .ok (.getfield 13, 3) := by decide +kernel
theorem dX8_findWorst_103 : decode cX8_findWorst 103 = .ok (.iload 6, 2) := by decide +kernel
theorem dX8_findWorst_105 : decode cX8_findWorst 105 = .ok (.iaload, 1) := by decide +kernel
theorem dX8_findWorst_106 : decode cX8_findWorst 106 = .ok (.iload_n 1, 1) := by decide +kernel
theorem dX8_findWorst_107 : decode cX8_findWorst 107 = .ok (.isub, 1) := by decide +kernel
theorem dX8_findWorst_108 : decode cX8_findWorst 108 = .ok (.goto 4, 3) := by decide +kernel
theorem dX8_findWorst_111 : decode cX8_findWorst 111 = .ok (.iconst 0, 1) := by decide +kernel
theorem dX8_findWorst_112 : decode cX8_findWorst 112 = .ok (.istore 7, 2) := by decide +kernel
theorem dX8_findWorst_114 : decode cX8_findWorst 114 = .ok (.aload_n 0, 1) := by decide +kernel
theorem dX8_findWorst_115 : decode cX8_findWorst 115 = .ok (.getfield 29, 3) := by decide +kernel
theorem dX8_findWorst_118 : decode cX8_findWorst 118 = .ok (.aload_n 0, 1) := by decide +kernel
theorem dX8_findWorst_119 : decode cX8_findWorst 119 = .ok (.getfield 16, 3) := by decide +kernel
theorem dX8_findWorst_122 : decode cX8_findWorst 122 = .ok (.iload 6, 2) := by decide +kernel
theorem dX8_findWorst_124 : decode cX8_findWorst 124 = .ok (.iaload, 1) := by decide +kernel
theorem dX8_findWorst_125 : decode cX8_findWorst 125 = .ok (.dup2, 1) := by decide +kernel
theorem dX8_findWorst_126 : decode cX8_findWorst 126 = .ok (.iaload, 1) := by decide +kernel
theorem dX8_findWorst_127 : decode cX8_findWorst 127 = .ok (.iload 4, 2) := by decide +kernel
theorem dX8_findWorst_129 : decode cX8_findWorst 129 = .ok (.iload 5, 2) := by decide +kernel
theorem dX8_findWorst_131 : decode cX8_findWorst 131 = .ok (.invokestatic 90, 3) := by decide +kernel
theorem dX8_findWorst_134 : decode cX8_findWorst 134 = .ok (.ifCond .eq 15, 3) := by decide +kernel
theorem dX8_findWorst_137 : decode cX8_findWorst 137 = .ok (.aload_n 0, 1) := by decide +kernel
theorem dX8_findWorst_138 : decode cX8_findWorst 138 = .ok (.getfield 13, 3) := by decide +kernel
theorem dX8_findWorst_141 : decode cX8_findWorst 141 = .ok (.iload 6, 2) := by decide +kernel
theorem dX8_findWorst_143 : decode cX8_findWorst 143 = .ok (.iaload, 1) := by decide +kernel
theorem dX8_findWorst_144 : decode cX8_findWorst 144 = .ok (.iload_n 1, 1) := by decide +kernel
theorem dX8_findWorst_145 : decode cX8_findWorst 145 = .ok (.iadd, 1) := by decide +kernel
theorem dX8_findWorst_146 : decode cX8_findWorst 146 = .ok (.goto 5, 3) := by decide +kernel
theorem dX8_findWorst_149 : decode cX8_findWorst 149 = .ok (.iload 7, 2) := by decide +kernel
theorem dX8_findWorst_151 : decode cX8_findWorst 151 = .ok (.iadd, 1) := by decide +kernel
theorem dX8_findWorst_152 : decode cX8_findWorst 152 = .ok (.iastore, 1) := by decide +kernel
theorem dX8_findWorst_153 : decode cX8_findWorst 153 = .ok (.iinc 5 1, 3) := by decide +kernel
theorem dX8_findWorst_156 : decode cX8_findWorst 156 = .ok (.iinc 6 1, 3) := by decide +kernel
theorem dX8_findWorst_159 : decode cX8_findWorst 159 = .ok (.goto (-89), 3) := by decide +kernel
theorem dX8_findWorst_162 : decode cX8_findWorst 162 = .ok (.aload_n 0, 1) := by decide +kernel
theorem dX8_findWorst_163 : decode cX8_findWorst 163 = .ok (.invokevirtual 132, 3) := by decide +kernel
theorem dX8_findWorst_166 : decode cX8_findWorst 166 = .ok (.aload_n 0, 1) := by decide +kernel
theorem dX8_findWorst_167 : decode cX8_findWorst 167 = .ok (.getfield 262, 3) := by decide +kernel
theorem dX8_findWorst_170 : decode cX8_findWorst 170 = .ok (.lconst 0, 1) := by decide +kernel
theorem dX8_findWorst_171 : decode cX8_findWorst 171 = .ok (.lcmp, 1) := by decide +kernel
theorem dX8_findWorst_172 : decode cX8_findWorst 172 = .ok (.ifCond .lt 27, 3) := by decide +kernel
theorem dX8_findWorst_175 : decode cX8_findWorst 175 = .ok (.aload_n 0, 1) := by decide +kernel
theorem dX8_findWorst_176 : decode cX8_findWorst 176 = .ok (.getfield 123, 3) := by decide +kernel
theorem dX8_findWorst_179 : decode cX8_findWorst 179 = .ok (.aload_n 0, 1) := by decide +kernel
theorem dX8_findWorst_180 : decode cX8_findWorst 180 = .ok (.getfield 262, 3) := by decide +kernel
theorem dX8_findWorst_183 : decode cX8_findWorst 183 = .ok (.lsub, 1) := by decide +kernel
theorem dX8_findWorst_184 : decode cX8_findWorst 184 = .ok (.aload_n 0, 1) := by decide +kernel
theorem dX8_findWorst_185 : decode cX8_findWorst 185 = .ok (.getfield 129, 3) := by decide +kernel
theorem dX8_findWorst_188 : decode cX8_findWorst 188 = .ok (.aload_n 0, 1) := by decide +kernel
theorem dX8_findWorst_189 : decode cX8_findWorst 189 = .ok (.getfield 265, 3) := by decide +kernel
theorem dX8_findWorst_192 : decode cX8_findWorst 192 = .ok (.lsub, 1) := by decide +kernel
theorem dX8_findWorst_193 : decode cX8_findWorst 193 = .ok (.invokestatic 137, 3) := by decide +kernel
theorem dX8_findWorst_196 : decode cX8_findWorst 196 = .ok (.ifCond .ne 19, 3) := by decide +kernel
theorem dX8_findWorst_199 : decode cX8_findWorst 199 = .ok (.aload_n 0, 1) := by decide +kernel
theorem dX8_findWorst_200 : decode cX8_findWorst 200 = .ok (.aload_n 0, 1) := by decide +kernel
theorem dX8_findWorst_201 : decode cX8_findWorst 201 = .ok (.getfield 123, 3) := by decide +kernel
theorem dX8_findWorst_204 : decode cX8_findWorst 204 = .ok (.putfield 262, 3) := by decide +kernel
theorem dX8_findWorst_207 : decode cX8_findWorst 207 = .ok (.aload_n 0, 1) := by decide +kernel
theorem dX8_findWorst_208 : decode cX8_findWorst 208 = .ok (.aload_n 0, 1) := by decide +kernel
theorem dX8_findWorst_209 : decode cX8_findWorst 209 = .ok (.getfield 129, 3) := by decide +kernel
theorem dX8_findWorst_212 : decode cX8_findWorst 212 = .ok (.putfield 265, 3) := by decide +kernel
theorem dX8_findWorst_215 : decode cX8_findWorst 215 = .ok (.iinc 4 1, 3) := by decide +kernel
theorem dX8_findWorst_218 : decode cX8_findWorst 218 = .ok (.goto (-192), 3) := by decide +kernel
theorem dX8_findWorst_221 : decode cX8_findWorst 221 = .ok (.return_, 1) := by decide +kernel
theorem dX8_sure_0 : decode cX8_sure 0 = .ok (.iload_n 1, 1) := by decide +kernel
theorem dX8_sure_1 : decode cX8_sure 1 = .ok (.i2l, 1) := by decide +kernel
theorem dX8_sure_2 : decode cX8_sure 2 = .ok (.lconst 0, 1) := by decide +kernel
theorem dX8_sure_3 : decode cX8_sure 3 = .ok (.ldc2_w 196, 3) := by decide +kernel
theorem dX8_sure_6 : decode cX8_sure 6 = .ok (.invokestatic 72, 3) := by decide +kernel
theorem dX8_sure_9 : decode cX8_sure 9 = .ok (.ifCond .ne 5, 3) := by decide +kernel
theorem dX8_sure_12 : decode cX8_sure 12 = .ok (.iconst (-1), 1) := by decide +kernel
theorem dX8_sure_13 : decode cX8_sure 13 = .ok (.ireturn, 1) := by decide +kernel
theorem dX8_sure_14 : decode cX8_sure 14 = .ok (.aload_n 0, 1) := by decide +kernel
theorem dX8_sure_15 : decode cX8_sure 15 = .ok (.iconst 4, 1) := by decide +kernel
theorem dX8_sure_16 : decode cX8_sure 16 = .ok (.invokevirtual 250, 3) := by decide +kernel
theorem dX8_sure_19 : decode cX8_sure 19 = .ok (.invokestatic 229, 3) := by decide +kernel
theorem dX8_sure_22 : decode cX8_sure 22 = .ok (.bipush 8, 2) := by decide +kernel
theorem dX8_sure_24 : decode cX8_sure 24 = .ok (.if_icmp .le 6, 3) := by decide +kernel
theorem dX8_sure_27 : decode cX8_sure 27 = .ok (.bipush (-3), 2) := by decide +kernel
theorem dX8_sure_29 : decode cX8_sure 29 = .ok (.ireturn, 1) := by decide +kernel
theorem dX8_sure_30 : decode cX8_sure 30 = .ok (.aload_n 0, 1) := by decide +kernel
theorem dX8_sure_31 : decode cX8_sure 31 = .ok (.iload_n 1, 1) := by decide +kernel
theorem dX8_sure_32 : decode cX8_sure 32 = .ok (.invokevirtual 268, 3) := by decide +kernel
theorem dX8_sure_35 : decode cX8_sure 35 = .ok (.aload_n 0, 1) := by decide +kernel
theorem dX8_sure_36 : decode cX8_sure 36 = .ok (.getfield 262, 3) := by decide +kernel
theorem dX8_sure_39 : decode cX8_sure 39 = .ok (.ldc2_w 135, 3) := by decide +kernel
theorem dX8_sure_42 : decode cX8_sure 42 = .ok (.aload_n 0, 1) := by decide +kernel
theorem dX8_sure_43 : decode cX8_sure 43 = .ok (.getfield 25, 3) := by decide +kernel
theorem dX8_sure_46 : decode cX8_sure 46 = .ok (.i2l, 1) := by decide +kernel
theorem dX8_sure_47 : decode cX8_sure 47 = .ok (.lmul, 1) := by decide +kernel
theorem dX8_sure_48 : decode cX8_sure 48 = .ok (.aload_n 0, 1) := by decide +kernel
theorem dX8_sure_49 : decode cX8_sure 49 = .ok (.getfield 25, 3) := by decide +kernel
theorem dX8_sure_52 : decode cX8_sure 52 = .ok (.i2l, 1) := by decide +kernel
theorem dX8_sure_53 : decode cX8_sure 53 = .ok (.lmul, 1) := by decide +kernel
theorem dX8_sure_54 : decode cX8_sure 54 = .ok (.lsub, 1) := by decide +kernel
theorem dX8_sure_55 : decode cX8_sure 55 = .ok (.aload_n 0, 1) := by decide +kernel
theorem dX8_sure_56 : decode cX8_sure 56 = .ok (.getfield 265, 3) := by decide +kernel
theorem dX8_sure_59 : decode cX8_sure 59 = .ok (.invokestatic 137, 3) := by decide +kernel
theorem dX8_sure_62 : decode cX8_sure 62 = .ok (.ifCond .eq 7, 3) := by decide +kernel
theorem dX8_sure_65 : decode cX8_sure 65 = .ok (.iconst 1, 1) := by decide +kernel
theorem dX8_sure_66 : decode cX8_sure 66 = .ok (.goto 4, 3) := by decide +kernel
theorem dX8_sure_69 : decode cX8_sure 69 = .ok (.iconst 0, 1) := by decide +kernel
theorem dX8_sure_70 : decode cX8_sure 70 = .ok (.ireturn, 1) := by decide +kernel
theorem dX8_worst_0 : decode cX8_worst 0 = .ok (.iload_n 1, 1) := by decide +kernel
theorem dX8_worst_1 : decode cX8_worst 1 = .ok (.i2l, 1) := by decide +kernel
theorem dX8_worst_2 : decode cX8_worst 2 = .ok (.lconst 0, 1) := by decide +kernel
theorem dX8_worst_3 : decode cX8_worst 3 = .ok (.ldc2_w 196, 3) := by decide +kernel
theorem dX8_worst_6 : decode cX8_worst 6 = .ok (.invokestatic 72, 3) := by decide +kernel
theorem dX8_worst_9 : decode cX8_worst 9 = .ok (.ifCond .eq 13, 3) := by decide +kernel
theorem dX8_worst_12 : decode cX8_worst 12 = .ok (.iload_n 2, 1) := by decide +kernel
theorem dX8_worst_13 : decode cX8_worst 13 = .ok (.i2l, 1) := by decide +kernel
theorem dX8_worst_14 : decode cX8_worst 14 = .ok (.lconst 0, 1) := by decide +kernel
theorem dX8_worst_15 : decode cX8_worst 15 = .ok (.lconst 1, 1) := by decide +kernel
theorem dX8_worst_16 : decode cX8_worst 16 = .ok (.invokestatic 72, 3) := by decide +kernel
theorem dX8_worst_19 : decode cX8_worst 19 = .ok (.ifCond .ne 6, 3) := by decide +kernel
theorem dX8_worst_22 : decode cX8_worst 22 = .ok (.ldc 155, 2) := by decide +kernel
theorem dX8_worst_24 : decode cX8_worst 24 = .ok (.ireturn, 1) := by decide +kernel
theorem dX8_worst_25 : decode cX8_worst 25 = .ok (.aload_n 0, 1) := by decide +kernel
theorem dX8_worst_26 : decode cX8_worst 26 = .ok (.iconst 4, 1) := by decide +kernel
theorem dX8_worst_27 : decode cX8_worst 27 = .ok (.invokevirtual 250, 3) := by decide +kernel
theorem dX8_worst_30 : decode cX8_worst 30 = .ok (.invokestatic 229, 3) := by decide +kernel
theorem dX8_worst_33 : decode cX8_worst 33 = .ok (.bipush 8, 2) := by decide +kernel
theorem dX8_worst_35 : decode cX8_worst 35 = .ok (.if_icmp .le 7, 3) := by decide +kernel
theorem dX8_worst_38 : decode cX8_worst 38 = .ok (.ldc_w 271, 3) := by decide +kernel
theorem dX8_worst_41 : decode cX8_worst 41 = .ok (.ireturn, 1) := by decide +kernel
theorem dX8_worst_42 : decode cX8_worst 42 = .ok (.aload_n 0, 1) := by decide +kernel
theorem dX8_worst_43 : decode cX8_worst 43 = .ok (.iload_n 1, 1) := by decide +kernel
theorem dX8_worst_44 : decode cX8_worst 44 = .ok (.invokevirtual 268, 3) := by decide +kernel
theorem dX8_worst_47 : decode cX8_worst 47 = .ok (.iload_n 2, 1) := by decide +kernel
theorem dX8_worst_48 : decode cX8_worst 48 = .ok (.ifCond .ne 10, 3) := by decide +kernel
theorem dX8_worst_51 : decode cX8_worst 51 = .ok (.aload_n 0, 1) := by decide +kernel
theorem dX8_worst_52 : decode cX8_worst 52 = .ok (.getfield 262, 3) := by decide +kernel
theorem dX8_worst_55 : decode cX8_worst 55 = .ok (.goto 7, 3) := by decide +kernel
theorem dX8_worst_58 : decode cX8_worst 58 = .ok (.aload_n 0, 1) := by decide +kernel
theorem dX8_worst_59 : decode cX8_worst 59 = .ok (.getfield 265, 3) := by decide +kernel
theorem dX8_worst_62 : decode cX8_worst 62 = .ok (.l2i, 1) := by decide +kernel
theorem dX8_worst_63 : decode cX8_worst 63 = .ok (.ireturn, 1) := by decide +kernel
theorem dX8_carried_0 : decode cX8_carried 0 = .ok (.iload_n 1, 1) := by decide +kernel
theorem dX8_carried_1 : decode cX8_carried 1 = .ok (.bipush 40, 2) := by decide +kernel
theorem dX8_carried_3 : decode cX8_carried 3 = .ok (.if_icmp .ge 181, 3) := by decide +kernel
theorem dX8_carried_6 : decode cX8_carried 6 = .ok (.iload_n 1, 1) := by decide +kernel
theorem dX8_carried_7 : decode cX8_carried 7 = .ok (.bipush 10, 2) := by decide +kernel
theorem dX8_carried_9 : decode cX8_carried 9 = .ok (.irem, 1) := by decide +kernel
theorem dX8_carried_10 : decode cX8_carried 10 = .ok (.istore 4, 2) := by decide +kernel
theorem dX8_carried_12 : decode cX8_carried 12 = .ok (.iload_n 1, 1) := by decide +kernel
theorem dX8_carried_13 : decode cX8_carried 13 = .ok (.bipush 10, 2) := by decide +kernel
theorem dX8_carried_15 : decode cX8_carried 15 = .ok (.idiv, 1) := by decide +kernel
theorem dX8_carried_16 : decode cX8_carried 16 = .ok (.istore 5, 2) := by decide +kernel
theorem dX8_carried_18 : decode cX8_carried 18 = .ok (.aload_n 0, 1) := by decide +kernel
theorem dX8_carried_19 : decode cX8_carried 19 = .ok (.getfield 7, 3) := by decide +kernel
theorem dX8_carried_22 : decode cX8_carried 22 = .ok (.iload 4, 2) := by decide +kernel
theorem dX8_carried_24 : decode cX8_carried 24 = .ok (.iload_n 3, 1) := by decide +kernel
theorem dX8_carried_25 : decode cX8_carried 25 = .ok (.ifCond .eq 12, 3) := by decide +kernel
theorem dX8_carried_28 : decode cX8_carried 28 = .ok (.iload 5, 2) := by decide +kernel
theorem dX8_carried_30 : decode cX8_carried 30 = .ok (.ifCond .ne 7, 3) := by decide +kernel
theorem dX8_carried_33 : decode cX8_carried 33 = .ok (.iload_n 2, 1) := by decide +kernel
theorem dX8_carried_34 : decode cX8_carried 34 = .ok (.goto 10, 3) := by decide +kernel
theorem dX8_carried_37 : decode cX8_carried 37 = .ok (.aload_n 0, 1) := by decide +kernel
theorem dX8_carried_38 : decode cX8_carried 38 = .ok (.getfield 7, 3) := by decide +kernel
theorem dX8_carried_41 : decode cX8_carried 41 = .ok (.iload 4, 2) := by decide +kernel
theorem dX8_carried_43 : decode cX8_carried 43 = .ok (.iaload, 1) := by decide +kernel
theorem dX8_carried_44 : decode cX8_carried 44 = .ok (.iastore, 1) := by decide +kernel
theorem dX8_carried_45 : decode cX8_carried 45 = .ok (.aload_n 0, 1) := by decide +kernel
theorem dX8_carried_46 : decode cX8_carried 46 = .ok (.getfield 13, 3) := by decide +kernel
theorem dX8_carried_49 : decode cX8_carried 49 = .ok (.iload 4, 2) := by decide +kernel
theorem dX8_carried_51 : decode cX8_carried 51 = .ok (.iload_n 3, 1) := by decide +kernel
theorem dX8_carried_52 : decode cX8_carried 52 = .ok (.ifCond .eq 13, 3) := by decide +kernel
theorem dX8_carried_55 : decode cX8_carried 55 = .ok (.iload 5, 2) := by decide +kernel
theorem dX8_carried_57 : decode cX8_carried 57 = .ok (.iconst 1, 1) := by decide +kernel
theorem dX8_carried_58 : decode cX8_carried 58 = .ok (.if_icmp .ne 7, 3) := by decide +kernel
theorem dX8_carried_61 : decode cX8_carried 61 = .ok (.iload_n 2, 1) := by decide +kernel
theorem dX8_carried_62 : decode cX8_carried 62 = .ok (.goto 10, 3) := by decide +kernel
theorem dX8_carried_65 : decode cX8_carried 65 = .ok (.aload_n 0, 1) := by decide +kernel
theorem dX8_carried_66 : decode cX8_carried 66 = .ok (.getfield 13, 3) := by decide +kernel
theorem dX8_carried_69 : decode cX8_carried 69 = .ok (.iload 4, 2) := by decide +kernel
theorem dX8_carried_71 : decode cX8_carried 71 = .ok (.iaload, 1) := by decide +kernel
theorem dX8_carried_72 : decode cX8_carried 72 = .ok (.iastore, 1) := by decide +kernel
theorem dX8_carried_73 : decode cX8_carried 73 = .ok (.aload_n 0, 1) := by decide +kernel
theorem dX8_carried_74 : decode cX8_carried 74 = .ok (.getfield 16, 3) := by decide +kernel
theorem dX8_carried_77 : decode cX8_carried 77 = .ok (.iload 4, 2) := by decide +kernel
theorem dX8_carried_79 : decode cX8_carried 79 = .ok (.iload_n 3, 1) := by decide +kernel
theorem dX8_carried_80 : decode cX8_carried 80 = .ok (.ifCond .eq 13, 3) := by decide +kernel
theorem dX8_carried_83 : decode cX8_carried 83 = .ok (.iload 5, 2) := by decide +kernel
theorem dX8_carried_85 : decode cX8_carried 85 = .ok (.iconst 2, 1) := by decide +kernel
theorem dX8_carried_86 : decode cX8_carried 86 = .ok (.if_icmp .ne 7, 3) := by decide +kernel
theorem dX8_carried_89 : decode cX8_carried 89 = .ok (.iload_n 2, 1) := by decide +kernel
theorem dX8_carried_90 : decode cX8_carried 90 = .ok (.goto 10, 3) := by decide +kernel
theorem dX8_carried_93 : decode cX8_carried 93 = .ok (.aload_n 0, 1) := by decide +kernel
theorem dX8_carried_94 : decode cX8_carried 94 = .ok (.getfield 16, 3) := by decide +kernel
theorem dX8_carried_97 : decode cX8_carried 97 = .ok (.iload 4, 2) := by decide +kernel
theorem dX8_carried_99 : decode cX8_carried 99 = .ok (.iaload, 1) := by decide +kernel
theorem dX8_carried_100 : decode cX8_carried 100 = .ok (.iastore, 1) := by decide +kernel
theorem dX8_carried_101 : decode cX8_carried 101 = .ok (.aload_n 0, 1) := by decide +kernel
theorem dX8_carried_102 : decode cX8_carried 102 = .ok (.getfield 19, 3) := by decide +kernel
theorem dX8_carried_105 : decode cX8_carried 105 = .ok (.iload 4, 2) := by decide +kernel
theorem dX8_carried_107 : decode cX8_carried 107 = .ok (.iload_n 3, 1) := by decide +kernel
theorem dX8_carried_108 : decode cX8_carried 108 = .ok (.ifCond .eq 13, 3) := by decide +kernel
theorem dX8_carried_111 : decode cX8_carried 111 = .ok (.iload 5, 2) := by decide +kernel
theorem dX8_carried_113 : decode cX8_carried 113 = .ok (.iconst 3, 1) := by decide +kernel
theorem dX8_carried_114 : decode cX8_carried 114 = .ok (.if_icmp .ne 7, 3) := by decide +kernel
theorem dX8_carried_117 : decode cX8_carried 117 = .ok (.iload_n 2, 1) := by decide +kernel
theorem dX8_carried_118 : decode cX8_carried 118 = .ok (.goto 10, 3) := by decide +kernel
theorem dX8_carried_121 : decode cX8_carried 121 = .ok (.aload_n 0, 1) := by decide +kernel
theorem dX8_carried_122 : decode cX8_carried 122 = .ok (.getfield 19, 3) := by decide +kernel
theorem dX8_carried_125 : decode cX8_carried 125 = .ok (.iload 4, 2) := by decide +kernel
theorem dX8_carried_127 : decode cX8_carried 127 = .ok (.iaload, 1) := by decide +kernel
theorem dX8_carried_128 : decode cX8_carried 128 = .ok (.iastore, 1) := by decide +kernel
theorem dX8_carried_129 : decode cX8_carried 129 = .ok (.iload 5, 2) := by decide +kernel
theorem dX8_carried_131 : decode cX8_carried 131 = .ok (.ifCond .ne 13, 3) := by decide +kernel
theorem dX8_carried_134 : decode cX8_carried 134 = .ok (.aload_n 0, 1) := by decide +kernel
theorem dX8_carried_135 : decode cX8_carried 135 = .ok (.getfield 7, 3) := by decide +kernel
theorem dX8_carried_138 : decode cX8_carried 138 = .ok (.iload 4, 2) := by decide +kernel
theorem dX8_carried_140 : decode cX8_carried 140 = .ok (.iaload, 1) := by decide +kernel
theorem dX8_carried_141 : decode cX8_carried 141 = .ok (.goto 42, 3) := by decide +kernel
theorem dX8_carried_144 : decode cX8_carried 144 = .ok (.iload 5, 2) := by decide +kernel
theorem dX8_carried_146 : decode cX8_carried 146 = .ok (.iconst 1, 1) := by decide +kernel
theorem dX8_carried_147 : decode cX8_carried 147 = .ok (.if_icmp .ne 13, 3) := by decide +kernel
theorem dX8_carried_150 : decode cX8_carried 150 = .ok (.aload_n 0, 1) := by decide +kernel
theorem dX8_carried_151 : decode cX8_carried 151 = .ok (.getfield 13, 3) := by decide +kernel
theorem dX8_carried_154 : decode cX8_carried 154 = .ok (.iload 4, 2) := by decide +kernel
theorem dX8_carried_156 : decode cX8_carried 156 = .ok (.iaload, 1) := by decide +kernel
theorem dX8_carried_157 : decode cX8_carried 157 = .ok (.goto 26, 3) := by decide +kernel
theorem dX8_carried_160 : decode cX8_carried 160 = .ok (.iload 5, 2) := by decide +kernel
theorem dX8_carried_162 : decode cX8_carried 162 = .ok (.iconst 2, 1) := by decide +kernel
theorem dX8_carried_163 : decode cX8_carried 163 = .ok (.if_icmp .ne 13, 3) := by decide +kernel
theorem dX8_carried_166 : decode cX8_carried 166 = .ok (.aload_n 0, 1) := by decide +kernel
theorem dX8_carried_167 : decode cX8_carried 167 = .ok (.getfield 16, 3) := by decide +kernel
theorem dX8_carried_170 : decode cX8_carried 170 = .ok (.iload 4, 2) := by decide +kernel
theorem dX8_carried_172 : decode cX8_carried 172 = .ok (.iaload, 1) := by decide +kernel
theorem dX8_carried_173 : decode cX8_carried 173 = .ok (.goto 10, 3) := by decide +kernel
theorem dX8_carried_176 : decode cX8_carried 176 = .ok (.aload_n 0, 1) := by decide +kernel
theorem dX8_carried_177 : decode cX8_carried 177 = .ok (.getfield 19, 3) := by decide +kernel
theorem dX8_carried_180 : decode cX8_carried 180 = .ok (.iload 4, 2) := by decide +kernel
theorem dX8_carried_182 : decode cX8_carried 182 = .ok (.iaload, 1) := by decide +kernel
theorem dX8_carried_183 : decode cX8_carried 183 = .ok (.ireturn, 1) := by decide +kernel
theorem dX8_carried_184 : decode cX8_carried 184 = .ok (.iload_n 1, 1) := by decide +kernel
theorem dX8_carried_185 : decode cX8_carried 185 = .ok (.bipush 52, 2) := by decide +kernel
theorem dX8_carried_187 : decode cX8_carried 187 = .ok (.if_icmp .ge 39, 3) := by decide +kernel
theorem dX8_carried_190 : decode cX8_carried 190 = .ok (.aload_n 0, 1) := by decide +kernel
theorem dX8_carried_191 : decode cX8_carried 191 = .ok (.getfield 22, 3) := by decide +kernel
theorem dX8_carried_194 : decode cX8_carried 194 = .ok (.iload_n 1, 1) := by decide +kernel
theorem dX8_carried_195 : decode cX8_carried 195 = .ok (.bipush 40, 2) := by decide +kernel
theorem dX8_carried_197 : decode cX8_carried 197 = .ok (.isub, 1) := by decide +kernel
theorem dX8_carried_198 : decode cX8_carried 198 = .ok (.iload_n 3, 1) := by decide +kernel
theorem dX8_carried_199 : decode cX8_carried 199 = .ok (.ifCond .eq 7, 3) := by decide +kernel
theorem dX8_carried_202 : decode cX8_carried 202 = .ok (.iload_n 2, 1) := by decide +kernel
theorem dX8_carried_203 : decode cX8_carried 203 = .ok (.goto 12, 3) := by decide +kernel
theorem dX8_carried_206 : decode cX8_carried 206 = .ok (.aload_n 0, 1) := by decide +kernel
theorem dX8_carried_207 : decode cX8_carried 207 = .ok (.getfield 22, 3) := by decide +kernel
theorem dX8_carried_210 : decode cX8_carried 210 = .ok (.iload_n 1, 1) := by decide +kernel
theorem dX8_carried_211 : decode cX8_carried 211 = .ok (.bipush 40, 2) := by decide +kernel
theorem dX8_carried_213 : decode cX8_carried 213 = .ok (.isub, 1) := by decide +kernel
theorem dX8_carried_214 : decode cX8_carried 214 = .ok (.iaload, 1) := by decide +kernel
theorem dX8_carried_215 : decode cX8_carried 215 = .ok (.iastore, 1) := by decide +kernel
theorem dX8_carried_216 : decode cX8_carried 216 = .ok (.aload_n 0, 1) := by decide +kernel
theorem dX8_carried_217 : decode cX8_carried 217 = .ok (.getfield 22, 3) := by decide +kernel
theorem dX8_carried_220 : decode cX8_carried 220 = .ok (.iload_n 1, 1) := by decide +kernel
theorem dX8_carried_221 : decode cX8_carried 221 = .ok (.bipush 40, 2) := by decide +kernel
theorem dX8_carried_223 : decode cX8_carried 223 = .ok (.isub, 1) := by decide +kernel
theorem dX8_carried_224 : decode cX8_carried 224 = .ok (.iaload, 1) := by decide +kernel
theorem dX8_carried_225 : decode cX8_carried 225 = .ok (.ireturn, 1) := by decide +kernel
theorem dX8_carried_226 : decode cX8_carried 226 = .ok (.aload_n 0, 1) := by decide +kernel
theorem dX8_carried_227 : decode cX8_carried 227 = .ok (.iload_n 3, 1) := by decide +kernel
theorem dX8_carried_228 : decode cX8_carried 228 = .ok (.ifCond .eq 13, 3) := by decide +kernel
theorem dX8_carried_231 : decode cX8_carried 231 = .ok (.iload_n 1, 1) := by decide +kernel
theorem dX8_carried_232 : decode cX8_carried 232 = .ok (.bipush 52, 2) := by decide +kernel
theorem dX8_carried_234 : decode cX8_carried 234 = .ok (.if_icmp .ne 7, 3) := by decide +kernel
theorem dX8_carried_237 : decode cX8_carried 237 = .ok (.iload_n 2, 1) := by decide +kernel
theorem dX8_carried_238 : decode cX8_carried 238 = .ok (.goto 7, 3) := by decide +kernel
theorem dX8_carried_241 : decode cX8_carried 241 = .ok (.aload_n 0, 1) := by decide +kernel
theorem dX8_carried_242 : decode cX8_carried 242 = .ok (.getfield 69, 3) := by decide +kernel
theorem dX8_carried_245 : decode cX8_carried 245 = .ok (.putfield 69, 3) := by decide +kernel
theorem dX8_carried_248 : decode cX8_carried 248 = .ok (.aload_n 0, 1) := by decide +kernel
theorem dX8_carried_249 : decode cX8_carried 249 = .ok (.iload_n 3, 1) := by decide +kernel
theorem dX8_carried_250 : decode cX8_carried 250 = .ok (.ifCond .eq 13, 3) := by decide +kernel
theorem dX8_carried_253 : decode cX8_carried 253 = .ok (.iload_n 1, 1) := by decide +kernel
theorem dX8_carried_254 : decode cX8_carried 254 = .ok (.bipush 53, 2) := by decide +kernel
theorem dX8_carried_256 : decode cX8_carried 256 = .ok (.if_icmp .ne 7, 3) := by decide +kernel
theorem dX8_carried_259 : decode cX8_carried 259 = .ok (.iload_n 2, 1) := by decide +kernel
theorem dX8_carried_260 : decode cX8_carried 260 = .ok (.goto 7, 3) := by decide +kernel
theorem dX8_carried_263 : decode cX8_carried 263 = .ok (.aload_n 0, 1) := by decide +kernel
theorem dX8_carried_264 : decode cX8_carried 264 = .ok (.getfield 25, 3) := by decide +kernel
theorem dX8_carried_267 : decode cX8_carried 267 = .ok (.putfield 25, 3) := by decide +kernel
theorem dX8_carried_270 : decode cX8_carried 270 = .ok (.aload_n 0, 1) := by decide +kernel
theorem dX8_carried_271 : decode cX8_carried 271 = .ok (.iload_n 3, 1) := by decide +kernel
theorem dX8_carried_272 : decode cX8_carried 272 = .ok (.ifCond .eq 13, 3) := by decide +kernel
theorem dX8_carried_275 : decode cX8_carried 275 = .ok (.iload_n 1, 1) := by decide +kernel
theorem dX8_carried_276 : decode cX8_carried 276 = .ok (.bipush 54, 2) := by decide +kernel
theorem dX8_carried_278 : decode cX8_carried 278 = .ok (.if_icmp .ne 7, 3) := by decide +kernel
theorem dX8_carried_281 : decode cX8_carried 281 = .ok (.iload_n 2, 1) := by decide +kernel
theorem dX8_carried_282 : decode cX8_carried 282 = .ok (.goto 7, 3) := by decide +kernel
theorem dX8_carried_285 : decode cX8_carried 285 = .ok (.aload_n 0, 1) := by decide +kernel
theorem dX8_carried_286 : decode cX8_carried 286 = .ok (.getfield 156, 3) := by decide +kernel
theorem dX8_carried_289 : decode cX8_carried 289 = .ok (.putfield 156, 3) := by decide +kernel
theorem dX8_carried_292 : decode cX8_carried 292 = .ok (.aload_n 0, 1) := by decide +kernel
theorem dX8_carried_293 : decode cX8_carried 293 = .ok (.iload_n 3, 1) := by decide +kernel
theorem dX8_carried_294 : decode cX8_carried 294 = .ok (.ifCond .eq 13, 3) := by decide +kernel
theorem dX8_carried_297 : decode cX8_carried 297 = .ok (.iload_n 1, 1) := by decide +kernel
theorem dX8_carried_298 : decode cX8_carried 298 = .ok (.bipush 55, 2) := by decide +kernel
theorem dX8_carried_300 : decode cX8_carried 300 = .ok (.if_icmp .ne 7, 3) := by decide +kernel
theorem dX8_carried_303 : decode cX8_carried 303 = .ok (.iload_n 2, 1) := by decide +kernel
theorem dX8_carried_304 : decode cX8_carried 304 = .ok (.goto 7, 3) := by decide +kernel
theorem dX8_carried_307 : decode cX8_carried 307 = .ok (.aload_n 0, 1) := by decide +kernel
theorem dX8_carried_308 : decode cX8_carried 308 = .ok (.getfield 159, 3) := by decide +kernel
theorem dX8_carried_311 : decode cX8_carried 311 = .ok (.putfield 159, 3) := by decide +kernel
theorem dX8_carried_314 : decode cX8_carried 314 = .ok (.iload_n 1, 1) := by decide +kernel
theorem dX8_carried_315 : decode cX8_carried 315 = .ok (.bipush 52, 2) := by decide +kernel
theorem dX8_carried_317 : decode cX8_carried 317 = .ok (.if_icmp .ne 10, 3) := by decide +kernel
theorem dX8_carried_320 : decode cX8_carried 320 = .ok (.aload_n 0, 1) := by decide +kernel
theorem dX8_carried_321 : decode cX8_carried 321 = .ok (.getfield 69, 3) := by decide +kernel
theorem dX8_carried_324 : decode cX8_carried 324 = .ok (.goto 33, 3) := by decide +kernel
theorem dX8_carried_327 : decode cX8_carried 327 = .ok (.iload_n 1, 1) := by decide +kernel
theorem dX8_carried_328 : decode cX8_carried 328 = .ok (.bipush 53, 2) := by decide +kernel
theorem dX8_carried_330 : decode cX8_carried 330 = .ok (.if_icmp .ne 10, 3) := by decide +kernel
theorem dX8_carried_333 : decode cX8_carried 333 = .ok (.aload_n 0, 1) := by decide +kernel
theorem dX8_carried_334 : decode cX8_carried 334 = .ok (.getfield 25, 3) := by decide +kernel
theorem dX8_carried_337 : decode cX8_carried 337 = .ok (.goto 20, 3) := by decide +kernel
theorem dX8_carried_340 : decode cX8_carried 340 = .ok (.iload_n 1, 1) := by decide +kernel
theorem dX8_carried_341 : decode cX8_carried 341 = .ok (.bipush 54, 2) := by decide +kernel
theorem dX8_carried_343 : decode cX8_carried 343 = .ok (.if_icmp .ne 10, 3) := by decide +kernel
theorem dX8_carried_346 : decode cX8_carried 346 = .ok (.aload_n 0, 1) := by decide +kernel
theorem dX8_carried_347 : decode cX8_carried 347 = .ok (.getfield 156, 3) := by decide +kernel
theorem dX8_carried_350 : decode cX8_carried 350 = .ok (.goto 7, 3) := by decide +kernel
theorem dX8_carried_353 : decode cX8_carried 353 = .ok (.aload_n 0, 1) := by decide +kernel
theorem dX8_carried_354 : decode cX8_carried 354 = .ok (.getfield 159, 3) := by decide +kernel
theorem dX8_carried_357 : decode cX8_carried 357 = .ok (.ireturn, 1) := by decide +kernel
theorem dX8_image_0 : decode cX8_image 0 = .ok (.iconst 0, 1) := by decide +kernel
theorem dX8_image_1 : decode cX8_image 1 = .ok (.istore_n 1, 1) := by decide +kernel
theorem dX8_image_2 : decode cX8_image 2 = .ok (.iload_n 1, 1) := by decide +kernel
theorem dX8_image_3 : decode cX8_image 3 = .ok (.bipush 56, 2) := by decide +kernel
theorem dX8_image_5 : decode cX8_image 5 = .ok (.if_icmp .ge 22, 3) := by decide +kernel
theorem dX8_image_8 : decode cX8_image 8 = .ok (.aload_n 0, 1) := by decide +kernel
theorem dX8_image_9 : decode cX8_image 9 = .ok (.getfield 54, 3) := by decide +kernel
theorem dX8_image_12 : decode cX8_image 12 = .ok (.iload_n 1, 1) := by decide +kernel
theorem dX8_image_13 : decode cX8_image 13 = .ok (.aload_n 0, 1) := by decide +kernel
theorem dX8_image_14 : decode cX8_image 14 = .ok (.iload_n 1, 1) := by decide +kernel
theorem dX8_image_15 : decode cX8_image 15 = .ok (.iconst 0, 1) := by decide +kernel
theorem dX8_image_16 : decode cX8_image 16 = .ok (.iconst 0, 1) := by decide +kernel
theorem dX8_image_17 : decode cX8_image 17 = .ok (.invokevirtual 272, 3) := by decide +kernel
theorem dX8_image_20 : decode cX8_image 20 = .ok (.iastore, 1) := by decide +kernel
theorem dX8_image_21 : decode cX8_image 21 = .ok (.iinc 1 1, 3) := by decide +kernel
theorem dX8_image_24 : decode cX8_image 24 = .ok (.goto (-22), 3) := by decide +kernel
theorem dX8_image_27 : decode cX8_image 27 = .ok (.aload_n 0, 1) := by decide +kernel
theorem dX8_image_28 : decode cX8_image 28 = .ok (.iconst 1, 1) := by decide +kernel
theorem dX8_image_29 : decode cX8_image 29 = .ok (.putfield 276, 3) := by decide +kernel
theorem dX8_image_32 : decode cX8_image 32 = .ok (.iconst 1, 1) := by decide +kernel
theorem dX8_image_33 : decode cX8_image 33 = .ok (.ireturn, 1) := by decide +kernel
theorem dX8_restore_0 : decode cX8_restore 0 = .ok (.aload_n 0, 1) := by decide +kernel
theorem dX8_restore_1 : decode cX8_restore 1 = .ok (.getfield 276, 3) := by decide +kernel
theorem dX8_restore_4 : decode cX8_restore 4 = .ok (.ifCond .ne 6, 3) := by decide +kernel
theorem dX8_restore_7 : decode cX8_restore 7 = .ok (.bipush (-4), 2) := by decide +kernel
theorem dX8_restore_9 : decode cX8_restore 9 = .ok (.ireturn, 1) := by decide +kernel
theorem dX8_restore_10 : decode cX8_restore 10 = .ok (.iconst 0, 1) := by decide +kernel
theorem dX8_restore_11 : decode cX8_restore 11 = .ok (.istore_n 1, 1) := by decide +kernel
theorem dX8_restore_12 : decode cX8_restore 12 = .ok (.iload_n 1, 1) := by decide +kernel
theorem dX8_restore_13 : decode cX8_restore 13 = .ok (.bipush 56, 2) := by decide +kernel
theorem dX8_restore_15 : decode cX8_restore 15 = .ok (.if_icmp .ge 22, 3) := by decide +kernel
theorem dX8_restore_18 : decode cX8_restore 18 = .ok (.aload_n 0, 1) := by decide +kernel
theorem dX8_restore_19 : decode cX8_restore 19 = .ok (.iload_n 1, 1) := by decide +kernel
theorem dX8_restore_20 : decode cX8_restore 20 = .ok (.aload_n 0, 1) := by decide +kernel
theorem dX8_restore_21 : decode cX8_restore 21 = .ok (.getfield 54, 3) := by decide +kernel
theorem dX8_restore_24 : decode cX8_restore 24 = .ok (.iload_n 1, 1) := by decide +kernel
theorem dX8_restore_25 : decode cX8_restore 25 = .ok (.iaload, 1) := by decide +kernel
theorem dX8_restore_26 : decode cX8_restore 26 = .ok (.iconst 1, 1) := by decide +kernel
theorem dX8_restore_27 : decode cX8_restore 27 = .ok (.invokevirtual 272, 3) := by decide +kernel
theorem dX8_restore_30 : decode cX8_restore 30 = .ok (.pop, 1) := by decide +kernel
theorem dX8_restore_31 : decode cX8_restore 31 = .ok (.iinc 1 1, 3) := by decide +kernel
theorem dX8_restore_34 : decode cX8_restore 34 = .ok (.goto (-22), 3) := by decide +kernel
theorem dX8_restore_37 : decode cX8_restore 37 = .ok (.iconst 1, 1) := by decide +kernel
theorem dX8_restore_38 : decode cX8_restore 38 = .ok (.ireturn, 1) := by decide +kernel
theorem dX8_isSheet_0 : decode cX8_isSheet 0 = .ok (.iload_n 0, 1) := by decide +kernel
theorem dX8_isSheet_1 : decode cX8_isSheet 1 = .ok (.i2l, 1) := by decide +kernel
theorem dX8_isSheet_2 : decode cX8_isSheet 2 = .ok (.lconst 0, 1) := by decide +kernel
theorem dX8_isSheet_3 : decode cX8_isSheet 3 = .ok (.ldc2_w 78, 3) := by decide +kernel
theorem dX8_isSheet_6 : decode cX8_isSheet 6 = .ok (.invokestatic 72, 3) := by decide +kernel
theorem dX8_isSheet_9 : decode cX8_isSheet 9 = .ok (.ifCond .eq 19, 3) := by decide +kernel
theorem dX8_isSheet_12 : decode cX8_isSheet 12 = .ok (.iload_n 1, 1) := by decide +kernel
theorem dX8_isSheet_13 : decode cX8_isSheet 13 = .ok (.i2l, 1) := by decide +kernel
theorem dX8_isSheet_14 : decode cX8_isSheet 14 = .ok (.lconst 0, 1) := by decide +kernel
theorem dX8_isSheet_15 : decode cX8_isSheet 15 = .ok (.ldc2_w 127, 3) := by decide +kernel
theorem dX8_isSheet_18 : decode cX8_isSheet 18 = .ok (.invokestatic 72, 3) := by decide +kernel
theorem dX8_isSheet_21 : decode cX8_isSheet 21 = .ok (.ifCond .eq 7, 3) := by decide +kernel
theorem dX8_isSheet_24 : decode cX8_isSheet 24 = .ok (.iconst 1, 1) := by decide +kernel
theorem dX8_isSheet_25 : decode cX8_isSheet 25 = .ok (.goto 4, 3) := by decide +kernel
theorem dX8_isSheet_28 : decode cX8_isSheet 28 = .ok (.iconst 0, 1) := by decide +kernel
theorem dX8_isSheet_29 : decode cX8_isSheet 29 = .ok (.ireturn, 1) := by decide +kernel
theorem dX8_asLane_0 : decode cX8_asLane 0 = .ok (.iload_n 0, 1) := by decide +kernel
theorem dX8_asLane_1 : decode cX8_asLane 1 = .ok (.ifCond .ne 13, 3) := by decide +kernel
theorem dX8_asLane_4 : decode cX8_asLane 4 = .ok (.iload_n 1, 1) := by decide +kernel
theorem dX8_asLane_5 : decode cX8_asLane 5 = .ok (.bipush 24, 2) := by decide +kernel
theorem dX8_asLane_7 : decode cX8_asLane 7 = .ok (.ishl, 1) := by decide +kernel
theorem dX8_asLane_8 : decode cX8_asLane 8 = .ok (.bipush 24, 2) := by decide +kernel
theorem dX8_asLane_10 : decode cX8_asLane 10 = .ok (.ishr, 1) := by decide +kernel
theorem dX8_asLane_11 : decode cX8_asLane 11 = .ok (.goto 19, 3) := by decide +kernel
theorem dX8_asLane_14 : decode cX8_asLane 14 = .ok (.iload_n 0, 1) := by decide +kernel
theorem dX8_asLane_15 : decode cX8_asLane 15 = .ok (.iconst 1, 1) := by decide +kernel
theorem dX8_asLane_16 : decode cX8_asLane 16 = .ok (.if_icmp .ne 13, 3) := by decide +kernel
theorem dX8_asLane_19 : decode cX8_asLane 19 = .ok (.iload_n 1, 1) := by decide +kernel
theorem dX8_asLane_20 : decode cX8_asLane 20 = .ok (.bipush 16, 2) := by decide +kernel
theorem dX8_asLane_22 : decode cX8_asLane 22 = .ok (.ishl, 1) := by decide +kernel
theorem dX8_asLane_23 : decode cX8_asLane 23 = .ok (.bipush 16, 2) := by decide +kernel
theorem dX8_asLane_25 : decode cX8_asLane 25 = .ok (.ishr, 1) := by decide +kernel
theorem dX8_asLane_26 : decode cX8_asLane 26 = .ok (.goto 4, 3) := by decide +kernel
theorem dX8_asLane_29 : decode cX8_asLane 29 = .ok (.iload_n 1, 1) := by decide +kernel
theorem dX8_asLane_30 : decode cX8_asLane 30 = .ok (.ireturn, 1) := by decide +kernel
theorem dX8_sheet_0 : decode cX8_sheet 0 = .ok (.iload_n 1, 1) := by decide +kernel
theorem dX8_sheet_1 : decode cX8_sheet 1 = .ok (.iload_n 2, 1) := by decide +kernel
theorem dX8_sheet_2 : decode cX8_sheet 2 = .ok (.invokestatic 280, 3) := by decide +kernel
theorem dX8_sheet_5 : decode cX8_sheet 5 = .ok (.ifCond .eq 9, 3) := by decide +kernel
theorem dX8_sheet_8 : decode cX8_sheet 8 = .ok (.iload_n 3, 1) := by decide +kernel
theorem dX8_sheet_9 : decode cX8_sheet 9 = .ok (.bipush 24, 2) := by decide +kernel
theorem dX8_sheet_11 : decode cX8_sheet 11 = .ok (.if_icmp .le 5, 3) := by decide +kernel
theorem dX8_sheet_14 : decode cX8_sheet 14 = .ok (.iconst (-1), 1) := by decide +kernel
theorem dX8_sheet_15 : decode cX8_sheet 15 = .ok (.ireturn, 1) := by decide +kernel
theorem dX8_sheet_16 : decode cX8_sheet 16 = .ok (.iload_n 3, 1) := by decide +kernel
theorem dX8_sheet_17 : decode cX8_sheet 17 = .ok (.ifCond .ge 6, 3) := by decide +kernel
theorem dX8_sheet_20 : decode cX8_sheet 20 = .ok (.bipush (-14), 2) := by decide +kernel
theorem dX8_sheet_22 : decode cX8_sheet 22 = .ok (.ireturn, 1) := by decide +kernel
theorem dX8_sheet_23 : decode cX8_sheet 23 = .ok (.aload_n 0, 1) := by decide +kernel
theorem dX8_sheet_24 : decode cX8_sheet 24 = .ok (.getfield 57, 3) := by decide +kernel
theorem dX8_sheet_27 : decode cX8_sheet 27 = .ok (.iload_n 1, 1) := by decide +kernel
theorem dX8_sheet_28 : decode cX8_sheet 28 = .ok (.iload_n 2, 1) := by decide +kernel
theorem dX8_sheet_29 : decode cX8_sheet 29 = .ok (.iastore, 1) := by decide +kernel
theorem dX8_sheet_30 : decode cX8_sheet 30 = .ok (.aload_n 0, 1) := by decide +kernel
theorem dX8_sheet_31 : decode cX8_sheet 31 = .ok (.getfield 60, 3) := by decide +kernel
theorem dX8_sheet_34 : decode cX8_sheet 34 = .ok (.iload_n 1, 1) := by decide +kernel
theorem dX8_sheet_35 : decode cX8_sheet 35 = .ok (.iload_n 3, 1) := by decide +kernel
theorem dX8_sheet_36 : decode cX8_sheet 36 = .ok (.iastore, 1) := by decide +kernel
theorem dX8_sheet_37 : decode cX8_sheet 37 = .ok (.iconst 0, 1) := by decide +kernel
theorem dX8_sheet_38 : decode cX8_sheet 38 = .ok (.istore 4, 2) := by decide +kernel
theorem dX8_sheet_40 : decode cX8_sheet 40 = .ok (.iload 4, 2) := by decide +kernel
theorem dX8_sheet_42 : decode cX8_sheet 42 = .ok (.bipush 24, 2) := by decide +kernel
theorem dX8_sheet_44 : decode cX8_sheet 44 = .ok (.if_icmp .ge 22, 3) := by decide +kernel
theorem dX8_sheet_47 : decode cX8_sheet 47 = .ok (.aload_n 0, 1) := by decide +kernel
theorem dX8_sheet_48 : decode cX8_sheet 48 = .ok (.getfield 63, 3) := by decide +kernel
theorem dX8_sheet_51 : decode cX8_sheet 51 = .ok (.bipush 24, 2) := by decide +kernel
theorem dX8_sheet_53 : decode cX8_sheet 53 = .ok (.iload_n 1, 1) := by decide +kernel
theorem dX8_sheet_54 : decode cX8_sheet 54 = .ok (.imul, 1) := by decide +kernel
theorem dX8_sheet_55 : decode cX8_sheet 55 = .ok (.iload 4, 2) := by decide +kernel
theorem dX8_sheet_57 : decode cX8_sheet 57 = .ok (.iadd, 1) := by decide +kernel
theorem dX8_sheet_58 : decode cX8_sheet 58 = .ok (.iconst 0, 1) := by decide +kernel
theorem dX8_sheet_59 : decode cX8_sheet 59 = .ok (.iastore, 1) := by decide +kernel
theorem dX8_sheet_60 : decode cX8_sheet 60 = .ok (.iinc 4 1, 3) := by decide +kernel
theorem dX8_sheet_63 : decode cX8_sheet 63 = .ok (.goto (-23), 3) := by decide +kernel
theorem dX8_sheet_66 : decode cX8_sheet 66 = .ok (.iload_n 3, 1) := by decide +kernel
theorem dX8_sheet_67 : decode cX8_sheet 67 = .ok (.ireturn, 1) := by decide +kernel
theorem dX8_drop_0 : decode cX8_drop 0 = .ok (.iload_n 1, 1) := by decide +kernel
theorem dX8_drop_1 : decode cX8_drop 1 = .ok (.i2l, 1) := by decide +kernel
theorem dX8_drop_2 : decode cX8_drop 2 = .ok (.lconst 0, 1) := by decide +kernel
theorem dX8_drop_3 : decode cX8_drop 3 = .ok (.ldc2_w 78, 3) := by decide +kernel
theorem dX8_drop_6 : decode cX8_drop 6 = .ok (.invokestatic 72, 3) := by decide +kernel
theorem dX8_drop_9 : decode cX8_drop 9 = .ok (.ifCond .ne 5, 3) := by decide +kernel
theorem dX8_drop_12 : decode cX8_drop 12 = .ok (.iconst (-1), 1) := by decide +kernel
theorem dX8_drop_13 : decode cX8_drop 13 = .ok (.ireturn, 1) := by decide +kernel
theorem dX8_drop_14 : decode cX8_drop 14 = .ok (.aload_n 0, 1) := by decide +kernel
theorem dX8_drop_15 : decode cX8_drop 15 = .ok (.getfield 57, 3) := by decide +kernel
theorem dX8_drop_18 : decode cX8_drop 18 = .ok (.iload_n 1, 1) := by decide +kernel
theorem dX8_drop_19 : decode cX8_drop 19 = .ok (.iaload, 1) := by decide +kernel
theorem dX8_drop_20 : decode cX8_drop 20 = .ok (.ifCond .ge 6, 3) := by decide +kernel
theorem dX8_drop_23 : decode cX8_drop 23 = .ok (.bipush (-11), 2) := by decide +kernel
theorem dX8_drop_25 : decode cX8_drop 25 = .ok (.ireturn, 1) := by decide +kernel
theorem dX8_drop_26 : decode cX8_drop 26 = .ok (.aload_n 0, 1) := by decide +kernel
theorem dX8_drop_27 : decode cX8_drop 27 = .ok (.getfield 57, 3) := by decide +kernel
theorem dX8_drop_30 : decode cX8_drop 30 = .ok (.iload_n 1, 1) := by decide +kernel
theorem dX8_drop_31 : decode cX8_drop 31 = .ok (.iconst (-1), 1) := by decide +kernel
theorem dX8_drop_32 : decode cX8_drop 32 = .ok (.iastore, 1) := by decide +kernel
theorem dX8_drop_33 : decode cX8_drop 33 = .ok (.aload_n 0, 1) := by decide +kernel
theorem dX8_drop_34 : decode cX8_drop 34 = .ok (.getfield 60, 3) := by decide +kernel
theorem dX8_drop_37 : decode cX8_drop 37 = .ok (.iload_n 1, 1) := by decide +kernel
theorem dX8_drop_38 : decode cX8_drop 38 = .ok (.iaload, 1) := by decide +kernel
theorem dX8_drop_39 : decode cX8_drop 39 = .ok (.ireturn, 1) := by decide +kernel
theorem dX8_lacksRow_0 : decode cX8_lacksRow 0 = .ok (.aload_n 0, 1) := by decide +kernel
theorem dX8_lacksRow_1 : decode cX8_lacksRow 1 = .ok (.getfield 57, 3) := by decide +kernel
theorem dX8_lacksRow_4 : decode cX8_lacksRow 4 = .ok (.iload_n 1, 1) := by decide +kernel
theorem dX8_lacksRow_5 : decode cX8_lacksRow 5 = .ok (.iaload, 1) := by decide +kernel
theorem dX8_lacksRow_6 : decode cX8_lacksRow 6 = .ok (.iload_n 2, 1) := by decide +kernel
theorem dX8_lacksRow_7 : decode cX8_lacksRow 7 = .ok (.if_icmp .eq 20, 3) := by decide +kernel
theorem dX8_lacksRow_10 : decode cX8_lacksRow 10 = .ok (.aload_n 0, 1) := by decide +kernel
theorem dX8_lacksRow_11 : decode cX8_lacksRow 11 = .ok (.getfield 57, 3) := by decide +kernel
theorem dX8_lacksRow_14 : decode cX8_lacksRow 14 = .ok (.iload_n 1, 1) := by decide +kernel
theorem dX8_lacksRow_15 : decode cX8_lacksRow 15 = .ok (.iaload, 1) := by decide +kernel
theorem dX8_lacksRow_16 : decode cX8_lacksRow 16 = .ok (.ifCond .ge 8, 3) := by decide +kernel
theorem dX8_lacksRow_19 : decode cX8_lacksRow 19 = .ok (.bipush (-11), 2) := by decide +kernel
theorem dX8_lacksRow_21 : decode cX8_lacksRow 21 = .ok (.goto 5, 3) := by decide +kernel
theorem dX8_lacksRow_24 : decode cX8_lacksRow 24 = .ok (.bipush (-12), 2) := by decide +kernel
theorem dX8_lacksRow_26 : decode cX8_lacksRow 26 = .ok (.ireturn, 1) := by decide +kernel
theorem dX8_lacksRow_27 : decode cX8_lacksRow 27 = .ok (.iload_n 3, 1) := by decide +kernel
theorem dX8_lacksRow_28 : decode cX8_lacksRow 28 = .ok (.i2l, 1) := by decide +kernel
theorem dX8_lacksRow_29 : decode cX8_lacksRow 29 = .ok (.lconst 0, 1) := by decide +kernel
theorem dX8_lacksRow_30 : decode cX8_lacksRow 30 = .ok (.aload_n 0, 1) := by decide +kernel
theorem dX8_lacksRow_31 : decode cX8_lacksRow 31 = .ok (.getfield 60, 3) := by decide +kernel
theorem dX8_lacksRow_34 : decode cX8_lacksRow 34 = .ok (.iload_n 1, 1) := by decide +kernel
theorem dX8_lacksRow_35 : decode cX8_lacksRow 35 = .ok (.iaload, 1) := by decide +kernel
theorem dX8_lacksRow_36 : decode cX8_lacksRow 36 = .ok (.iload 4, 2) := by decide +kernel
theorem dX8_lacksRow_38 : decode cX8_lacksRow 38 = .ok (.isub, 1) := by decide +kernel
theorem dX8_lacksRow_39 : decode cX8_lacksRow 39 = .ok (.i2l, 1) := by decide +kernel
theorem dX8_lacksRow_40 : decode cX8_lacksRow 40 = .ok (.invokestatic 72, 3) := by decide +kernel
theorem dX8_lacksRow_43 : decode cX8_lacksRow 43 = .ok (.ifCond .eq 7, 3) := by decide +kernel
theorem dX8_lacksRow_46 : decode cX8_lacksRow 46 = .ok (.iconst 0, 1) := by decide +kernel
theorem dX8_lacksRow_47 : decode cX8_lacksRow 47 = .ok (.goto 5, 3) := by decide +kernel
theorem dX8_lacksRow_50 : decode cX8_lacksRow 50 = .ok (.bipush (-13), 2) := by decide +kernel
theorem dX8_lacksRow_52 : decode cX8_lacksRow 52 = .ok (.ireturn, 1) := by decide +kernel
theorem dX8_item_0 : decode cX8_item 0 = .ok (.iload_n 1, 1) := by decide +kernel
theorem dX8_item_1 : decode cX8_item 1 = .ok (.iload_n 2, 1) := by decide +kernel
theorem dX8_item_2 : decode cX8_item 2 = .ok (.invokestatic 280, 3) := by decide +kernel
theorem dX8_item_5 : decode cX8_item 5 = .ok (.ifCond .ne 5, 3) := by decide +kernel
theorem dX8_item_8 : decode cX8_item 8 = .ok (.iconst (-1), 1) := by decide +kernel
theorem dX8_item_9 : decode cX8_item 9 = .ok (.ireturn, 1) := by decide +kernel
theorem dX8_item_10 : decode cX8_item 10 = .ok (.aload_n 0, 1) := by decide +kernel
theorem dX8_item_11 : decode cX8_item 11 = .ok (.iload_n 1, 1) := by decide +kernel
theorem dX8_item_12 : decode cX8_item 12 = .ok (.iload_n 2, 1) := by decide +kernel
theorem dX8_item_13 : decode cX8_item 13 = .ok (.iload_n 3, 1) := by decide +kernel
theorem dX8_item_14 : decode cX8_item 14 = .ok (.iconst 1, 1) := by decide +kernel
theorem dX8_item_15 : decode cX8_item 15 = .ok (.invokevirtual 283, 3) := by decide +kernel
theorem dX8_item_18 : decode cX8_item 18 = .ok (.istore 5, 2) := by decide +kernel
theorem dX8_item_20 : decode cX8_item 20 = .ok (.iload 5, 2) := by decide +kernel
theorem dX8_item_22 : decode cX8_item 22 = .ok (.ifCond .ge 6, 3) := by decide +kernel
theorem dX8_item_25 : decode cX8_item 25 = .ok (.iload 5, 2) := by decide +kernel
theorem dX8_item_27 : decode cX8_item 27 = .ok (.ireturn, 1) := by decide +kernel
theorem dX8_item_28 : decode cX8_item 28 = .ok (.aload_n 0, 1) := by decide +kernel
theorem dX8_item_29 : decode cX8_item 29 = .ok (.getfield 63, 3) := by decide +kernel
theorem dX8_item_32 : decode cX8_item 32 = .ok (.bipush 24, 2) := by decide +kernel
theorem dX8_item_34 : decode cX8_item 34 = .ok (.iload_n 1, 1) := by decide +kernel
theorem dX8_item_35 : decode cX8_item 35 = .ok (.imul, 1) := by decide +kernel
theorem dX8_item_36 : decode cX8_item 36 = .ok (.iload_n 3, 1) := by decide +kernel
theorem dX8_item_37 : decode cX8_item 37 = .ok (.iadd, 1) := by decide +kernel
theorem dX8_item_38 : decode cX8_item 38 = .ok (.iload_n 2, 1) := by decide +kernel
theorem dX8_item_39 : decode cX8_item 39 = .ok (.iload 4, 2) := by decide +kernel
theorem dX8_item_41 : decode cX8_item 41 = .ok (.invokestatic 287, 3) := by decide +kernel
theorem dX8_item_44 : decode cX8_item 44 = .ok (.iastore, 1) := by decide +kernel
theorem dX8_item_45 : decode cX8_item 45 = .ok (.iconst 1, 1) := by decide +kernel
theorem dX8_item_46 : decode cX8_item 46 = .ok (.ireturn, 1) := by decide +kernel
theorem dX8_pour_0 : decode cX8_pour 0 = .ok (.iload_n 1, 1) := by decide +kernel
theorem dX8_pour_1 : decode cX8_pour 1 = .ok (.iload_n 2, 1) := by decide +kernel
theorem dX8_pour_2 : decode cX8_pour 2 = .ok (.invokestatic 280, 3) := by decide +kernel
theorem dX8_pour_5 : decode cX8_pour 5 = .ok (.ifCond .ne 5, 3) := by decide +kernel
theorem dX8_pour_8 : decode cX8_pour 8 = .ok (.iconst (-1), 1) := by decide +kernel
theorem dX8_pour_9 : decode cX8_pour 9 = .ok (.ireturn, 1) := by decide +kernel
theorem dX8_pour_10 : decode cX8_pour 10 = .ok (.aload_n 0, 1) := by decide +kernel
theorem dX8_pour_11 : decode cX8_pour 11 = .ok (.iload_n 1, 1) := by decide +kernel
theorem dX8_pour_12 : decode cX8_pour 12 = .ok (.iload_n 2, 1) := by decide +kernel
theorem dX8_pour_13 : decode cX8_pour 13 = .ok (.iload_n 3, 1) := by decide +kernel
theorem dX8_pour_14 : decode cX8_pour 14 = .ok (.bipush 12, 2) := by decide +kernel
theorem dX8_pour_16 : decode cX8_pour 16 = .ok (.invokevirtual 283, 3) := by decide +kernel
theorem dX8_pour_19 : decode cX8_pour 19 = .ok (.istore 4, 2) := by decide +kernel
theorem dX8_pour_21 : decode cX8_pour 21 = .ok (.iload 4, 2) := by decide +kernel
theorem dX8_pour_23 : decode cX8_pour 23 = .ok (.ifCond .ge 6, 3) := by decide +kernel
theorem dX8_pour_26 : decode cX8_pour 26 = .ok (.iload 4, 2) := by decide +kernel
theorem dX8_pour_28 : decode cX8_pour 28 = .ok (.ireturn, 1) := by decide +kernel
theorem dX8_pour_29 : decode cX8_pour 29 = .ok (.bipush 24, 2) := by decide +kernel
theorem dX8_pour_31 : decode cX8_pour 31 = .ok (.iload_n 1, 1) := by decide +kernel
theorem dX8_pour_32 : decode cX8_pour 32 = .ok (.imul, 1) := by decide +kernel
theorem dX8_pour_33 : decode cX8_pour 33 = .ok (.iload_n 3, 1) := by decide +kernel
theorem dX8_pour_34 : decode cX8_pour 34 = .ok (.iadd, 1) := by decide +kernel
theorem dX8_pour_35 : decode cX8_pour 35 = .ok (.istore 5, 2) := by decide +kernel
theorem dX8_pour_37 : decode cX8_pour 37 = .ok (.aload_n 0, 1) := by decide +kernel
theorem dX8_pour_38 : decode cX8_pour 38 = .ok (.invokevirtual 141, 3) := by decide +kernel
theorem dX8_pour_41 : decode cX8_pour 41 = .ok (.iconst 0, 1) := by decide +kernel
theorem dX8_pour_42 : decode cX8_pour 42 = .ok (.istore 6, 2) := by decide +kernel
theorem dX8_pour_44 : decode cX8_pour 44 = .ok (.iload 6, 2) := by decide +kernel
theorem dX8_pour_46 : decode cX8_pour 46 = .ok (.bipush 12, 2) := by decide +kernel
theorem dX8_pour_48 : decode cX8_pour 48 = .ok (.if_icmp .ge 61, 3) := by decide +kernel
theorem dX8_pour_51 : decode cX8_pour 51 = .ok (.aload_n 0, 1) := by decide +kernel
theorem dX8_pour_52 : decode cX8_pour 52 = .ok (.getfield 63, 3) := by decide +kernel
theorem dX8_pour_55 : decode cX8_pour 55 = .ok (.iload 5, 2) := by decide +kernel
theorem dX8_pour_57 : decode cX8_pour 57 = .ok (.iload 6, 2) := by decide +kernel
theorem dX8_pour_59 : decode cX8_pour 59 = .ok (.iadd, 1) := by decide +kernel
theorem dX8_pour_60 : decode cX8_pour 60 = .ok (.iaload, 1) := by decide +kernel
theorem dX8_pour_61 : decode cX8_pour 61 = .ok (.i2l, 1) := by decide +kernel
theorem dX8_pour_62 : decode cX8_pour 62 = .ok (.lconst 0, 1) := by decide +kernel
theorem dX8_pour_63 : decode cX8_pour 63 = .ok (.ldc2_w 80, 3) := by decide +kernel
theorem dX8_pour_66 : decode cX8_pour 66 = .ok (.invokestatic 72, 3) := by decide +kernel
theorem dX8_pour_69 : decode cX8_pour 69 = .ok (.ifCond .ne 6, 3) := by decide +kernel
theorem dX8_pour_72 : decode cX8_pour 72 = .ok (.bipush (-2), 2) := by decide +kernel
theorem dX8_pour_74 : decode cX8_pour 74 = .ok (.ireturn, 1) := by decide +kernel
theorem dX8_pour_75 : decode cX8_pour 75 = .ok (.aload_n 0, 1) := by decide +kernel
theorem dX8_pour_76 : decode cX8_pour 76 = .ok (.getfield 29, 3) := by decide +kernel
theorem dX8_pour_79 : decode cX8_pour 79 = .ok (.iload 6, 2) := by decide +kernel
theorem dX8_pour_81 : decode cX8_pour 81 = .ok (.dup2, 1) := by decide +kernel
theorem dX8_pour_82 : decode cX8_pour 82 = .ok (.iaload, 1) := by decide +kernel
theorem dX8_pour_83 : decode cX8_pour 83 = .ok (.aload_n 0, 1) := by decide +kernel
theorem dX8_pour_84 : decode cX8_pour 84 = .ok (.getfield 63, 3) := by decide +kernel
theorem dX8_pour_87 : decode cX8_pour 87 = .ok (.iload 5, 2) := by decide +kernel
theorem dX8_pour_89 : decode cX8_pour 89 = .ok (.iload 6, 2) := by decide +kernel
theorem dX8_pour_91 : decode cX8_pour 91 = .ok (.iadd, 1) := by decide +kernel
theorem dX8_pour_92 : decode cX8_pour 92 = .ok (.iaload, 1) := by decide +kernel
theorem dX8_pour_93 : decode cX8_pour 93 = .ok (.aload_n 0, 1) := by decide +kernel
theorem dX8_pour_94 : decode cX8_pour 94 = .ok (.getfield 22, 3) := by decide +kernel
theorem dX8_pour_97 : decode cX8_pour 97 = .ok (.iload 6, 2) := by decide +kernel
theorem dX8_pour_99 : decode cX8_pour 99 = .ok (.iaload, 1) := by decide +kernel
theorem dX8_pour_100 : decode cX8_pour 100 = .ok (.isub, 1) := by decide +kernel
theorem dX8_pour_101 : decode cX8_pour 101 = .ok (.iadd, 1) := by decide +kernel
theorem dX8_pour_102 : decode cX8_pour 102 = .ok (.iastore, 1) := by decide +kernel
theorem dX8_pour_103 : decode cX8_pour 103 = .ok (.iinc 6 1, 3) := by decide +kernel
theorem dX8_pour_106 : decode cX8_pour 106 = .ok (.goto (-62), 3) := by decide +kernel
theorem dX8_pour_109 : decode cX8_pour 109 = .ok (.aload_n 0, 1) := by decide +kernel
theorem dX8_pour_110 : decode cX8_pour 110 = .ok (.invokevirtual 144, 3) := by decide +kernel
theorem dX8_pour_113 : decode cX8_pour 113 = .ok (.ifCond .ne 6, 3) := by decide +kernel
theorem dX8_pour_116 : decode cX8_pour 116 = .ok (.bipush (-2), 2) := by decide +kernel
theorem dX8_pour_118 : decode cX8_pour 118 = .ok (.ireturn, 1) := by decide +kernel
theorem dX8_pour_119 : decode cX8_pour 119 = .ok (.iconst 0, 1) := by decide +kernel
theorem dX8_pour_120 : decode cX8_pour 120 = .ok (.istore 6, 2) := by decide +kernel
theorem dX8_pour_122 : decode cX8_pour 122 = .ok (.iconst 0, 1) := by decide +kernel
theorem dX8_pour_123 : decode cX8_pour 123 = .ok (.istore 7, 2) := by decide +kernel
theorem dX8_pour_125 : decode cX8_pour 125 = .ok (.iload 7, 2) := by decide +kernel
theorem dX8_pour_127 : decode cX8_pour 127 = .ok (.bipush 12, 2) := by decide +kernel
theorem dX8_pour_129 : decode cX8_pour 129 = .ok (.if_icmp .ge 38, 3) := by decide +kernel
theorem dX8_pour_132 : decode cX8_pour 132 = .ok (.aload_n 0, 1) := by decide +kernel
theorem dX8_pour_133 : decode cX8_pour 133 = .ok (.getfield 22, 3) := by decide +kernel
theorem dX8_pour_136 : decode cX8_pour 136 = .ok (.iload 7, 2) := by decide +kernel
theorem dX8_pour_138 : decode cX8_pour 138 = .ok (.aload_n 0, 1) := by decide +kernel
theorem dX8_pour_139 : decode cX8_pour 139 = .ok (.getfield 63, 3) := by decide +kernel
theorem dX8_pour_142 : decode cX8_pour 142 = .ok (.iload 5, 2) := by decide +kernel
theorem dX8_pour_144 : decode cX8_pour 144 = .ok (.iload 7, 2) := by decide +kernel
theorem dX8_pour_146 : decode cX8_pour 146 = .ok (.iadd, 1) := by decide +kernel
theorem dX8_pour_147 : decode cX8_pour 147 = .ok (.iaload, 1) := by decide +kernel
theorem dX8_pour_148 : decode cX8_pour 148 = .ok (.iastore, 1) := by decide +kernel
theorem dX8_pour_149 : decode cX8_pour 149 = .ok (.iload 6, 2) := by decide +kernel
theorem dX8_pour_151 : decode cX8_pour 151 = .ok (.aload_n 0, 1) := by decide +kernel
theorem dX8_pour_152 : decode cX8_pour 152 = .ok (.getfield 22, 3) := by decide +kernel
theorem dX8_pour_155 : decode cX8_pour 155 = .ok (.iload 7, 2) := by decide +kernel
theorem dX8_pour_157 : decode cX8_pour 157 = .ok (.iaload, 1) := by decide +kernel
theorem dX8_pour_158 : decode cX8_pour 158 = .ok (.iadd, 1) := by decide +kernel
theorem dX8_pour_159 : decode cX8_pour 159 = .ok (.istore 6, 2) := by decide +kernel
theorem dX8_pour_161 : decode cX8_pour 161 = .ok (.iinc 7 1, 3) := by decide +kernel
theorem dX8_pour_164 : decode cX8_pour 164 = .ok (.goto (-39), 3) := by decide +kernel
theorem dX8_pour_167 : decode cX8_pour 167 = .ok (.iload 6, 2) := by decide +kernel
theorem dX8_pour_169 : decode cX8_pour 169 = .ok (.ireturn, 1) := by decide +kernel
theorem dX8_film_0 : decode cX8_film 0 = .ok (.iload_n 1, 1) := by decide +kernel
theorem dX8_film_1 : decode cX8_film 1 = .ok (.iload_n 2, 1) := by decide +kernel
theorem dX8_film_2 : decode cX8_film 2 = .ok (.invokestatic 280, 3) := by decide +kernel
theorem dX8_film_5 : decode cX8_film 5 = .ok (.ifCond .ne 5, 3) := by decide +kernel
theorem dX8_film_8 : decode cX8_film 8 = .ok (.iconst (-1), 1) := by decide +kernel
theorem dX8_film_9 : decode cX8_film 9 = .ok (.ireturn, 1) := by decide +kernel
theorem dX8_film_10 : decode cX8_film 10 = .ok (.aload_n 0, 1) := by decide +kernel
theorem dX8_film_11 : decode cX8_film 11 = .ok (.iload_n 1, 1) := by decide +kernel
theorem dX8_film_12 : decode cX8_film 12 = .ok (.iload_n 2, 1) := by decide +kernel
theorem dX8_film_13 : decode cX8_film 13 = .ok (.iload_n 3, 1) := by decide +kernel
theorem dX8_film_14 : decode cX8_film 14 = .ok (.bipush 12, 2) := by decide +kernel
theorem dX8_film_16 : decode cX8_film 16 = .ok (.invokevirtual 283, 3) := by decide +kernel
theorem dX8_film_19 : decode cX8_film 19 = .ok (.istore 4, 2) := by decide +kernel
theorem dX8_film_21 : decode cX8_film 21 = .ok (.iload 4, 2) := by decide +kernel
theorem dX8_film_23 : decode cX8_film 23 = .ok (.ifCond .ge 6, 3) := by decide +kernel
theorem dX8_film_26 : decode cX8_film 26 = .ok (.iload 4, 2) := by decide +kernel
theorem dX8_film_28 : decode cX8_film 28 = .ok (.ireturn, 1) := by decide +kernel
theorem dX8_film_29 : decode cX8_film 29 = .ok (.aload_n 0, 1) := by decide +kernel
theorem dX8_film_30 : decode cX8_film 30 = .ok (.invokevirtual 141, 3) := by decide +kernel
theorem dX8_film_33 : decode cX8_film 33 = .ok (.iconst 0, 1) := by decide +kernel
theorem dX8_film_34 : decode cX8_film 34 = .ok (.istore 5, 2) := by decide +kernel
theorem dX8_film_36 : decode cX8_film 36 = .ok (.iload 5, 2) := by decide +kernel
theorem dX8_film_38 : decode cX8_film 38 = .ok (.bipush 12, 2) := by decide +kernel
theorem dX8_film_40 : decode cX8_film 40 = .ok (.if_icmp .ge 34, 3) := by decide +kernel
theorem dX8_film_43 : decode cX8_film 43 = .ok (.aload_n 0, 1) := by decide +kernel
theorem dX8_film_44 : decode cX8_film 44 = .ok (.getfield 63, 3) := by decide +kernel
theorem dX8_film_47 : decode cX8_film 47 = .ok (.bipush 24, 2) := by decide +kernel
theorem dX8_film_49 : decode cX8_film 49 = .ok (.iload_n 1, 1) := by decide +kernel
theorem dX8_film_50 : decode cX8_film 50 = .ok (.imul, 1) := by decide +kernel
theorem dX8_film_51 : decode cX8_film 51 = .ok (.iload_n 3, 1) := by decide +kernel
theorem dX8_film_52 : decode cX8_film 52 = .ok (.iadd, 1) := by decide +kernel
theorem dX8_film_53 : decode cX8_film 53 = .ok (.iload 5, 2) := by decide +kernel
theorem dX8_film_55 : decode cX8_film 55 = .ok (.iadd, 1) := by decide +kernel
theorem dX8_film_56 : decode cX8_film 56 = .ok (.iload_n 2, 1) := by decide +kernel
theorem dX8_film_57 : decode cX8_film 57 = .ok (.aload_n 0, 1) := by decide +kernel
theorem dX8_film_58 : decode cX8_film 58 = .ok (.getfield 29, 3) := by decide +kernel
theorem dX8_film_61 : decode cX8_film 61 = .ok (.iload 5, 2) := by decide +kernel
theorem dX8_film_63 : decode cX8_film 63 = .ok (.iaload, 1) := by decide +kernel
theorem dX8_film_64 : decode cX8_film 64 = .ok (.invokestatic 287, 3) := by decide +kernel
theorem dX8_film_67 : decode cX8_film 67 = .ok (.iastore, 1) := by decide +kernel
theorem dX8_film_68 : decode cX8_film 68 = .ok (.iinc 5 1, 3) := by decide +kernel
theorem dX8_film_71 : decode cX8_film 71 = .ok (.goto (-35), 3) := by decide +kernel
theorem dX8_film_74 : decode cX8_film 74 = .ok (.bipush 12, 2) := by decide +kernel
theorem dX8_film_76 : decode cX8_film 76 = .ok (.ireturn, 1) := by decide +kernel
theorem dX8_copy_0 : decode cX8_copy 0 = .ok (.iload_n 1, 1) := by decide +kernel
theorem dX8_copy_1 : decode cX8_copy 1 = .ok (.i2l, 1) := by decide +kernel
theorem dX8_copy_2 : decode cX8_copy 2 = .ok (.lconst 0, 1) := by decide +kernel
theorem dX8_copy_3 : decode cX8_copy 3 = .ok (.ldc2_w 78, 3) := by decide +kernel
theorem dX8_copy_6 : decode cX8_copy 6 = .ok (.invokestatic 72, 3) := by decide +kernel
theorem dX8_copy_9 : decode cX8_copy 9 = .ok (.ifCond .eq 15, 3) := by decide +kernel
theorem dX8_copy_12 : decode cX8_copy 12 = .ok (.iload_n 3, 1) := by decide +kernel
theorem dX8_copy_13 : decode cX8_copy 13 = .ok (.i2l, 1) := by decide +kernel
theorem dX8_copy_14 : decode cX8_copy 14 = .ok (.lconst 0, 1) := by decide +kernel
theorem dX8_copy_15 : decode cX8_copy 15 = .ok (.ldc2_w 78, 3) := by decide +kernel
theorem dX8_copy_18 : decode cX8_copy 18 = .ok (.invokestatic 72, 3) := by decide +kernel
theorem dX8_copy_21 : decode cX8_copy 21 = .ok (.ifCond .ne 5, 3) := by decide +kernel
theorem dX8_copy_24 : decode cX8_copy 24 = .ok (.iconst (-1), 1) := by decide +kernel
theorem dX8_copy_25 : decode cX8_copy 25 = .ok (.ireturn, 1) := by decide +kernel
theorem dX8_copy_26 : decode cX8_copy 26 = .ok (.aload_n 0, 1) := by decide +kernel
theorem dX8_copy_27 : decode cX8_copy 27 = .ok (.getfield 57, 3) := by decide +kernel
theorem dX8_copy_30 : decode cX8_copy 30 = .ok (.iload_n 1, 1) := by decide +kernel
theorem dX8_copy_31 : decode cX8_copy 31 = .ok (.iaload, 1) := by decide +kernel
theorem dX8_copy_32 : decode cX8_copy 32 = .ok (.ifCond .lt 12, 3) := by decide +kernel
theorem dX8_copy_35 : decode cX8_copy 35 = .ok (.aload_n 0, 1) := by decide +kernel
theorem dX8_copy_36 : decode cX8_copy 36 = .ok (.getfield 57, 3) := by decide +kernel
theorem dX8_copy_39 : decode cX8_copy 39 = .ok (.iload_n 3, 1) := by decide +kernel
theorem dX8_copy_40 : decode cX8_copy 40 = .ok (.iaload, 1) := by decide +kernel
theorem dX8_copy_41 : decode cX8_copy 41 = .ok (.ifCond .ge 6, 3) := by decide +kernel
theorem dX8_copy_44 : decode cX8_copy 44 = .ok (.bipush (-11), 2) := by decide +kernel
theorem dX8_copy_46 : decode cX8_copy 46 = .ok (.ireturn, 1) := by decide +kernel
theorem dX8_copy_47 : decode cX8_copy 47 = .ok (.aload_n 0, 1) := by decide +kernel
theorem dX8_copy_48 : decode cX8_copy 48 = .ok (.getfield 57, 3) := by decide +kernel
theorem dX8_copy_51 : decode cX8_copy 51 = .ok (.iload_n 1, 1) := by decide +kernel
theorem dX8_copy_52 : decode cX8_copy 52 = .ok (.iaload, 1) := by decide +kernel
theorem dX8_copy_53 : decode cX8_copy 53 = .ok (.aload_n 0, 1) := by decide +kernel
theorem dX8_copy_54 : decode cX8_copy 54 = .ok (.getfield 57, 3) := by decide +kernel
theorem dX8_copy_57 : decode cX8_copy 57 = .ok (.iload_n 3, 1) := by decide +kernel
theorem dX8_copy_58 : decode cX8_copy 58 = .ok (.iaload, 1) := by decide +kernel
theorem dX8_copy_59 : decode cX8_copy 59 = .ok (.if_icmp .eq 6, 3) := by decide +kernel
theorem dX8_copy_62 : decode cX8_copy 62 = .ok (.bipush (-12), 2) := by decide +kernel
theorem dX8_copy_64 : decode cX8_copy 64 = .ok (.ireturn, 1) := by decide +kernel
theorem dX8_copy_65 : decode cX8_copy 65 = .ok (.iload 5, 2) := by decide +kernel
theorem dX8_copy_67 : decode cX8_copy 67 = .ok (.ifCond .lt 44, 3) := by decide +kernel
theorem dX8_copy_70 : decode cX8_copy 70 = .ok (.iload_n 2, 1) := by decide +kernel
theorem dX8_copy_71 : decode cX8_copy 71 = .ok (.i2l, 1) := by decide +kernel
theorem dX8_copy_72 : decode cX8_copy 72 = .ok (.lconst 0, 1) := by decide +kernel
theorem dX8_copy_73 : decode cX8_copy 73 = .ok (.aload_n 0, 1) := by decide +kernel
theorem dX8_copy_74 : decode cX8_copy 74 = .ok (.getfield 60, 3) := by decide +kernel
theorem dX8_copy_77 : decode cX8_copy 77 = .ok (.iload_n 1, 1) := by decide +kernel
theorem dX8_copy_78 : decode cX8_copy 78 = .ok (.iaload, 1) := by decide +kernel
theorem dX8_copy_79 : decode cX8_copy 79 = .ok (.i2l, 1) := by decide +kernel
theorem dX8_copy_80 : decode cX8_copy 80 = .ok (.iload 5, 2) := by decide +kernel
theorem dX8_copy_82 : decode cX8_copy 82 = .ok (.i2l, 1) := by decide +kernel
theorem dX8_copy_83 : decode cX8_copy 83 = .ok (.lsub, 1) := by decide +kernel
theorem dX8_copy_84 : decode cX8_copy 84 = .ok (.invokestatic 72, 3) := by decide +kernel
theorem dX8_copy_87 : decode cX8_copy 87 = .ok (.ifCond .eq 24, 3) := by decide +kernel
theorem dX8_copy_90 : decode cX8_copy 90 = .ok (.iload 4, 2) := by decide +kernel
theorem dX8_copy_92 : decode cX8_copy 92 = .ok (.i2l, 1) := by decide +kernel
theorem dX8_copy_93 : decode cX8_copy 93 = .ok (.lconst 0, 1) := by decide +kernel
theorem dX8_copy_94 : decode cX8_copy 94 = .ok (.aload_n 0, 1) := by decide +kernel
theorem dX8_copy_95 : decode cX8_copy 95 = .ok (.getfield 60, 3) := by decide +kernel
theorem dX8_copy_98 : decode cX8_copy 98 = .ok (.iload_n 3, 1) := by decide +kernel
theorem dX8_copy_99 : decode cX8_copy 99 = .ok (.iaload, 1) := by decide +kernel
theorem dX8_copy_100 : decode cX8_copy 100 = .ok (.i2l, 1) := by decide +kernel
theorem dX8_copy_101 : decode cX8_copy 101 = .ok (.iload 5, 2) := by decide +kernel
theorem dX8_copy_103 : decode cX8_copy 103 = .ok (.i2l, 1) := by decide +kernel
theorem dX8_copy_104 : decode cX8_copy 104 = .ok (.lsub, 1) := by decide +kernel
theorem dX8_copy_105 : decode cX8_copy 105 = .ok (.invokestatic 72, 3) := by decide +kernel
theorem dX8_copy_108 : decode cX8_copy 108 = .ok (.ifCond .ne 6, 3) := by decide +kernel
theorem dX8_copy_111 : decode cX8_copy 111 = .ok (.bipush (-13), 2) := by decide +kernel
theorem dX8_copy_113 : decode cX8_copy 113 = .ok (.ireturn, 1) := by decide +kernel
theorem dX8_copy_114 : decode cX8_copy 114 = .ok (.iconst 0, 1) := by decide +kernel
theorem dX8_copy_115 : decode cX8_copy 115 = .ok (.istore 6, 2) := by decide +kernel
theorem dX8_copy_117 : decode cX8_copy 117 = .ok (.iload 6, 2) := by decide +kernel
theorem dX8_copy_119 : decode cX8_copy 119 = .ok (.iload 5, 2) := by decide +kernel
theorem dX8_copy_121 : decode cX8_copy 121 = .ok (.if_icmp .ge 30, 3) := by decide +kernel
theorem dX8_copy_124 : decode cX8_copy 124 = .ok (.aload_n 0, 1) := by decide +kernel
theorem dX8_copy_125 : decode cX8_copy 125 = .ok (.getfield 66, 3) := by decide +kernel
theorem dX8_copy_128 : decode cX8_copy 128 = .ok (.iload 6, 2) := by decide +kernel
theorem dX8_copy_130 : decode cX8_copy 130 = .ok (.aload_n 0, 1) := by decide +kernel
theorem dX8_copy_131 : decode cX8_copy 131 = .ok (.getfield 63, 3) := by decide +kernel
theorem dX8_copy_134 : decode cX8_copy 134 = .ok (.bipush 24, 2) := by decide +kernel
theorem dX8_copy_136 : decode cX8_copy 136 = .ok (.iload_n 1, 1) := by decide +kernel
theorem dX8_copy_137 : decode cX8_copy 137 = .ok (.imul, 1) := by decide +kernel
theorem dX8_copy_138 : decode cX8_copy 138 = .ok (.iload_n 2, 1) := by decide +kernel
theorem dX8_copy_139 : decode cX8_copy 139 = .ok (.iadd, 1) := by decide +kernel
theorem dX8_copy_140 : decode cX8_copy 140 = .ok (.iload 6, 2) := by decide +kernel
theorem dX8_copy_142 : decode cX8_copy 142 = .ok (.iadd, 1) := by decide +kernel
theorem dX8_copy_143 : decode cX8_copy 143 = .ok (.iaload, 1) := by decide +kernel
theorem dX8_copy_144 : decode cX8_copy 144 = .ok (.iastore, 1) := by decide +kernel
theorem dX8_copy_145 : decode cX8_copy 145 = .ok (.iinc 6 1, 3) := by decide +kernel
theorem dX8_copy_148 : decode cX8_copy 148 = .ok (.goto (-31), 3) := by decide +kernel
theorem dX8_copy_151 : decode cX8_copy 151 = .ok (.iconst 0, 1) := by decide +kernel
theorem dX8_copy_152 : decode cX8_copy 152 = .ok (.istore 6, 2) := by decide +kernel
theorem dX8_copy_154 : decode cX8_copy 154 = .ok (.iload 6, 2) := by decide +kernel
theorem dX8_copy_156 : decode cX8_copy 156 = .ok (.iload 5, 2) := by decide +kernel
theorem dX8_copy_158 : decode cX8_copy 158 = .ok (.if_icmp .ge 31, 3) := by decide +kernel
theorem dX8_copy_161 : decode cX8_copy 161 = .ok (.aload_n 0, 1) := by decide +kernel
theorem dX8_copy_162 : decode cX8_copy 162 = .ok (.getfield 63, 3) := by decide +kernel
theorem dX8_copy_165 : decode cX8_copy 165 = .ok (.bipush 24, 2) := by decide +kernel
theorem dX8_copy_167 : decode cX8_copy 167 = .ok (.iload_n 3, 1) := by decide +kernel
theorem dX8_copy_168 : decode cX8_copy 168 = .ok (.imul, 1) := by decide +kernel
theorem dX8_copy_169 : decode cX8_copy 169 = .ok (.iload 4, 2) := by decide +kernel
theorem dX8_copy_171 : decode cX8_copy 171 = .ok (.iadd, 1) := by decide +kernel
theorem dX8_copy_172 : decode cX8_copy 172 = .ok (.iload 6, 2) := by decide +kernel
theorem dX8_copy_174 : decode cX8_copy 174 = .ok (.iadd, 1) := by decide +kernel
theorem dX8_copy_175 : decode cX8_copy 175 = .ok (.aload_n 0, 1) := by decide +kernel
theorem dX8_copy_176 : decode cX8_copy 176 = .ok (.getfield 66, 3) := by decide +kernel
theorem dX8_copy_179 : decode cX8_copy 179 = .ok (.iload 6, 2) := by decide +kernel
theorem dX8_copy_181 : decode cX8_copy 181 = .ok (.iaload, 1) := by decide +kernel
theorem dX8_copy_182 : decode cX8_copy 182 = .ok (.iastore, 1) := by decide +kernel
theorem dX8_copy_183 : decode cX8_copy 183 = .ok (.iinc 6 1, 3) := by decide +kernel
theorem dX8_copy_186 : decode cX8_copy 186 = .ok (.goto (-32), 3) := by decide +kernel
theorem dX8_copy_189 : decode cX8_copy 189 = .ok (.iload 5, 2) := by decide +kernel
theorem dX8_copy_191 : decode cX8_copy 191 = .ok (.ireturn, 1) := by decide +kernel
end
section
theorem dJ11_isValidCodePoint_9a6ad_0 : decode cJ11_isValidCodePoint_9a6ad 0 = .ok (.iload_n 0, 1) := by decide +kernel
theorem dJ11_isValidCodePoint_9a6ad_1 : decode cJ11_isValidCodePoint_9a6ad 1 = .ok (.bipush 16, 2) := by decide +kernel
theorem dJ11_isValidCodePoint_9a6ad_3 : decode cJ11_isValidCodePoint_9a6ad 3 = .ok (.iushr, 1) := by decide +kernel
theorem dJ11_isValidCodePoint_9a6ad_4 : decode cJ11_isValidCodePoint_9a6ad 4 = .ok (.istore_n 1, 1) := by decide +kernel
theorem dJ11_isValidCodePoint_9a6ad_5 : decode cJ11_isValidCodePoint_9a6ad 5 = .ok (.iload_n 1, 1) := by decide +kernel
theorem dJ11_isValidCodePoint_9a6ad_6 : decode cJ11_isValidCodePoint_9a6ad 6 = .ok (.bipush 17, 2) := by decide +kernel
theorem dJ11_isValidCodePoint_9a6ad_8 : decode cJ11_isValidCodePoint_9a6ad 8 = .ok (.if_icmp .ge 7, 3) := by decide +kernel
theorem dJ11_isValidCodePoint_9a6ad_11 : decode cJ11_isValidCodePoint_9a6ad 11 = .ok (.iconst 1, 1) := by decide +kernel
theorem dJ11_isValidCodePoint_9a6ad_12 : decode cJ11_isValidCodePoint_9a6ad 12 = .ok (.goto 4, 3) := by decide +kernel
theorem dJ11_isValidCodePoint_9a6ad_15 : decode cJ11_isValidCodePoint_9a6ad 15 = .ok (.iconst 0, 1) := by decide +kernel
theorem dJ11_isValidCodePoint_9a6ad_16 : decode cJ11_isValidCodePoint_9a6ad 16 = .ok (.ireturn, 1) := by decide +kernel
theorem dJ11_highSurrogate_5068e_0 : decode cJ11_highSurrogate_5068e 0 = .ok (.iload_n 0, 1) := by decide +kernel
theorem dJ11_highSurrogate_5068e_1 : decode cJ11_highSurrogate_5068e 1 = .ok (.bipush 10, 2) := by decide +kernel
theorem dJ11_highSurrogate_5068e_3 : decode cJ11_highSurrogate_5068e 3 = .ok (.iushr, 1) := by decide +kernel
theorem dJ11_highSurrogate_5068e_4 : decode cJ11_highSurrogate_5068e 4 = .ok (.ldc 110, 2) := by decide +kernel
theorem dJ11_highSurrogate_5068e_6 : decode cJ11_highSurrogate_5068e 6 = .ok (.iadd, 1) := by decide +kernel
theorem dJ11_highSurrogate_5068e_7 : decode cJ11_highSurrogate_5068e 7 = .ok (.i2c, 1) := by decide +kernel
theorem dJ11_highSurrogate_5068e_8 : decode cJ11_highSurrogate_5068e 8 = .ok (.ireturn, 1) := by decide +kernel
theorem dJ11_lowSurrogate_5068e_0 : decode cJ11_lowSurrogate_5068e 0 = .ok (.iload_n 0, 1) := by decide +kernel
theorem dJ11_lowSurrogate_5068e_1 : decode cJ11_lowSurrogate_5068e 1 = .ok (.sipush 1023, 3) := by decide +kernel
theorem dJ11_lowSurrogate_5068e_4 : decode cJ11_lowSurrogate_5068e 4 = .ok (.iand, 1) := by decide +kernel
theorem dJ11_lowSurrogate_5068e_5 : decode cJ11_lowSurrogate_5068e 5 = .ok (.ldc 76, 2) := by decide +kernel
theorem dJ11_lowSurrogate_5068e_7 : decode cJ11_lowSurrogate_5068e 7 = .ok (.iadd, 1) := by decide +kernel
theorem dJ11_lowSurrogate_5068e_8 : decode cJ11_lowSurrogate_5068e 8 = .ok (.i2c, 1) := by decide +kernel
theorem dJ11_lowSurrogate_5068e_9 : decode cJ11_lowSurrogate_5068e 9 = .ok (.ireturn, 1) := by decide +kernel
theorem dJ6_bitCount_0f7a4_0 : decode cJ6_bitCount_0f7a4 0 = .ok (.iload_n 0, 1) := by decide +kernel
theorem dJ6_bitCount_0f7a4_1 : decode cJ6_bitCount_0f7a4 1 = .ok (.iload_n 0, 1) := by decide +kernel
theorem dJ6_bitCount_0f7a4_2 : decode cJ6_bitCount_0f7a4 2 = .ok (.iconst 1, 1) := by decide +kernel
theorem dJ6_bitCount_0f7a4_3 : decode cJ6_bitCount_0f7a4 3 = .ok (.iushr, 1) := by decide +kernel
theorem dJ6_bitCount_0f7a4_4 : decode cJ6_bitCount_0f7a4 4 = .ok (.ldc_w 265, 3) := by decide +kernel
theorem dJ6_bitCount_0f7a4_7 : decode cJ6_bitCount_0f7a4 7 = .ok (.iand, 1) := by decide +kernel
theorem dJ6_bitCount_0f7a4_8 : decode cJ6_bitCount_0f7a4 8 = .ok (.isub, 1) := by decide +kernel
theorem dJ6_bitCount_0f7a4_9 : decode cJ6_bitCount_0f7a4 9 = .ok (.istore_n 0, 1) := by decide +kernel
theorem dJ6_bitCount_0f7a4_10 : decode cJ6_bitCount_0f7a4 10 = .ok (.iload_n 0, 1) := by decide +kernel
theorem dJ6_bitCount_0f7a4_11 : decode cJ6_bitCount_0f7a4 11 = .ok (.ldc_w 266, 3) := by decide +kernel
theorem dJ6_bitCount_0f7a4_14 : decode cJ6_bitCount_0f7a4 14 = .ok (.iand, 1) := by decide +kernel
theorem dJ6_bitCount_0f7a4_15 : decode cJ6_bitCount_0f7a4 15 = .ok (.iload_n 0, 1) := by decide +kernel
theorem dJ6_bitCount_0f7a4_16 : decode cJ6_bitCount_0f7a4 16 = .ok (.iconst 2, 1) := by decide +kernel
theorem dJ6_bitCount_0f7a4_17 : decode cJ6_bitCount_0f7a4 17 = .ok (.iushr, 1) := by decide +kernel
theorem dJ6_bitCount_0f7a4_18 : decode cJ6_bitCount_0f7a4 18 = .ok (.ldc_w 266, 3) := by decide +kernel
theorem dJ6_bitCount_0f7a4_21 : decode cJ6_bitCount_0f7a4 21 = .ok (.iand, 1) := by decide +kernel
theorem dJ6_bitCount_0f7a4_22 : decode cJ6_bitCount_0f7a4 22 = .ok (.iadd, 1) := by decide +kernel
theorem dJ6_bitCount_0f7a4_23 : decode cJ6_bitCount_0f7a4 23 = .ok (.istore_n 0, 1) := by decide +kernel
theorem dJ6_bitCount_0f7a4_24 : decode cJ6_bitCount_0f7a4 24 = .ok (.iload_n 0, 1) := by decide +kernel
theorem dJ6_bitCount_0f7a4_25 : decode cJ6_bitCount_0f7a4 25 = .ok (.iload_n 0, 1) := by decide +kernel
theorem dJ6_bitCount_0f7a4_26 : decode cJ6_bitCount_0f7a4 26 = .ok (.iconst 4, 1) := by decide +kernel
theorem dJ6_bitCount_0f7a4_27 : decode cJ6_bitCount_0f7a4 27 = .ok (.iushr, 1) := by decide +kernel
theorem dJ6_bitCount_0f7a4_28 : decode cJ6_bitCount_0f7a4 28 = .ok (.iadd, 1) := by decide +kernel
theorem dJ6_bitCount_0f7a4_29 : decode cJ6_bitCount_0f7a4 29 = .ok (.ldc_w 267, 3) := by decide +kernel
theorem dJ6_bitCount_0f7a4_32 : decode cJ6_bitCount_0f7a4 32 = .ok (.iand, 1) := by decide +kernel
theorem dJ6_bitCount_0f7a4_33 : decode cJ6_bitCount_0f7a4 33 = .ok (.istore_n 0, 1) := by decide +kernel
theorem dJ6_bitCount_0f7a4_34 : decode cJ6_bitCount_0f7a4 34 = .ok (.iload_n 0, 1) := by decide +kernel
theorem dJ6_bitCount_0f7a4_35 : decode cJ6_bitCount_0f7a4 35 = .ok (.iload_n 0, 1) := by decide +kernel
theorem dJ6_bitCount_0f7a4_36 : decode cJ6_bitCount_0f7a4 36 = .ok (.bipush 8, 2) := by decide +kernel
theorem dJ6_bitCount_0f7a4_38 : decode cJ6_bitCount_0f7a4 38 = .ok (.iushr, 1) := by decide +kernel
theorem dJ6_bitCount_0f7a4_39 : decode cJ6_bitCount_0f7a4 39 = .ok (.iadd, 1) := by decide +kernel
theorem dJ6_bitCount_0f7a4_40 : decode cJ6_bitCount_0f7a4 40 = .ok (.istore_n 0, 1) := by decide +kernel
theorem dJ6_bitCount_0f7a4_41 : decode cJ6_bitCount_0f7a4 41 = .ok (.iload_n 0, 1) := by decide +kernel
theorem dJ6_bitCount_0f7a4_42 : decode cJ6_bitCount_0f7a4 42 = .ok (.iload_n 0, 1) := by decide +kernel
theorem dJ6_bitCount_0f7a4_43 : decode cJ6_bitCount_0f7a4 43 = .ok (.bipush 16, 2) := by decide +kernel
theorem dJ6_bitCount_0f7a4_45 : decode cJ6_bitCount_0f7a4 45 = .ok (.iushr, 1) := by decide +kernel
theorem dJ6_bitCount_0f7a4_46 : decode cJ6_bitCount_0f7a4 46 = .ok (.iadd, 1) := by decide +kernel
theorem dJ6_bitCount_0f7a4_47 : decode cJ6_bitCount_0f7a4 47 = .ok (.istore_n 0, 1) := by decide +kernel
theorem dJ6_bitCount_0f7a4_48 : decode cJ6_bitCount_0f7a4 48 = .ok (.iload_n 0, 1) := by decide +kernel
theorem dJ6_bitCount_0f7a4_49 : decode cJ6_bitCount_0f7a4 49 = .ok (.bipush 63, 2) := by decide +kernel
theorem dJ6_bitCount_0f7a4_51 : decode cJ6_bitCount_0f7a4 51 = .ok (.iand, 1) := by decide +kernel
theorem dJ6_bitCount_0f7a4_52 : decode cJ6_bitCount_0f7a4 52 = .ok (.ireturn, 1) := by decide +kernel
theorem dJ9_max_7cf53_0 : decode cJ9_max_7cf53 0 = .ok (.iload_n 0, 1) := by decide +kernel
theorem dJ9_max_7cf53_1 : decode cJ9_max_7cf53 1 = .ok (.iload_n 1, 1) := by decide +kernel
theorem dJ9_max_7cf53_2 : decode cJ9_max_7cf53 2 = .ok (.if_icmp .lt 7, 3) := by decide +kernel
theorem dJ9_max_7cf53_5 : decode cJ9_max_7cf53 5 = .ok (.iload_n 0, 1) := by decide +kernel
theorem dJ9_max_7cf53_6 : decode cJ9_max_7cf53 6 = .ok (.goto 4, 3) := by decide +kernel
theorem dJ9_max_7cf53_9 : decode cJ9_max_7cf53 9 = .ok (.iload_n 1, 1) := by decide +kernel
theorem dJ9_max_7cf53_10 : decode cJ9_max_7cf53 10 = .ok (.ireturn, 1) := by decide +kernel
theorem dJ9_min_7cf53_0 : decode cJ9_min_7cf53 0 = .ok (.iload_n 0, 1) := by decide +kernel
theorem dJ9_min_7cf53_1 : decode cJ9_min_7cf53 1 = .ok (.iload_n 1, 1) := by decide +kernel
theorem dJ9_min_7cf53_2 : decode cJ9_min_7cf53 2 = .ok (.if_icmp .gt 7, 3) := by decide +kernel
theorem dJ9_min_7cf53_5 : decode cJ9_min_7cf53 5 = .ok (.iload_n 0, 1) := by decide +kernel
theorem dJ9_min_7cf53_6 : decode cJ9_min_7cf53 6 = .ok (.goto 4, 3) := by decide +kernel
theorem dJ9_min_7cf53_9 : decode cJ9_min_7cf53 9 = .ok (.iload_n 1, 1) := by decide +kernel
theorem dJ9_min_7cf53_10 : decode cJ9_min_7cf53 10 = .ok (.ireturn, 1) := by decide +kernel
theorem dJ0_length_8abf5_0 : decode cJ0_length_8abf5 0 = .ok (.aload_n 0, 1) := by decide +kernel
theorem dJ0_length_8abf5_1 : decode cJ0_length_8abf5 1 = .ok (.getfield 9, 3) := by decide +kernel
theorem dJ0_length_8abf5_4 : decode cJ0_length_8abf5 4 = .ok (.arraylength, 1) := by decide +kernel
theorem dJ0_length_8abf5_5 : decode cJ0_length_8abf5 5 = .ok (.aload_n 0, 1) := by decide +kernel
theorem dJ0_length_8abf5_6 : decode cJ0_length_8abf5 6 = .ok (.invokevirtual 335, 3) := by decide +kernel
theorem dJ0_length_8abf5_9 : decode cJ0_length_8abf5 9 = .ok (.ishr, 1) := by decide +kernel
theorem dJ0_length_8abf5_10 : decode cJ0_length_8abf5 10 = .ok (.ireturn, 1) := by decide +kernel
theorem dJ0_indexOf_0f7a4_0 : decode cJ0_indexOf_0f7a4 0 = .ok (.aload_n 0, 1) := by decide +kernel
theorem dJ0_indexOf_0f7a4_1 : decode cJ0_indexOf_0f7a4 1 = .ok (.iload_n 1, 1) := by decide +kernel
theorem dJ0_indexOf_0f7a4_2 : decode cJ0_indexOf_0f7a4 2 = .ok (.iconst 0, 1) := by decide +kernel
theorem dJ0_indexOf_0f7a4_3 : decode cJ0_indexOf_0f7a4 3 = .ok (.invokevirtual 633, 3) := by decide +kernel
theorem dJ0_indexOf_0f7a4_6 : decode cJ0_indexOf_0f7a4 6 = .ok (.ireturn, 1) := by decide +kernel
theorem dJ0_indexOf_7cf53_0 : decode cJ0_indexOf_7cf53 0 = .ok (.aload_n 0, 1) := by decide +kernel
theorem dJ0_indexOf_7cf53_1 : decode cJ0_indexOf_7cf53 1 = .ok (.invokevirtual 492, 3) := by decide +kernel
theorem dJ0_indexOf_7cf53_4 : decode cJ0_indexOf_7cf53 4 = .ok (.ifCond .eq 19, 3) := by decide +kernel
theorem dJ0_indexOf_7cf53_7 : decode cJ0_indexOf_7cf53 7 = .ok (.aload_n 0, 1) := by decide +kernel
theorem dJ0_indexOf_7cf53_8 : decode cJ0_indexOf_7cf53 8 = .ok (.getfield 9, 3) := by decide +kernel
theorem dJ0_indexOf_7cf53_11 : decode cJ0_indexOf_7cf53 11 = .ok (.iload_n 1, 1) := by decide +kernel
theorem dJ0_indexOf_7cf53_12 : decode cJ0_indexOf_7cf53 12 = .ok (.iload_n 2, 1) := by decide +kernel
theorem dJ0_indexOf_7cf53_13 : decode cJ0_indexOf_7cf53 13 = .ok (.aload_n 0, 1) := by decide +kernel
theorem dJ0_indexOf_7cf53_14 : decode cJ0_indexOf_7cf53 14 = .ok (.invokevirtual 505, 3) := by decide +kernel
theorem dJ0_indexOf_7cf53_17 : decode cJ0_indexOf_7cf53 17 = .ok (.invokestatic 637, 3) := by decide +kernel
theorem dJ0_indexOf_7cf53_20 : decode cJ0_indexOf_7cf53 20 = .ok (.goto 16, 3) := by decide +kernel
theorem dJ0_indexOf_7cf53_23 : decode cJ0_indexOf_7cf53 23 = .ok (.aload_n 0, 1) := by decide +kernel
theorem dJ0_indexOf_7cf53_24 : decode cJ0_indexOf_7cf53 24 = .ok (.getfield 9, 3) := by decide +kernel
theorem dJ0_indexOf_7cf53_27 : decode cJ0_indexOf_7cf53 27 = .ok (.iload_n 1, 1) := by decide +kernel
theorem dJ0_indexOf_7cf53_28 : decode cJ0_indexOf_7cf53 28 = .ok (.iload_n 2, 1) := by decide +kernel
theorem dJ0_indexOf_7cf53_29 : decode cJ0_indexOf_7cf53 29 = .ok (.aload_n 0, 1) := by decide +kernel
theorem dJ0_indexOf_7cf53_30 : decode cJ0_indexOf_7cf53 30 = .ok (.invokevirtual 505, 3) := by decide +kernel
theorem dJ0_indexOf_7cf53_33 : decode cJ0_indexOf_7cf53 33 = .ok (.invokestatic 640, 3) := by decide +kernel
theorem dJ0_indexOf_7cf53_36 : decode cJ0_indexOf_7cf53 36 = .ok (.ireturn, 1) := by decide +kernel
theorem dJ0_coder_7d493_0 : decode cJ0_coder_7d493 0 = .ok (.getstatic 38, 3) := by decide +kernel
theorem dJ0_coder_7d493_3 : decode cJ0_coder_7d493 3 = .ok (.ifCond .eq 10, 3) := by decide +kernel
theorem dJ0_coder_7d493_6 : decode cJ0_coder_7d493 6 = .ok (.aload_n 0, 1) := by decide +kernel
theorem dJ0_coder_7d493_7 : decode cJ0_coder_7d493 7 = .ok (.getfield 15, 3) := by decide +kernel
theorem dJ0_coder_7d493_10 : decode cJ0_coder_7d493 10 = .ok (.goto 4, 3) := by decide +kernel
theorem dJ0_coder_7d493_13 : decode cJ0_coder_7d493 13 = .ok (.iconst 1, 1) := by decide +kernel
theorem dJ0_coder_7d493_14 : decode cJ0_coder_7d493 14 = .ok (.ireturn, 1) := by decide +kernel
theorem dJ0_isLatin1_aae02_0 : decode cJ0_isLatin1_aae02 0 = .ok (.getstatic 38, 3) := by decide +kernel
theorem dJ0_isLatin1_aae02_3 : decode cJ0_isLatin1_aae02 3 = .ok (.ifCond .eq 14, 3) := by decide +kernel
theorem dJ0_isLatin1_aae02_6 : decode cJ0_isLatin1_aae02 6 = .ok (.aload_n 0, 1) := by decide +kernel
theorem dJ0_isLatin1_aae02_7 : decode cJ0_isLatin1_aae02 7 = .ok (.getfield 15, 3) := by decide +kernel
theorem dJ0_isLatin1_aae02_10 : decode cJ0_isLatin1_aae02 10 = .ok (.ifCond .ne 7, 3) := by decide +kernel
theorem dJ0_isLatin1_aae02_13 : decode cJ0_isLatin1_aae02 13 = .ok (.iconst 1, 1) := by decide +kernel
theorem dJ0_isLatin1_aae02_14 : decode cJ0_isLatin1_aae02 14 = .ok (.goto 4, 3) := by decide +kernel
theorem dJ0_isLatin1_aae02_17 : decode cJ0_isLatin1_aae02 17 = .ok (.iconst 0, 1) := by decide +kernel
theorem dJ0_isLatin1_aae02_18 : decode cJ0_isLatin1_aae02 18 = .ok (.ireturn, 1) := by decide +kernel
theorem dJ0_checkBoundsBeginEnd_23922_0 : decode cJ0_checkBoundsBeginEnd_23922 0 = .ok (.iload_n 0, 1) := by decide +kernel
theorem dJ0_checkBoundsBeginEnd_23922_1 : decode cJ0_checkBoundsBeginEnd_23922 1 = .ok (.iload_n 1, 1) := by decide +kernel
theorem dJ0_checkBoundsBeginEnd_23922_2 : decode cJ0_checkBoundsBeginEnd_23922 2 = .ok (.iload_n 2, 1) := by decide +kernel
theorem dJ0_checkBoundsBeginEnd_23922_3 : decode cJ0_checkBoundsBeginEnd_23922 3 = .ok (.getstatic 1053, 3) := by decide +kernel
theorem dJ0_checkBoundsBeginEnd_23922_6 : decode cJ0_checkBoundsBeginEnd_23922 6 = .ok (.invokestatic 1062, 3) := by decide +kernel
theorem dJ0_checkBoundsBeginEnd_23922_9 : decode cJ0_checkBoundsBeginEnd_23922 9 = .ok (.pop, 1) := by decide +kernel
theorem dJ0_checkBoundsBeginEnd_23922_10 : decode cJ0_checkBoundsBeginEnd_23922 10 = .ok (.return_, 1) := by decide +kernel
theorem dJ1_canEncode_9a6ad_0 : decode cJ1_canEncode_9a6ad 0 = .ok (.iload_n 0, 1) := by decide +kernel
theorem dJ1_canEncode_9a6ad_1 : decode cJ1_canEncode_9a6ad 1 = .ok (.ifCond .lt 14, 3) := by decide +kernel
theorem dJ1_canEncode_9a6ad_4 : decode cJ1_canEncode_9a6ad 4 = .ok (.iload_n 0, 1) := by decide +kernel
theorem dJ1_canEncode_9a6ad_5 : decode cJ1_canEncode_9a6ad 5 = .ok (.sipush 255, 3) := by decide +kernel
theorem dJ1_canEncode_9a6ad_8 : decode cJ1_canEncode_9a6ad 8 = .ok (.if_icmp .gt 7, 3) := by decide +kernel
theorem dJ1_canEncode_9a6ad_11 : decode cJ1_canEncode_9a6ad 11 = .ok (.iconst 1, 1) := by decide +kernel
theorem dJ1_canEncode_9a6ad_12 : decode cJ1_canEncode_9a6ad 12 = .ok (.goto 4, 3) := by decide +kernel
theorem dJ1_canEncode_9a6ad_15 : decode cJ1_canEncode_9a6ad 15 = .ok (.iconst 0, 1) := by decide +kernel
theorem dJ1_canEncode_9a6ad_16 : decode cJ1_canEncode_9a6ad 16 = .ok (.ireturn, 1) := by decide +kernel
theorem dJ1_indexOf_4cfef_0 : decode cJ1_indexOf_4cfef 0 = .ok (.iload_n 1, 1) := by decide +kernel
theorem dJ1_indexOf_4cfef_1 : decode cJ1_indexOf_4cfef 1 = .ok (.invokestatic 88, 3) := by decide +kernel
theorem dJ1_indexOf_4cfef_4 : decode cJ1_indexOf_4cfef 4 = .ok (.ifCond .ne 5, 3) := by decide +kernel
theorem dJ1_indexOf_4cfef_7 : decode cJ1_indexOf_4cfef 7 = .ok (.iconst (-1), 1) := by decide +kernel
theorem dJ1_indexOf_4cfef_8 : decode cJ1_indexOf_4cfef 8 = .ok (.ireturn, 1) := by decide +kernel
theorem dJ1_indexOf_4cfef_9 : decode cJ1_indexOf_4cfef 9 = .ok (.iload_n 2, 1) := by decide +kernel
theorem dJ1_indexOf_4cfef_10 : decode cJ1_indexOf_4cfef 10 = .ok (.iconst 0, 1) := by decide +kernel
theorem dJ1_indexOf_4cfef_11 : decode cJ1_indexOf_4cfef 11 = .ok (.invokestatic 92, 3) := by decide +kernel
theorem dJ1_indexOf_4cfef_14 : decode cJ1_indexOf_4cfef 14 = .ok (.istore_n 2, 1) := by decide +kernel
theorem dJ1_indexOf_4cfef_15 : decode cJ1_indexOf_4cfef 15 = .ok (.iload_n 3, 1) := by decide +kernel
theorem dJ1_indexOf_4cfef_16 : decode cJ1_indexOf_4cfef 16 = .ok (.aload_n 0, 1) := by decide +kernel
theorem dJ1_indexOf_4cfef_17 : decode cJ1_indexOf_4cfef 17 = .ok (.arraylength, 1) := by decide +kernel
theorem dJ1_indexOf_4cfef_18 : decode cJ1_indexOf_4cfef 18 = .ok (.invokestatic 38, 3) := by decide +kernel
theorem dJ1_indexOf_4cfef_21 : decode cJ1_indexOf_4cfef 21 = .ok (.istore_n 3, 1) := by decide +kernel
theorem dJ1_indexOf_4cfef_22 : decode cJ1_indexOf_4cfef 22 = .ok (.iload_n 2, 1) := by decide +kernel
theorem dJ1_indexOf_4cfef_23 : decode cJ1_indexOf_4cfef 23 = .ok (.iload_n 3, 1) := by decide +kernel
theorem dJ1_indexOf_4cfef_24 : decode cJ1_indexOf_4cfef 24 = .ok (.if_icmp .lt 5, 3) := by decide +kernel
theorem dJ1_indexOf_4cfef_27 : decode cJ1_indexOf_4cfef 27 = .ok (.iconst (-1), 1) := by decide +kernel
theorem dJ1_indexOf_4cfef_28 : decode cJ1_indexOf_4cfef 28 = .ok (.ireturn, 1) := by decide +kernel
theorem dJ1_indexOf_4cfef_29 : decode cJ1_indexOf_4cfef 29 = .ok (.aload_n 0, 1) := by decide +kernel
theorem dJ1_indexOf_4cfef_30 : decode cJ1_indexOf_4cfef 30 = .ok (.iload_n 1, 1) := by decide +kernel
theorem dJ1_indexOf_4cfef_31 : decode cJ1_indexOf_4cfef 31 = .ok (.iload_n 2, 1) := by decide +kernel
theorem dJ1_indexOf_4cfef_32 : decode cJ1_indexOf_4cfef 32 = .ok (.iload_n 3, 1) := by decide +kernel
theorem dJ1_indexOf_4cfef_33 : decode cJ1_indexOf_4cfef 33 = .ok (.invokestatic 95, 3) := by decide +kernel
theorem dJ1_indexOf_4cfef_36 : decode cJ1_indexOf_4cfef 36 = .ok (.ireturn, 1) := by decide +kernel
theorem dJ1_indexOfChar_4cfef_0 : decode cJ1_indexOfChar_4cfef 0 = .ok (.iload_n 1, 1) := by decide +kernel
theorem dJ1_indexOfChar_4cfef_1 : decode cJ1_indexOfChar_4cfef 1 = .ok (.i2b, 1) := by decide +kernel
theorem dJ1_indexOfChar_4cfef_2 : decode cJ1_indexOfChar_4cfef 2 = .ok (.istore 4, 2) := by decide +kernel
theorem dJ1_indexOfChar_4cfef_4 : decode cJ1_indexOfChar_4cfef 4 = .ok (.iload_n 2, 1) := by decide +kernel
theorem dJ1_indexOfChar_4cfef_5 : decode cJ1_indexOfChar_4cfef 5 = .ok (.istore 5, 2) := by decide +kernel
theorem dJ1_indexOfChar_4cfef_7 : decode cJ1_indexOfChar_4cfef 7 = .ok (.iload 5, 2) := by decide +kernel
theorem dJ1_indexOfChar_4cfef_9 : decode cJ1_indexOfChar_4cfef 9 = .ok (.iload_n 3, 1) := by decide +kernel
theorem dJ1_indexOfChar_4cfef_10 : decode cJ1_indexOfChar_4cfef 10 = .ok (.if_icmp .ge 21, 3) := by decide +kernel
theorem dJ1_indexOfChar_4cfef_13 : decode cJ1_indexOfChar_4cfef 13 = .ok (.aload_n 0, 1) := by decide +kernel
theorem dJ1_indexOfChar_4cfef_14 : decode cJ1_indexOfChar_4cfef 14 = .ok (.iload 5, 2) := by decide +kernel
theorem dJ1_indexOfChar_4cfef_16 : decode cJ1_indexOfChar_4cfef 16 = .ok (.baload, 1) := by decide +kernel
theorem dJ1_indexOfChar_4cfef_17 : decode cJ1_indexOfChar_4cfef 17 = .ok (.iload 4, 2) := by decide +kernel
theorem dJ1_indexOfChar_4cfef_19 : decode cJ1_indexOfChar_4cfef 19 = .ok (.if_icmp .ne 6, 3) := by decide +kernel
theorem dJ1_indexOfChar_4cfef_22 : decode cJ1_indexOfChar_4cfef 22 = .ok (.iload 5, 2) := by decide +kernel
theorem dJ1_indexOfChar_4cfef_24 : decode cJ1_indexOfChar_4cfef 24 = .ok (.ireturn, 1) := by decide +kernel
theorem dJ1_indexOfChar_4cfef_25 : decode cJ1_indexOfChar_4cfef 25 = .ok (.iinc 5 1, 3) := by decide +kernel
theorem dJ1_indexOfChar_4cfef_28 : decode cJ1_indexOfChar_4cfef 28 = .ok (.goto (-21), 3) := by decide +kernel
theorem dJ1_indexOfChar_4cfef_31 : decode cJ1_indexOfChar_4cfef 31 = .ok (.iconst (-1), 1) := by decide +kernel
theorem dJ1_indexOfChar_4cfef_32 : decode cJ1_indexOfChar_4cfef 32 = .ok (.ireturn, 1) := by decide +kernel
theorem dJ2_getChar_3b067_0 : decode cJ2_getChar_3b067 0 = .ok (.getstatic 44, 3) := by decide +kernel
theorem dJ2_getChar_3b067_3 : decode cJ2_getChar_3b067 3 = .ok (.ifCond .ne 25, 3) := by decide +kernel
theorem dJ2_getChar_3b067_6 : decode cJ2_getChar_3b067 6 = .ok (.iload_n 1, 1) := by decide +kernel
theorem dJ2_getChar_3b067_7 : decode cJ2_getChar_3b067 7 = .ok (.ifCond .lt 11, 3) := by decide +kernel
theorem dJ2_getChar_3b067_10 : decode cJ2_getChar_3b067 10 = .ok (.iload_n 1, 1) := by decide +kernel
theorem dJ2_getChar_3b067_11 : decode cJ2_getChar_3b067 11 = .ok (.aload_n 0, 1) := by decide +kernel
theorem dJ2_getChar_3b067_12 : decode cJ2_getChar_3b067 12 = .ok (.invokestatic 48, 3) := by decide +kernel
theorem dJ2_getChar_3b067_15 : decode cJ2_getChar_3b067 15 = .ok (.if_icmp .lt 13, 3) := by decide +kernel
theorem dJ2_getChar_3b067_18 : decode cJ2_getChar_3b067 18 = .ok (.new 52, 3) := by decide +kernel
theorem dJ2_getChar_3b067_21 : decode cJ2_getChar_3b067 21 = .ok (.dup, 1) := by decide +kernel
theorem dJ2_getChar_3b067_22 : decode cJ2_getChar_3b067 22 = .ok (.ldc 54, 2) := by decide +kernel
theorem dJ2_getChar_3b067_24 : decode cJ2_getChar_3b067 24 = .ok (.invokespecial 56, 3) := by decide +kernel
theorem dJ2_getChar_3b067_27 : decode cJ2_getChar_3b067 27 = .ok (.athrow, 1) := by decide +kernel
theorem dJ2_getChar_3b067_28 : decode cJ2_getChar_3b067 28 = .ok (.iload_n 1, 1) := by decide +kernel
theorem dJ2_getChar_3b067_29 : decode cJ2_getChar_3b067 29 = .ok (.iconst 1, 1) := by decide +kernel
theorem dJ2_getChar_3b067_30 : decode cJ2_getChar_3b067 30 = .ok (.ishl, 1) := by decide +kernel
theorem dJ2_getChar_3b067_31 : decode cJ2_getChar_3b067 31 = .ok (.istore_n 1, 1) := by decide +kernel
theorem dJ2_getChar_3b067_32 : decode cJ2_getChar_3b067 32 = .ok (.aload_n 0, 1) := by decide +kernel
theorem dJ2_getChar_3b067_33 : decode cJ2_getChar_3b067 33 = .ok (.iload_n 1, 1) := by decide +kernel
theorem dJ2_getChar_3b067_34 : decode cJ2_getChar_3b067 34 = .ok (.iinc 1 1, 3) := by decide +kernel
theorem dJ2_getChar_3b067_37 : decode cJ2_getChar_3b067 37 = .ok (.baload, 1) := by decide +kernel
theorem dJ2_getChar_3b067_38 : decode cJ2_getChar_3b067 38 = .ok (.sipush 255, 3) := by decide +kernel
theorem dJ2_getChar_3b067_41 : decode cJ2_getChar_3b067 41 = .ok (.iand, 1) := by decide +kernel
theorem dJ2_getChar_3b067_42 : decode cJ2_getChar_3b067 42 = .ok (.getstatic 59, 3) := by decide +kernel
theorem dJ2_getChar_3b067_45 : decode cJ2_getChar_3b067 45 = .ok (.ishl, 1) := by decide +kernel
theorem dJ2_getChar_3b067_46 : decode cJ2_getChar_3b067 46 = .ok (.aload_n 0, 1) := by decide +kernel
theorem dJ2_getChar_3b067_47 : decode cJ2_getChar_3b067 47 = .ok (.iload_n 1, 1) := by decide +kernel
theorem dJ2_getChar_3b067_48 : decode cJ2_getChar_3b067 48 = .ok (.baload, 1) := by decide +kernel
theorem dJ2_getChar_3b067_49 : decode cJ2_getChar_3b067 49 = .ok (.sipush 255, 3) := by decide +kernel
theorem dJ2_getChar_3b067_52 : decode cJ2_getChar_3b067 52 = .ok (.iand, 1) := by decide +kernel
theorem dJ2_getChar_3b067_53 : decode cJ2_getChar_3b067 53 = .ok (.getstatic 63, 3) := by decide +kernel
theorem dJ2_getChar_3b067_56 : decode cJ2_getChar_3b067 56 = .ok (.ishl, 1) := by decide +kernel
theorem dJ2_getChar_3b067_57 : decode cJ2_getChar_3b067 57 = .ok (.ior, 1) := by decide +kernel
theorem dJ2_getChar_3b067_58 : decode cJ2_getChar_3b067 58 = .ok (.i2c, 1) := by decide +kernel
theorem dJ2_getChar_3b067_59 : decode cJ2_getChar_3b067 59 = .ok (.ireturn, 1) := by decide +kernel
theorem dJ2_length_9d52b_0 : decode cJ2_length_9d52b 0 = .ok (.aload_n 0, 1) := by decide +kernel
theorem dJ2_length_9d52b_1 : decode cJ2_length_9d52b 1 = .ok (.arraylength, 1) := by decide +kernel
theorem dJ2_length_9d52b_2 : decode cJ2_length_9d52b 2 = .ok (.iconst 1, 1) := by decide +kernel
theorem dJ2_length_9d52b_3 : decode cJ2_length_9d52b 3 = .ok (.ishr, 1) := by decide +kernel
theorem dJ2_length_9d52b_4 : decode cJ2_length_9d52b 4 = .ok (.ireturn, 1) := by decide +kernel
theorem dJ2_indexOf_4cfef_0 : decode cJ2_indexOf_4cfef 0 = .ok (.iload_n 2, 1) := by decide +kernel
theorem dJ2_indexOf_4cfef_1 : decode cJ2_indexOf_4cfef 1 = .ok (.iconst 0, 1) := by decide +kernel
theorem dJ2_indexOf_4cfef_2 : decode cJ2_indexOf_4cfef 2 = .ok (.invokestatic 224, 3) := by decide +kernel
theorem dJ2_indexOf_4cfef_5 : decode cJ2_indexOf_4cfef 5 = .ok (.istore_n 2, 1) := by decide +kernel
theorem dJ2_indexOf_4cfef_6 : decode cJ2_indexOf_4cfef 6 = .ok (.iload_n 3, 1) := by decide +kernel
theorem dJ2_indexOf_4cfef_7 : decode cJ2_indexOf_4cfef 7 = .ok (.aload_n 0, 1) := by decide +kernel
theorem dJ2_indexOf_4cfef_8 : decode cJ2_indexOf_4cfef 8 = .ok (.arraylength, 1) := by decide +kernel
theorem dJ2_indexOf_4cfef_9 : decode cJ2_indexOf_4cfef 9 = .ok (.iconst 1, 1) := by decide +kernel
theorem dJ2_indexOf_4cfef_10 : decode cJ2_indexOf_4cfef 10 = .ok (.ishr, 1) := by decide +kernel
theorem dJ2_indexOf_4cfef_11 : decode cJ2_indexOf_4cfef 11 = .ok (.invokestatic 183, 3) := by decide +kernel
theorem dJ2_indexOf_4cfef_14 : decode cJ2_indexOf_4cfef 14 = .ok (.istore_n 3, 1) := by decide +kernel
theorem dJ2_indexOf_4cfef_15 : decode cJ2_indexOf_4cfef 15 = .ok (.iload_n 2, 1) := by decide +kernel
theorem dJ2_indexOf_4cfef_16 : decode cJ2_indexOf_4cfef 16 = .ok (.iload_n 3, 1) := by decide +kernel
theorem dJ2_indexOf_4cfef_17 : decode cJ2_indexOf_4cfef 17 = .ok (.if_icmp .lt 5, 3) := by decide +kernel
theorem dJ2_indexOf_4cfef_20 : decode cJ2_indexOf_4cfef 20 = .ok (.iconst (-1), 1) := by decide +kernel
theorem dJ2_indexOf_4cfef_21 : decode cJ2_indexOf_4cfef 21 = .ok (.ireturn, 1) := by decide +kernel
theorem dJ2_indexOf_4cfef_22 : decode cJ2_indexOf_4cfef 22 = .ok (.iload_n 1, 1) := by decide +kernel
theorem dJ2_indexOf_4cfef_23 : decode cJ2_indexOf_4cfef 23 = .ok (.ldc 227, 2) := by decide +kernel
theorem dJ2_indexOf_4cfef_25 : decode cJ2_indexOf_4cfef 25 = .ok (.if_icmp .ge 11, 3) := by decide +kernel
theorem dJ2_indexOf_4cfef_28 : decode cJ2_indexOf_4cfef 28 = .ok (.aload_n 0, 1) := by decide +kernel
theorem dJ2_indexOf_4cfef_29 : decode cJ2_indexOf_4cfef 29 = .ok (.iload_n 1, 1) := by decide +kernel
theorem dJ2_indexOf_4cfef_30 : decode cJ2_indexOf_4cfef 30 = .ok (.iload_n 2, 1) := by decide +kernel
theorem dJ2_indexOf_4cfef_31 : decode cJ2_indexOf_4cfef 31 = .ok (.iload_n 3, 1) := by decide +kernel
theorem dJ2_indexOf_4cfef_32 : decode cJ2_indexOf_4cfef 32 = .ok (.invokestatic 228, 3) := by decide +kernel
theorem dJ2_indexOf_4cfef_35 : decode cJ2_indexOf_4cfef 35 = .ok (.ireturn, 1) := by decide +kernel
theorem dJ2_indexOf_4cfef_36 : decode cJ2_indexOf_4cfef 36 = .ok (.aload_n 0, 1) := by decide +kernel
theorem dJ2_indexOf_4cfef_37 : decode cJ2_indexOf_4cfef 37 = .ok (.iload_n 1, 1) := by decide +kernel
theorem dJ2_indexOf_4cfef_38 : decode cJ2_indexOf_4cfef 38 = .ok (.iload_n 2, 1) := by decide +kernel
theorem dJ2_indexOf_4cfef_39 : decode cJ2_indexOf_4cfef 39 = .ok (.iload_n 3, 1) := by decide +kernel
theorem dJ2_indexOf_4cfef_40 : decode cJ2_indexOf_4cfef 40 = .ok (.invokestatic 232, 3) := by decide +kernel
theorem dJ2_indexOf_4cfef_43 : decode cJ2_indexOf_4cfef 43 = .ok (.ireturn, 1) := by decide +kernel
theorem dJ2_indexOfChar_4cfef_0 : decode cJ2_indexOfChar_4cfef 0 = .ok (.iload_n 2, 1) := by decide +kernel
theorem dJ2_indexOfChar_4cfef_1 : decode cJ2_indexOfChar_4cfef 1 = .ok (.iload_n 3, 1) := by decide +kernel
theorem dJ2_indexOfChar_4cfef_2 : decode cJ2_indexOfChar_4cfef 2 = .ok (.aload_n 0, 1) := by decide +kernel
theorem dJ2_indexOfChar_4cfef_3 : decode cJ2_indexOfChar_4cfef 3 = .ok (.invokestatic 96, 3) := by decide +kernel
theorem dJ2_indexOfChar_4cfef_6 : decode cJ2_indexOfChar_4cfef 6 = .ok (.aload_n 0, 1) := by decide +kernel
theorem dJ2_indexOfChar_4cfef_7 : decode cJ2_indexOfChar_4cfef 7 = .ok (.iload_n 1, 1) := by decide +kernel
theorem dJ2_indexOfChar_4cfef_8 : decode cJ2_indexOfChar_4cfef 8 = .ok (.iload_n 2, 1) := by decide +kernel
theorem dJ2_indexOfChar_4cfef_9 : decode cJ2_indexOfChar_4cfef 9 = .ok (.iload_n 3, 1) := by decide +kernel
theorem dJ2_indexOfChar_4cfef_10 : decode cJ2_indexOfChar_4cfef 10 = .ok (.invokestatic 244, 3) := by decide +kernel
theorem dJ2_indexOfChar_4cfef_13 : decode cJ2_indexOfChar_4cfef 13 = .ok (.ireturn, 1) := by decide +kernel
theorem dJ2_indexOfCharUnsafe_4cfef_0 : decode cJ2_indexOfCharUnsafe_4cfef 0 = .ok (.iload_n 2, 1) := by decide +kernel
theorem dJ2_indexOfCharUnsafe_4cfef_1 : decode cJ2_indexOfCharUnsafe_4cfef 1 = .ok (.istore 4, 2) := by decide +kernel
theorem dJ2_indexOfCharUnsafe_4cfef_3 : decode cJ2_indexOfCharUnsafe_4cfef 3 = .ok (.iload 4, 2) := by decide +kernel
theorem dJ2_indexOfCharUnsafe_4cfef_5 : decode cJ2_indexOfCharUnsafe_4cfef 5 = .ok (.iload_n 3, 1) := by decide +kernel
theorem dJ2_indexOfCharUnsafe_4cfef_6 : decode cJ2_indexOfCharUnsafe_4cfef 6 = .ok (.if_icmp .ge 22, 3) := by decide +kernel
theorem dJ2_indexOfCharUnsafe_4cfef_9 : decode cJ2_indexOfCharUnsafe_4cfef 9 = .ok (.aload_n 0, 1) := by decide +kernel
theorem dJ2_indexOfCharUnsafe_4cfef_10 : decode cJ2_indexOfCharUnsafe_4cfef 10 = .ok (.iload 4, 2) := by decide +kernel
theorem dJ2_indexOfCharUnsafe_4cfef_12 : decode cJ2_indexOfCharUnsafe_4cfef 12 = .ok (.invokestatic 71, 3) := by decide +kernel
theorem dJ2_indexOfCharUnsafe_4cfef_15 : decode cJ2_indexOfCharUnsafe_4cfef 15 = .ok (.iload_n 1, 1) := by decide +kernel
theorem dJ2_indexOfCharUnsafe_4cfef_16 : decode cJ2_indexOfCharUnsafe_4cfef 16 = .ok (.if_icmp .ne 6, 3) := by decide +kernel
theorem dJ2_indexOfCharUnsafe_4cfef_19 : decode cJ2_indexOfCharUnsafe_4cfef 19 = .ok (.iload 4, 2) := by decide +kernel
theorem dJ2_indexOfCharUnsafe_4cfef_21 : decode cJ2_indexOfCharUnsafe_4cfef 21 = .ok (.ireturn, 1) := by decide +kernel
theorem dJ2_indexOfCharUnsafe_4cfef_22 : decode cJ2_indexOfCharUnsafe_4cfef 22 = .ok (.iinc 4 1, 3) := by decide +kernel
theorem dJ2_indexOfCharUnsafe_4cfef_25 : decode cJ2_indexOfCharUnsafe_4cfef 25 = .ok (.goto (-22), 3) := by decide +kernel
theorem dJ2_indexOfCharUnsafe_4cfef_28 : decode cJ2_indexOfCharUnsafe_4cfef 28 = .ok (.iconst (-1), 1) := by decide +kernel
theorem dJ2_indexOfCharUnsafe_4cfef_29 : decode cJ2_indexOfCharUnsafe_4cfef 29 = .ok (.ireturn, 1) := by decide +kernel
theorem dJ2_indexOfSupplementary_4cfef_0 : decode cJ2_indexOfSupplementary_4cfef 0 = .ok (.iload_n 1, 1) := by decide +kernel
theorem dJ2_indexOfSupplementary_4cfef_1 : decode cJ2_indexOfSupplementary_4cfef 1 = .ok (.invokestatic 164, 3) := by decide +kernel
theorem dJ2_indexOfSupplementary_4cfef_4 : decode cJ2_indexOfSupplementary_4cfef 4 = .ok (.ifCond .eq 65, 3) := by decide +kernel
theorem dJ2_indexOfSupplementary_4cfef_7 : decode cJ2_indexOfSupplementary_4cfef 7 = .ok (.iload_n 1, 1) := by decide +kernel
theorem dJ2_indexOfSupplementary_4cfef_8 : decode cJ2_indexOfSupplementary_4cfef 8 = .ok (.invokestatic 157, 3) := by decide +kernel
theorem dJ2_indexOfSupplementary_4cfef_11 : decode cJ2_indexOfSupplementary_4cfef 11 = .ok (.istore 4, 2) := by decide +kernel
theorem dJ2_indexOfSupplementary_4cfef_13 : decode cJ2_indexOfSupplementary_4cfef 13 = .ok (.iload_n 1, 1) := by decide +kernel
theorem dJ2_indexOfSupplementary_4cfef_14 : decode cJ2_indexOfSupplementary_4cfef 14 = .ok (.invokestatic 161, 3) := by decide +kernel
theorem dJ2_indexOfSupplementary_4cfef_17 : decode cJ2_indexOfSupplementary_4cfef 17 = .ok (.istore 5, 2) := by decide +kernel
theorem dJ2_indexOfSupplementary_4cfef_19 : decode cJ2_indexOfSupplementary_4cfef 19 = .ok (.iload_n 2, 1) := by decide +kernel
theorem dJ2_indexOfSupplementary_4cfef_20 : decode cJ2_indexOfSupplementary_4cfef 20 = .ok (.iload_n 3, 1) := by decide +kernel
theorem dJ2_indexOfSupplementary_4cfef_21 : decode cJ2_indexOfSupplementary_4cfef 21 = .ok (.aload_n 0, 1) := by decide +kernel
theorem dJ2_indexOfSupplementary_4cfef_22 : decode cJ2_indexOfSupplementary_4cfef 22 = .ok (.invokestatic 96, 3) := by decide +kernel
theorem dJ2_indexOfSupplementary_4cfef_25 : decode cJ2_indexOfSupplementary_4cfef 25 = .ok (.iload_n 2, 1) := by decide +kernel
theorem dJ2_indexOfSupplementary_4cfef_26 : decode cJ2_indexOfSupplementary_4cfef 26 = .ok (.istore 6, 2) := by decide +kernel
theorem dJ2_indexOfSupplementary_4cfef_28 : decode cJ2_indexOfSupplementary_4cfef 28 = .ok (.iload 6, 2) := by decide +kernel
theorem dJ2_indexOfSupplementary_4cfef_30 : decode cJ2_indexOfSupplementary_4cfef 30 = .ok (.iload_n 3, 1) := by decide +kernel
theorem dJ2_indexOfSupplementary_4cfef_31 : decode cJ2_indexOfSupplementary_4cfef 31 = .ok (.iconst 1, 1) := by decide +kernel
theorem dJ2_indexOfSupplementary_4cfef_32 : decode cJ2_indexOfSupplementary_4cfef 32 = .ok (.isub, 1) := by decide +kernel
theorem dJ2_indexOfSupplementary_4cfef_33 : decode cJ2_indexOfSupplementary_4cfef 33 = .ok (.if_icmp .ge 36, 3) := by decide +kernel
theorem dJ2_indexOfSupplementary_4cfef_36 : decode cJ2_indexOfSupplementary_4cfef 36 = .ok (.aload_n 0, 1) := by decide +kernel
theorem dJ2_indexOfSupplementary_4cfef_37 : decode cJ2_indexOfSupplementary_4cfef 37 = .ok (.iload 6, 2) := by decide +kernel
theorem dJ2_indexOfSupplementary_4cfef_39 : decode cJ2_indexOfSupplementary_4cfef 39 = .ok (.invokestatic 71, 3) := by decide +kernel
theorem dJ2_indexOfSupplementary_4cfef_42 : decode cJ2_indexOfSupplementary_4cfef 42 = .ok (.iload 4, 2) := by decide +kernel
theorem dJ2_indexOfSupplementary_4cfef_44 : decode cJ2_indexOfSupplementary_4cfef 44 = .ok (.if_icmp .ne 19, 3) := by decide +kernel
theorem dJ2_indexOfSupplementary_4cfef_47 : decode cJ2_indexOfSupplementary_4cfef 47 = .ok (.aload_n 0, 1) := by decide +kernel
theorem dJ2_indexOfSupplementary_4cfef_48 : decode cJ2_indexOfSupplementary_4cfef 48 = .ok (.iload 6, 2) := by decide +kernel
theorem dJ2_indexOfSupplementary_4cfef_50 : decode cJ2_indexOfSupplementary_4cfef 50 = .ok (.iconst 1, 1) := by decide +kernel
theorem dJ2_indexOfSupplementary_4cfef_51 : decode cJ2_indexOfSupplementary_4cfef 51 = .ok (.iadd, 1) := by decide +kernel
theorem dJ2_indexOfSupplementary_4cfef_52 : decode cJ2_indexOfSupplementary_4cfef 52 = .ok (.invokestatic 71, 3) := by decide +kernel
theorem dJ2_indexOfSupplementary_4cfef_55 : decode cJ2_indexOfSupplementary_4cfef 55 = .ok (.iload 5, 2) := by decide +kernel
theorem dJ2_indexOfSupplementary_4cfef_57 : decode cJ2_indexOfSupplementary_4cfef 57 = .ok (.if_icmp .ne 6, 3) := by decide +kernel
theorem dJ2_indexOfSupplementary_4cfef_60 : decode cJ2_indexOfSupplementary_4cfef 60 = .ok (.iload 6, 2) := by decide +kernel
theorem dJ2_indexOfSupplementary_4cfef_62 : decode cJ2_indexOfSupplementary_4cfef 62 = .ok (.ireturn, 1) := by decide +kernel
theorem dJ2_indexOfSupplementary_4cfef_63 : decode cJ2_indexOfSupplementary_4cfef 63 = .ok (.iinc 6 1, 3) := by decide +kernel
theorem dJ2_indexOfSupplementary_4cfef_66 : decode cJ2_indexOfSupplementary_4cfef 66 = .ok (.goto (-38), 3) := by decide +kernel
theorem dJ2_indexOfSupplementary_4cfef_69 : decode cJ2_indexOfSupplementary_4cfef 69 = .ok (.iconst (-1), 1) := by decide +kernel
theorem dJ2_indexOfSupplementary_4cfef_70 : decode cJ2_indexOfSupplementary_4cfef 70 = .ok (.ireturn, 1) := by decide +kernel
theorem dJ2_checkBoundsBeginEnd_d044e_0 : decode cJ2_checkBoundsBeginEnd_d044e 0 = .ok (.iload_n 0, 1) := by decide +kernel
theorem dJ2_checkBoundsBeginEnd_d044e_1 : decode cJ2_checkBoundsBeginEnd_d044e 1 = .ok (.iload_n 1, 1) := by decide +kernel
theorem dJ2_checkBoundsBeginEnd_d044e_2 : decode cJ2_checkBoundsBeginEnd_d044e 2 = .ok (.aload_n 2, 1) := by decide +kernel
theorem dJ2_checkBoundsBeginEnd_d044e_3 : decode cJ2_checkBoundsBeginEnd_d044e 3 = .ok (.invokestatic 48, 3) := by decide +kernel
theorem dJ2_checkBoundsBeginEnd_d044e_6 : decode cJ2_checkBoundsBeginEnd_d044e 6 = .ok (.invokestatic 241, 3) := by decide +kernel
theorem dJ2_checkBoundsBeginEnd_d044e_9 : decode cJ2_checkBoundsBeginEnd_d044e 9 = .ok (.return_, 1) := by decide +kernel
theorem dJ3_checkFromToIndex_8c36e_0 : decode cJ3_checkFromToIndex_8c36e 0 = .ok (.iload_n 0, 1) := by decide +kernel
theorem dJ3_checkFromToIndex_8c36e_1 : decode cJ3_checkFromToIndex_8c36e 1 = .ok (.ifCond .lt 13, 3) := by decide +kernel
theorem dJ3_checkFromToIndex_8c36e_4 : decode cJ3_checkFromToIndex_8c36e 4 = .ok (.iload_n 0, 1) := by decide +kernel
theorem dJ3_checkFromToIndex_8c36e_5 : decode cJ3_checkFromToIndex_8c36e 5 = .ok (.iload_n 1, 1) := by decide +kernel
theorem dJ3_checkFromToIndex_8c36e_6 : decode cJ3_checkFromToIndex_8c36e 6 = .ok (.if_icmp .gt 8, 3) := by decide +kernel
theorem dJ3_checkFromToIndex_8c36e_9 : decode cJ3_checkFromToIndex_8c36e 9 = .ok (.iload_n 1, 1) := by decide +kernel
theorem dJ3_checkFromToIndex_8c36e_10 : decode cJ3_checkFromToIndex_8c36e 10 = .ok (.iload_n 2, 1) := by decide +kernel
theorem dJ3_checkFromToIndex_8c36e_11 : decode cJ3_checkFromToIndex_8c36e 11 = .ok (.if_icmp .le 11, 3) := by decide +kernel
theorem dJ3_checkFromToIndex_8c36e_14 : decode cJ3_checkFromToIndex_8c36e 14 = .ok (.aload_n 3, 1) := by decide +kernel
theorem dJ3_checkFromToIndex_8c36e_15 : decode cJ3_checkFromToIndex_8c36e 15 = .ok (.iload_n 0, 1) := by decide +kernel
theorem dJ3_checkFromToIndex_8c36e_16 : decode cJ3_checkFromToIndex_8c36e 16 = .ok (.iload_n 1, 1) := by decide +kernel
theorem dJ3_checkFromToIndex_8c36e_17 : decode cJ3_checkFromToIndex_8c36e 17 = .ok (.iload_n 2, 1) := by decide +kernel
theorem dJ3_checkFromToIndex_8c36e_18 : decode cJ3_checkFromToIndex_8c36e 18 = .ok (.invokestatic 99, 3) := by decide +kernel
theorem dJ3_checkFromToIndex_8c36e_21 : decode cJ3_checkFromToIndex_8c36e 21 = .ok (.athrow, 1) := by decide +kernel
theorem dJ3_checkFromToIndex_8c36e_22 : decode cJ3_checkFromToIndex_8c36e 22 = .ok (.iload_n 0, 1) := by decide +kernel
theorem dJ3_checkFromToIndex_8c36e_23 : decode cJ3_checkFromToIndex_8c36e 23 = .ok (.ireturn, 1) := by decide +kernel
theorem dL_law_0 : decode cL_law 0 = .ok (.new 7, 3) := by decide +kernel
theorem dL_law_3 : decode cL_law 3 = .ok (.dup, 1) := by decide +kernel
theorem dL_law_4 : decode cL_law 4 = .ok (.invokespecial 9, 3) := by decide +kernel
theorem dL_law_7 : decode cL_law 7 = .ok (.astore_n 1, 1) := by decide +kernel
theorem dL_law_8 : decode cL_law 8 = .ok (.new 10, 3) := by decide +kernel
theorem dL_law_11 : decode cL_law 11 = .ok (.dup, 1) := by decide +kernel
theorem dL_law_12 : decode cL_law 12 = .ok (.invokespecial 12, 3) := by decide +kernel
theorem dL_law_15 : decode cL_law 15 = .ok (.astore_n 2, 1) := by decide +kernel
theorem dL_law_16 : decode cL_law 16 = .ok (.iconst 0, 1) := by decide +kernel
theorem dL_law_17 : decode cL_law 17 = .ok (.istore_n 3, 1) := by decide +kernel
theorem dL_law_18 : decode cL_law 18 = .ok (.iload_n 3, 1) := by decide +kernel
theorem dL_law_19 : decode cL_law 19 = .ok (.aload_n 0, 1) := by decide +kernel
theorem dL_law_20 : decode cL_law 20 = .ok (.arraylength, 1) := by decide +kernel
theorem dL_law_21 : decode cL_law 21 = .ok (.bipush 6, 2) := by decide +kernel
theorem dL_law_23 : decode cL_law 23 = .ok (.isub, 1) := by decide +kernel
theorem dL_law_24 : decode cL_law 24 = .ok (.if_icmp .gt 986, 3) := by decide +kernel
theorem dL_law_27 : decode cL_law 27 = .ok (.aload_n 0, 1) := by decide +kernel
theorem dL_law_28 : decode cL_law 28 = .ok (.iload_n 3, 1) := by decide +kernel
theorem dL_law_29 : decode cL_law 29 = .ok (.iaload, 1) := by decide +kernel
theorem dL_law_30 : decode cL_law 30 = .ok (.bipush 31, 2) := by decide +kernel
theorem dL_law_32 : decode cL_law 32 = .ok (.iand, 1) := by decide +kernel
theorem dL_law_33 : decode cL_law 33 = .ok (.tableswitch 971 0 27 #[127, 160, 193, 226, 249, 272, 335, 348, 361, 384, 407, 430, 453, 476, 499, 532, 575, 588, 621, 644, 677, 690, 703, 746, 789, 832, 855, 908], 127) := by decide +kernel
theorem dL_law_160 : decode cL_law 160 = .ok (.aload_n 1, 1) := by decide +kernel
theorem dL_law_161 : decode cL_law 161 = .ok (.aload_n 0, 1) := by decide +kernel
theorem dL_law_162 : decode cL_law 162 = .ok (.iload_n 3, 1) := by decide +kernel
theorem dL_law_163 : decode cL_law 163 = .ok (.iconst 1, 1) := by decide +kernel
theorem dL_law_164 : decode cL_law 164 = .ok (.iadd, 1) := by decide +kernel
theorem dL_law_165 : decode cL_law 165 = .ok (.iaload, 1) := by decide +kernel
theorem dL_law_166 : decode cL_law 166 = .ok (.aload_n 0, 1) := by decide +kernel
theorem dL_law_167 : decode cL_law 167 = .ok (.iload_n 3, 1) := by decide +kernel
theorem dL_law_168 : decode cL_law 168 = .ok (.iconst 2, 1) := by decide +kernel
theorem dL_law_169 : decode cL_law 169 = .ok (.iadd, 1) := by decide +kernel
theorem dL_law_170 : decode cL_law 170 = .ok (.iaload, 1) := by decide +kernel
theorem dL_law_171 : decode cL_law 171 = .ok (.invokevirtual 13, 3) := by decide +kernel
theorem dL_law_174 : decode cL_law 174 = .ok (.aload_n 2, 1) := by decide +kernel
theorem dL_law_175 : decode cL_law 175 = .ok (.aload_n 0, 1) := by decide +kernel
theorem dL_law_176 : decode cL_law 176 = .ok (.iload_n 3, 1) := by decide +kernel
theorem dL_law_177 : decode cL_law 177 = .ok (.iconst 1, 1) := by decide +kernel
theorem dL_law_178 : decode cL_law 178 = .ok (.iadd, 1) := by decide +kernel
theorem dL_law_179 : decode cL_law 179 = .ok (.iaload, 1) := by decide +kernel
theorem dL_law_180 : decode cL_law 180 = .ok (.aload_n 0, 1) := by decide +kernel
theorem dL_law_181 : decode cL_law 181 = .ok (.iload_n 3, 1) := by decide +kernel
theorem dL_law_182 : decode cL_law 182 = .ok (.iconst 2, 1) := by decide +kernel
theorem dL_law_183 : decode cL_law 183 = .ok (.iadd, 1) := by decide +kernel
theorem dL_law_184 : decode cL_law 184 = .ok (.iaload, 1) := by decide +kernel
theorem dL_law_185 : decode cL_law 185 = .ok (.invokevirtual 17, 3) := by decide +kernel
theorem dL_law_188 : decode cL_law 188 = .ok (.if_icmp .eq 816, 3) := by decide +kernel
theorem dL_law_191 : decode cL_law 191 = .ok (.iconst 0, 1) := by decide +kernel
theorem dL_law_192 : decode cL_law 192 = .ok (.ireturn, 1) := by decide +kernel
theorem dL_law_193 : decode cL_law 193 = .ok (.aload_n 1, 1) := by decide +kernel
theorem dL_law_194 : decode cL_law 194 = .ok (.aload_n 0, 1) := by decide +kernel
theorem dL_law_195 : decode cL_law 195 = .ok (.iload_n 3, 1) := by decide +kernel
theorem dL_law_196 : decode cL_law 196 = .ok (.iconst 1, 1) := by decide +kernel
theorem dL_law_197 : decode cL_law 197 = .ok (.iadd, 1) := by decide +kernel
theorem dL_law_198 : decode cL_law 198 = .ok (.iaload, 1) := by decide +kernel
theorem dL_law_199 : decode cL_law 199 = .ok (.aload_n 0, 1) := by decide +kernel
theorem dL_law_200 : decode cL_law 200 = .ok (.iload_n 3, 1) := by decide +kernel
theorem dL_law_201 : decode cL_law 201 = .ok (.iconst 2, 1) := by decide +kernel
theorem dL_law_202 : decode cL_law 202 = .ok (.iadd, 1) := by decide +kernel
theorem dL_law_203 : decode cL_law 203 = .ok (.iaload, 1) := by decide +kernel
theorem dL_law_204 : decode cL_law 204 = .ok (.invokevirtual 18, 3) := by decide +kernel
theorem dL_law_207 : decode cL_law 207 = .ok (.aload_n 2, 1) := by decide +kernel
theorem dL_law_208 : decode cL_law 208 = .ok (.aload_n 0, 1) := by decide +kernel
theorem dL_law_209 : decode cL_law 209 = .ok (.iload_n 3, 1) := by decide +kernel
theorem dL_law_210 : decode cL_law 210 = .ok (.iconst 1, 1) := by decide +kernel
theorem dL_law_211 : decode cL_law 211 = .ok (.iadd, 1) := by decide +kernel
theorem dL_law_212 : decode cL_law 212 = .ok (.iaload, 1) := by decide +kernel
theorem dL_law_213 : decode cL_law 213 = .ok (.aload_n 0, 1) := by decide +kernel
theorem dL_law_214 : decode cL_law 214 = .ok (.iload_n 3, 1) := by decide +kernel
theorem dL_law_215 : decode cL_law 215 = .ok (.iconst 2, 1) := by decide +kernel
theorem dL_law_216 : decode cL_law 216 = .ok (.iadd, 1) := by decide +kernel
theorem dL_law_217 : decode cL_law 217 = .ok (.iaload, 1) := by decide +kernel
theorem dL_law_218 : decode cL_law 218 = .ok (.invokevirtual 21, 3) := by decide +kernel
theorem dL_law_221 : decode cL_law 221 = .ok (.if_icmp .eq 783, 3) := by decide +kernel
theorem dL_law_224 : decode cL_law 224 = .ok (.iconst 0, 1) := by decide +kernel
theorem dL_law_225 : decode cL_law 225 = .ok (.ireturn, 1) := by decide +kernel
theorem dL_law_226 : decode cL_law 226 = .ok (.aload_n 1, 1) := by decide +kernel
theorem dL_law_227 : decode cL_law 227 = .ok (.aload_n 0, 1) := by decide +kernel
theorem dL_law_228 : decode cL_law 228 = .ok (.iload_n 3, 1) := by decide +kernel
theorem dL_law_229 : decode cL_law 229 = .ok (.iconst 1, 1) := by decide +kernel
theorem dL_law_230 : decode cL_law 230 = .ok (.iadd, 1) := by decide +kernel
theorem dL_law_231 : decode cL_law 231 = .ok (.iaload, 1) := by decide +kernel
theorem dL_law_232 : decode cL_law 232 = .ok (.aload_n 0, 1) := by decide +kernel
theorem dL_law_233 : decode cL_law 233 = .ok (.iload_n 3, 1) := by decide +kernel
theorem dL_law_234 : decode cL_law 234 = .ok (.iconst 2, 1) := by decide +kernel
theorem dL_law_235 : decode cL_law 235 = .ok (.iadd, 1) := by decide +kernel
theorem dL_law_236 : decode cL_law 236 = .ok (.iaload, 1) := by decide +kernel
theorem dL_law_237 : decode cL_law 237 = .ok (.invokevirtual 22, 3) := by decide +kernel
theorem dL_law_240 : decode cL_law 240 = .ok (.aload_n 2, 1) := by decide +kernel
theorem dL_law_241 : decode cL_law 241 = .ok (.aload_n 0, 1) := by decide +kernel
theorem dL_law_242 : decode cL_law 242 = .ok (.iload_n 3, 1) := by decide +kernel
theorem dL_law_243 : decode cL_law 243 = .ok (.iconst 1, 1) := by decide +kernel
theorem dL_law_244 : decode cL_law 244 = .ok (.iadd, 1) := by decide +kernel
theorem dL_law_245 : decode cL_law 245 = .ok (.iaload, 1) := by decide +kernel
theorem dL_law_246 : decode cL_law 246 = .ok (.aload_n 0, 1) := by decide +kernel
theorem dL_law_247 : decode cL_law 247 = .ok (.iload_n 3, 1) := by decide +kernel
theorem dL_law_248 : decode cL_law 248 = .ok (.iconst 2, 1) := by decide +kernel
theorem dL_law_249 : decode cL_law 249 = .ok (.iadd, 1) := by decide +kernel
theorem dL_law_250 : decode cL_law 250 = .ok (.iaload, 1) := by decide +kernel
theorem dL_law_251 : decode cL_law 251 = .ok (.invokevirtual 25, 3) := by decide +kernel
theorem dL_law_254 : decode cL_law 254 = .ok (.if_icmp .eq 750, 3) := by decide +kernel
theorem dL_law_257 : decode cL_law 257 = .ok (.iconst 0, 1) := by decide +kernel
theorem dL_law_258 : decode cL_law 258 = .ok (.ireturn, 1) := by decide +kernel
theorem dL_law_259 : decode cL_law 259 = .ok (.aload_n 1, 1) := by decide +kernel
theorem dL_law_260 : decode cL_law 260 = .ok (.aload_n 0, 1) := by decide +kernel
theorem dL_law_261 : decode cL_law 261 = .ok (.iload_n 3, 1) := by decide +kernel
theorem dL_law_262 : decode cL_law 262 = .ok (.iconst 1, 1) := by decide +kernel
theorem dL_law_263 : decode cL_law 263 = .ok (.iadd, 1) := by decide +kernel
theorem dL_law_264 : decode cL_law 264 = .ok (.iaload, 1) := by decide +kernel
theorem dL_law_265 : decode cL_law 265 = .ok (.invokevirtual 26, 3) := by decide +kernel
theorem dL_law_268 : decode cL_law 268 = .ok (.aload_n 2, 1) := by decide +kernel
theorem dL_law_269 : decode cL_law 269 = .ok (.aload_n 0, 1) := by decide +kernel
theorem dL_law_270 : decode cL_law 270 = .ok (.iload_n 3, 1) := by decide +kernel
theorem dL_law_271 : decode cL_law 271 = .ok (.iconst 1, 1) := by decide +kernel
theorem dL_law_272 : decode cL_law 272 = .ok (.iadd, 1) := by decide +kernel
theorem dL_law_273 : decode cL_law 273 = .ok (.iaload, 1) := by decide +kernel
theorem dL_law_274 : decode cL_law 274 = .ok (.invokevirtual 30, 3) := by decide +kernel
theorem dL_law_277 : decode cL_law 277 = .ok (.if_icmp .eq 727, 3) := by decide +kernel
theorem dL_law_280 : decode cL_law 280 = .ok (.iconst 0, 1) := by decide +kernel
theorem dL_law_281 : decode cL_law 281 = .ok (.ireturn, 1) := by decide +kernel
theorem dL_law_282 : decode cL_law 282 = .ok (.aload_n 1, 1) := by decide +kernel
theorem dL_law_283 : decode cL_law 283 = .ok (.aload_n 0, 1) := by decide +kernel
theorem dL_law_284 : decode cL_law 284 = .ok (.iload_n 3, 1) := by decide +kernel
theorem dL_law_285 : decode cL_law 285 = .ok (.iconst 1, 1) := by decide +kernel
theorem dL_law_286 : decode cL_law 286 = .ok (.iadd, 1) := by decide +kernel
theorem dL_law_287 : decode cL_law 287 = .ok (.iaload, 1) := by decide +kernel
theorem dL_law_288 : decode cL_law 288 = .ok (.invokevirtual 31, 3) := by decide +kernel
theorem dL_law_291 : decode cL_law 291 = .ok (.aload_n 2, 1) := by decide +kernel
theorem dL_law_292 : decode cL_law 292 = .ok (.aload_n 0, 1) := by decide +kernel
theorem dL_law_293 : decode cL_law 293 = .ok (.iload_n 3, 1) := by decide +kernel
theorem dL_law_294 : decode cL_law 294 = .ok (.iconst 1, 1) := by decide +kernel
theorem dL_law_295 : decode cL_law 295 = .ok (.iadd, 1) := by decide +kernel
theorem dL_law_296 : decode cL_law 296 = .ok (.iaload, 1) := by decide +kernel
theorem dL_law_297 : decode cL_law 297 = .ok (.invokevirtual 34, 3) := by decide +kernel
theorem dL_law_300 : decode cL_law 300 = .ok (.if_icmp .eq 704, 3) := by decide +kernel
theorem dL_law_303 : decode cL_law 303 = .ok (.iconst 0, 1) := by decide +kernel
theorem dL_law_304 : decode cL_law 304 = .ok (.ireturn, 1) := by decide +kernel
theorem dL_law_305 : decode cL_law 305 = .ok (.aload_n 1, 1) := by decide +kernel
theorem dL_law_306 : decode cL_law 306 = .ok (.aload_n 0, 1) := by decide +kernel
theorem dL_law_307 : decode cL_law 307 = .ok (.iload_n 3, 1) := by decide +kernel
theorem dL_law_308 : decode cL_law 308 = .ok (.iconst 1, 1) := by decide +kernel
theorem dL_law_309 : decode cL_law 309 = .ok (.iadd, 1) := by decide +kernel
theorem dL_law_310 : decode cL_law 310 = .ok (.iaload, 1) := by decide +kernel
theorem dL_law_311 : decode cL_law 311 = .ok (.i2l, 1) := by decide +kernel
theorem dL_law_312 : decode cL_law 312 = .ok (.bipush 32, 2) := by decide +kernel
theorem dL_law_314 : decode cL_law 314 = .ok (.lshl, 1) := by decide +kernel
theorem dL_law_315 : decode cL_law 315 = .ok (.aload_n 0, 1) := by decide +kernel
theorem dL_law_316 : decode cL_law 316 = .ok (.iload_n 3, 1) := by decide +kernel
theorem dL_law_317 : decode cL_law 317 = .ok (.iconst 2, 1) := by decide +kernel
theorem dL_law_318 : decode cL_law 318 = .ok (.iadd, 1) := by decide +kernel
theorem dL_law_319 : decode cL_law 319 = .ok (.iaload, 1) := by decide +kernel
theorem dL_law_320 : decode cL_law 320 = .ok (.i2l, 1) := by decide +kernel
theorem dL_law_321 : decode cL_law 321 = .ok (.ldc2_w 35, 3) := by decide +kernel
theorem dL_law_324 : decode cL_law 324 = .ok (.land, 1) := by decide +kernel
theorem dL_law_325 : decode cL_law 325 = .ok (.lor, 1) := by decide +kernel
theorem dL_law_326 : decode cL_law 326 = .ok (.aload_n 0, 1) := by decide +kernel
theorem dL_law_327 : decode cL_law 327 = .ok (.iload_n 3, 1) := by decide +kernel
theorem dL_law_328 : decode cL_law 328 = .ok (.iconst 3, 1) := by decide +kernel
theorem dL_law_329 : decode cL_law 329 = .ok (.iadd, 1) := by decide +kernel
theorem dL_law_330 : decode cL_law 330 = .ok (.iaload, 1) := by decide +kernel
theorem dL_law_331 : decode cL_law 331 = .ok (.invokevirtual 37, 3) := by decide +kernel
theorem dL_law_334 : decode cL_law 334 = .ok (.aload_n 2, 1) := by decide +kernel
theorem dL_law_335 : decode cL_law 335 = .ok (.aload_n 0, 1) := by decide +kernel
theorem dL_law_336 : decode cL_law 336 = .ok (.iload_n 3, 1) := by decide +kernel
theorem dL_law_337 : decode cL_law 337 = .ok (.iconst 1, 1) := by decide +kernel
theorem dL_law_338 : decode cL_law 338 = .ok (.iadd, 1) := by decide +kernel
theorem dL_law_339 : decode cL_law 339 = .ok (.iaload, 1) := by decide +kernel
theorem dL_law_340 : decode cL_law 340 = .ok (.i2l, 1) := by decide +kernel
theorem dL_law_341 : decode cL_law 341 = .ok (.bipush 32, 2) := by decide +kernel
theorem dL_law_343 : decode cL_law 343 = .ok (.lshl, 1) := by decide +kernel
theorem dL_law_344 : decode cL_law 344 = .ok (.aload_n 0, 1) := by decide +kernel
theorem dL_law_345 : decode cL_law 345 = .ok (.iload_n 3, 1) := by decide +kernel
theorem dL_law_346 : decode cL_law 346 = .ok (.iconst 2, 1) := by decide +kernel
theorem dL_law_347 : decode cL_law 347 = .ok (.iadd, 1) := by decide +kernel
theorem dL_law_348 : decode cL_law 348 = .ok (.iaload, 1) := by decide +kernel
theorem dL_law_349 : decode cL_law 349 = .ok (.i2l, 1) := by decide +kernel
theorem dL_law_350 : decode cL_law 350 = .ok (.ldc2_w 35, 3) := by decide +kernel
theorem dL_law_353 : decode cL_law 353 = .ok (.land, 1) := by decide +kernel
theorem dL_law_354 : decode cL_law 354 = .ok (.lor, 1) := by decide +kernel
theorem dL_law_355 : decode cL_law 355 = .ok (.aload_n 0, 1) := by decide +kernel
theorem dL_law_356 : decode cL_law 356 = .ok (.iload_n 3, 1) := by decide +kernel
theorem dL_law_357 : decode cL_law 357 = .ok (.iconst 3, 1) := by decide +kernel
theorem dL_law_358 : decode cL_law 358 = .ok (.iadd, 1) := by decide +kernel
theorem dL_law_359 : decode cL_law 359 = .ok (.iaload, 1) := by decide +kernel
theorem dL_law_360 : decode cL_law 360 = .ok (.invokevirtual 41, 3) := by decide +kernel
theorem dL_law_363 : decode cL_law 363 = .ok (.if_icmp .eq 641, 3) := by decide +kernel
theorem dL_law_366 : decode cL_law 366 = .ok (.iconst 0, 1) := by decide +kernel
theorem dL_law_367 : decode cL_law 367 = .ok (.ireturn, 1) := by decide +kernel
theorem dL_law_368 : decode cL_law 368 = .ok (.aload_n 1, 1) := by decide +kernel
theorem dL_law_369 : decode cL_law 369 = .ok (.invokevirtual 42, 3) := by decide +kernel
theorem dL_law_372 : decode cL_law 372 = .ok (.aload_n 2, 1) := by decide +kernel
theorem dL_law_373 : decode cL_law 373 = .ok (.invokevirtual 46, 3) := by decide +kernel
theorem dL_law_376 : decode cL_law 376 = .ok (.if_icmp .eq 628, 3) := by decide +kernel
theorem dL_law_379 : decode cL_law 379 = .ok (.iconst 0, 1) := by decide +kernel
theorem dL_law_380 : decode cL_law 380 = .ok (.ireturn, 1) := by decide +kernel
theorem dL_law_381 : decode cL_law 381 = .ok (.aload_n 1, 1) := by decide +kernel
theorem dL_law_382 : decode cL_law 382 = .ok (.invokevirtual 47, 3) := by decide +kernel
theorem dL_law_385 : decode cL_law 385 = .ok (.aload_n 2, 1) := by decide +kernel
theorem dL_law_386 : decode cL_law 386 = .ok (.invokevirtual 50, 3) := by decide +kernel
theorem dL_law_389 : decode cL_law 389 = .ok (.if_icmp .eq 615, 3) := by decide +kernel
theorem dL_law_392 : decode cL_law 392 = .ok (.iconst 0, 1) := by decide +kernel
theorem dL_law_393 : decode cL_law 393 = .ok (.ireturn, 1) := by decide +kernel
theorem dL_law_394 : decode cL_law 394 = .ok (.aload_n 1, 1) := by decide +kernel
theorem dL_law_395 : decode cL_law 395 = .ok (.aload_n 0, 1) := by decide +kernel
theorem dL_law_396 : decode cL_law 396 = .ok (.iload_n 3, 1) := by decide +kernel
theorem dL_law_397 : decode cL_law 397 = .ok (.iconst 1, 1) := by decide +kernel
theorem dL_law_398 : decode cL_law 398 = .ok (.iadd, 1) := by decide +kernel
theorem dL_law_399 : decode cL_law 399 = .ok (.iaload, 1) := by decide +kernel
theorem dL_law_400 : decode cL_law 400 = .ok (.invokevirtual 51, 3) := by decide +kernel
theorem dL_law_403 : decode cL_law 403 = .ok (.aload_n 2, 1) := by decide +kernel
theorem dL_law_404 : decode cL_law 404 = .ok (.aload_n 0, 1) := by decide +kernel
theorem dL_law_405 : decode cL_law 405 = .ok (.iload_n 3, 1) := by decide +kernel
theorem dL_law_406 : decode cL_law 406 = .ok (.iconst 1, 1) := by decide +kernel
theorem dL_law_407 : decode cL_law 407 = .ok (.iadd, 1) := by decide +kernel
theorem dL_law_408 : decode cL_law 408 = .ok (.iaload, 1) := by decide +kernel
theorem dL_law_409 : decode cL_law 409 = .ok (.invokevirtual 54, 3) := by decide +kernel
theorem dL_law_412 : decode cL_law 412 = .ok (.if_icmp .eq 592, 3) := by decide +kernel
theorem dL_law_415 : decode cL_law 415 = .ok (.iconst 0, 1) := by decide +kernel
theorem dL_law_416 : decode cL_law 416 = .ok (.ireturn, 1) := by decide +kernel
theorem dL_law_417 : decode cL_law 417 = .ok (.aload_n 1, 1) := by decide +kernel
theorem dL_law_418 : decode cL_law 418 = .ok (.aload_n 0, 1) := by decide +kernel
theorem dL_law_419 : decode cL_law 419 = .ok (.iload_n 3, 1) := by decide +kernel
theorem dL_law_420 : decode cL_law 420 = .ok (.iconst 1, 1) := by decide +kernel
theorem dL_law_421 : decode cL_law 421 = .ok (.iadd, 1) := by decide +kernel
theorem dL_law_422 : decode cL_law 422 = .ok (.iaload, 1) := by decide +kernel
theorem dL_law_423 : decode cL_law 423 = .ok (.invokevirtual 55, 3) := by decide +kernel
theorem dL_law_426 : decode cL_law 426 = .ok (.aload_n 2, 1) := by decide +kernel
theorem dL_law_427 : decode cL_law 427 = .ok (.aload_n 0, 1) := by decide +kernel
theorem dL_law_428 : decode cL_law 428 = .ok (.iload_n 3, 1) := by decide +kernel
theorem dL_law_429 : decode cL_law 429 = .ok (.iconst 1, 1) := by decide +kernel
theorem dL_law_430 : decode cL_law 430 = .ok (.iadd, 1) := by decide +kernel
theorem dL_law_431 : decode cL_law 431 = .ok (.iaload, 1) := by decide +kernel
theorem dL_law_432 : decode cL_law 432 = .ok (.invokevirtual 58, 3) := by decide +kernel
theorem dL_law_435 : decode cL_law 435 = .ok (.if_icmp .eq 569, 3) := by decide +kernel
theorem dL_law_438 : decode cL_law 438 = .ok (.iconst 0, 1) := by decide +kernel
theorem dL_law_439 : decode cL_law 439 = .ok (.ireturn, 1) := by decide +kernel
theorem dL_law_440 : decode cL_law 440 = .ok (.aload_n 1, 1) := by decide +kernel
theorem dL_law_441 : decode cL_law 441 = .ok (.aload_n 0, 1) := by decide +kernel
theorem dL_law_442 : decode cL_law 442 = .ok (.iload_n 3, 1) := by decide +kernel
theorem dL_law_443 : decode cL_law 443 = .ok (.iconst 1, 1) := by decide +kernel
theorem dL_law_444 : decode cL_law 444 = .ok (.iadd, 1) := by decide +kernel
theorem dL_law_445 : decode cL_law 445 = .ok (.iaload, 1) := by decide +kernel
theorem dL_law_446 : decode cL_law 446 = .ok (.invokevirtual 59, 3) := by decide +kernel
theorem dL_law_449 : decode cL_law 449 = .ok (.aload_n 2, 1) := by decide +kernel
theorem dL_law_450 : decode cL_law 450 = .ok (.aload_n 0, 1) := by decide +kernel
theorem dL_law_451 : decode cL_law 451 = .ok (.iload_n 3, 1) := by decide +kernel
theorem dL_law_452 : decode cL_law 452 = .ok (.iconst 1, 1) := by decide +kernel
theorem dL_law_453 : decode cL_law 453 = .ok (.iadd, 1) := by decide +kernel
theorem dL_law_454 : decode cL_law 454 = .ok (.iaload, 1) := by decide +kernel
theorem dL_law_455 : decode cL_law 455 = .ok (.invokevirtual 62, 3) := by decide +kernel
theorem dL_law_458 : decode cL_law 458 = .ok (.if_icmp .eq 546, 3) := by decide +kernel
theorem dL_law_461 : decode cL_law 461 = .ok (.iconst 0, 1) := by decide +kernel
theorem dL_law_462 : decode cL_law 462 = .ok (.ireturn, 1) := by decide +kernel
theorem dL_law_463 : decode cL_law 463 = .ok (.aload_n 1, 1) := by decide +kernel
theorem dL_law_464 : decode cL_law 464 = .ok (.aload_n 0, 1) := by decide +kernel
theorem dL_law_465 : decode cL_law 465 = .ok (.iload_n 3, 1) := by decide +kernel
theorem dL_law_466 : decode cL_law 466 = .ok (.iconst 1, 1) := by decide +kernel
theorem dL_law_467 : decode cL_law 467 = .ok (.iadd, 1) := by decide +kernel
theorem dL_law_468 : decode cL_law 468 = .ok (.iaload, 1) := by decide +kernel
theorem dL_law_469 : decode cL_law 469 = .ok (.invokevirtual 63, 3) := by decide +kernel
theorem dL_law_472 : decode cL_law 472 = .ok (.aload_n 2, 1) := by decide +kernel
theorem dL_law_473 : decode cL_law 473 = .ok (.aload_n 0, 1) := by decide +kernel
theorem dL_law_474 : decode cL_law 474 = .ok (.iload_n 3, 1) := by decide +kernel
theorem dL_law_475 : decode cL_law 475 = .ok (.iconst 1, 1) := by decide +kernel
theorem dL_law_476 : decode cL_law 476 = .ok (.iadd, 1) := by decide +kernel
theorem dL_law_477 : decode cL_law 477 = .ok (.iaload, 1) := by decide +kernel
theorem dL_law_478 : decode cL_law 478 = .ok (.invokevirtual 66, 3) := by decide +kernel
theorem dL_law_481 : decode cL_law 481 = .ok (.if_icmp .eq 523, 3) := by decide +kernel
theorem dL_law_484 : decode cL_law 484 = .ok (.iconst 0, 1) := by decide +kernel
theorem dL_law_485 : decode cL_law 485 = .ok (.ireturn, 1) := by decide +kernel
theorem dL_law_486 : decode cL_law 486 = .ok (.aload_n 1, 1) := by decide +kernel
theorem dL_law_487 : decode cL_law 487 = .ok (.aload_n 0, 1) := by decide +kernel
theorem dL_law_488 : decode cL_law 488 = .ok (.iload_n 3, 1) := by decide +kernel
theorem dL_law_489 : decode cL_law 489 = .ok (.iconst 1, 1) := by decide +kernel
theorem dL_law_490 : decode cL_law 490 = .ok (.iadd, 1) := by decide +kernel
theorem dL_law_491 : decode cL_law 491 = .ok (.iaload, 1) := by decide +kernel
theorem dL_law_492 : decode cL_law 492 = .ok (.invokevirtual 67, 3) := by decide +kernel
theorem dL_law_495 : decode cL_law 495 = .ok (.aload_n 2, 1) := by decide +kernel
theorem dL_law_496 : decode cL_law 496 = .ok (.aload_n 0, 1) := by decide +kernel
theorem dL_law_497 : decode cL_law 497 = .ok (.iload_n 3, 1) := by decide +kernel
theorem dL_law_498 : decode cL_law 498 = .ok (.iconst 1, 1) := by decide +kernel
theorem dL_law_499 : decode cL_law 499 = .ok (.iadd, 1) := by decide +kernel
theorem dL_law_500 : decode cL_law 500 = .ok (.iaload, 1) := by decide +kernel
theorem dL_law_501 : decode cL_law 501 = .ok (.invokevirtual 70, 3) := by decide +kernel
theorem dL_law_504 : decode cL_law 504 = .ok (.if_icmp .eq 500, 3) := by decide +kernel
theorem dL_law_507 : decode cL_law 507 = .ok (.iconst 0, 1) := by decide +kernel
theorem dL_law_508 : decode cL_law 508 = .ok (.ireturn, 1) := by decide +kernel
theorem dL_law_509 : decode cL_law 509 = .ok (.aload_n 1, 1) := by decide +kernel
theorem dL_law_510 : decode cL_law 510 = .ok (.aload_n 0, 1) := by decide +kernel
theorem dL_law_511 : decode cL_law 511 = .ok (.iload_n 3, 1) := by decide +kernel
theorem dL_law_512 : decode cL_law 512 = .ok (.iconst 1, 1) := by decide +kernel
theorem dL_law_513 : decode cL_law 513 = .ok (.iadd, 1) := by decide +kernel
theorem dL_law_514 : decode cL_law 514 = .ok (.iaload, 1) := by decide +kernel
theorem dL_law_515 : decode cL_law 515 = .ok (.invokevirtual 71, 3) := by decide +kernel
theorem dL_law_518 : decode cL_law 518 = .ok (.aload_n 2, 1) := by decide +kernel
theorem dL_law_519 : decode cL_law 519 = .ok (.aload_n 0, 1) := by decide +kernel
theorem dL_law_520 : decode cL_law 520 = .ok (.iload_n 3, 1) := by decide +kernel
theorem dL_law_521 : decode cL_law 521 = .ok (.iconst 1, 1) := by decide +kernel
theorem dL_law_522 : decode cL_law 522 = .ok (.iadd, 1) := by decide +kernel
theorem dL_law_523 : decode cL_law 523 = .ok (.iaload, 1) := by decide +kernel
theorem dL_law_524 : decode cL_law 524 = .ok (.invokevirtual 74, 3) := by decide +kernel
theorem dL_law_527 : decode cL_law 527 = .ok (.if_icmp .eq 477, 3) := by decide +kernel
theorem dL_law_530 : decode cL_law 530 = .ok (.iconst 0, 1) := by decide +kernel
theorem dL_law_531 : decode cL_law 531 = .ok (.ireturn, 1) := by decide +kernel
theorem dL_law_532 : decode cL_law 532 = .ok (.aload_n 1, 1) := by decide +kernel
theorem dL_law_533 : decode cL_law 533 = .ok (.aload_n 0, 1) := by decide +kernel
theorem dL_law_534 : decode cL_law 534 = .ok (.iload_n 3, 1) := by decide +kernel
theorem dL_law_535 : decode cL_law 535 = .ok (.iconst 1, 1) := by decide +kernel
theorem dL_law_536 : decode cL_law 536 = .ok (.iadd, 1) := by decide +kernel
theorem dL_law_537 : decode cL_law 537 = .ok (.iaload, 1) := by decide +kernel
theorem dL_law_538 : decode cL_law 538 = .ok (.aload_n 0, 1) := by decide +kernel
theorem dL_law_539 : decode cL_law 539 = .ok (.iload_n 3, 1) := by decide +kernel
theorem dL_law_540 : decode cL_law 540 = .ok (.iconst 2, 1) := by decide +kernel
theorem dL_law_541 : decode cL_law 541 = .ok (.iadd, 1) := by decide +kernel
theorem dL_law_542 : decode cL_law 542 = .ok (.iaload, 1) := by decide +kernel
theorem dL_law_543 : decode cL_law 543 = .ok (.invokevirtual 75, 3) := by decide +kernel
theorem dL_law_546 : decode cL_law 546 = .ok (.aload_n 2, 1) := by decide +kernel
theorem dL_law_547 : decode cL_law 547 = .ok (.aload_n 0, 1) := by decide +kernel
theorem dL_law_548 : decode cL_law 548 = .ok (.iload_n 3, 1) := by decide +kernel
theorem dL_law_549 : decode cL_law 549 = .ok (.iconst 1, 1) := by decide +kernel
theorem dL_law_550 : decode cL_law 550 = .ok (.iadd, 1) := by decide +kernel
theorem dL_law_551 : decode cL_law 551 = .ok (.iaload, 1) := by decide +kernel
theorem dL_law_552 : decode cL_law 552 = .ok (.aload_n 0, 1) := by decide +kernel
theorem dL_law_553 : decode cL_law 553 = .ok (.iload_n 3, 1) := by decide +kernel
theorem dL_law_554 : decode cL_law 554 = .ok (.iconst 2, 1) := by decide +kernel
theorem dL_law_555 : decode cL_law 555 = .ok (.iadd, 1) := by decide +kernel
theorem dL_law_556 : decode cL_law 556 = .ok (.iaload, 1) := by decide +kernel
theorem dL_law_557 : decode cL_law 557 = .ok (.invokevirtual 78, 3) := by decide +kernel
theorem dL_law_560 : decode cL_law 560 = .ok (.if_icmp .eq 444, 3) := by decide +kernel
theorem dL_law_563 : decode cL_law 563 = .ok (.iconst 0, 1) := by decide +kernel
theorem dL_law_564 : decode cL_law 564 = .ok (.ireturn, 1) := by decide +kernel
theorem dL_law_565 : decode cL_law 565 = .ok (.aload_n 1, 1) := by decide +kernel
theorem dL_law_566 : decode cL_law 566 = .ok (.aload_n 0, 1) := by decide +kernel
theorem dL_law_567 : decode cL_law 567 = .ok (.iload_n 3, 1) := by decide +kernel
theorem dL_law_568 : decode cL_law 568 = .ok (.iconst 1, 1) := by decide +kernel
theorem dL_law_569 : decode cL_law 569 = .ok (.iadd, 1) := by decide +kernel
theorem dL_law_570 : decode cL_law 570 = .ok (.iaload, 1) := by decide +kernel
theorem dL_law_571 : decode cL_law 571 = .ok (.aload_n 0, 1) := by decide +kernel
theorem dL_law_572 : decode cL_law 572 = .ok (.iload_n 3, 1) := by decide +kernel
theorem dL_law_573 : decode cL_law 573 = .ok (.iconst 2, 1) := by decide +kernel
theorem dL_law_574 : decode cL_law 574 = .ok (.iadd, 1) := by decide +kernel
theorem dL_law_575 : decode cL_law 575 = .ok (.iaload, 1) := by decide +kernel
theorem dL_law_576 : decode cL_law 576 = .ok (.aload_n 0, 1) := by decide +kernel
theorem dL_law_577 : decode cL_law 577 = .ok (.iload_n 3, 1) := by decide +kernel
theorem dL_law_578 : decode cL_law 578 = .ok (.iconst 3, 1) := by decide +kernel
theorem dL_law_579 : decode cL_law 579 = .ok (.iadd, 1) := by decide +kernel
theorem dL_law_580 : decode cL_law 580 = .ok (.iaload, 1) := by decide +kernel
theorem dL_law_581 : decode cL_law 581 = .ok (.invokevirtual 79, 3) := by decide +kernel
theorem dL_law_584 : decode cL_law 584 = .ok (.aload_n 2, 1) := by decide +kernel
theorem dL_law_585 : decode cL_law 585 = .ok (.aload_n 0, 1) := by decide +kernel
theorem dL_law_586 : decode cL_law 586 = .ok (.iload_n 3, 1) := by decide +kernel
theorem dL_law_587 : decode cL_law 587 = .ok (.iconst 1, 1) := by decide +kernel
theorem dL_law_588 : decode cL_law 588 = .ok (.iadd, 1) := by decide +kernel
theorem dL_law_589 : decode cL_law 589 = .ok (.iaload, 1) := by decide +kernel
theorem dL_law_590 : decode cL_law 590 = .ok (.aload_n 0, 1) := by decide +kernel
theorem dL_law_591 : decode cL_law 591 = .ok (.iload_n 3, 1) := by decide +kernel
theorem dL_law_592 : decode cL_law 592 = .ok (.iconst 2, 1) := by decide +kernel
theorem dL_law_593 : decode cL_law 593 = .ok (.iadd, 1) := by decide +kernel
theorem dL_law_594 : decode cL_law 594 = .ok (.iaload, 1) := by decide +kernel
theorem dL_law_595 : decode cL_law 595 = .ok (.aload_n 0, 1) := by decide +kernel
theorem dL_law_596 : decode cL_law 596 = .ok (.iload_n 3, 1) := by decide +kernel
theorem dL_law_597 : decode cL_law 597 = .ok (.iconst 3, 1) := by decide +kernel
theorem dL_law_598 : decode cL_law 598 = .ok (.iadd, 1) := by decide +kernel
theorem dL_law_599 : decode cL_law 599 = .ok (.iaload, 1) := by decide +kernel
theorem dL_law_600 : decode cL_law 600 = .ok (.invokevirtual 83, 3) := by decide +kernel
theorem dL_law_603 : decode cL_law 603 = .ok (.if_icmp .eq 401, 3) := by decide +kernel
theorem dL_law_606 : decode cL_law 606 = .ok (.iconst 0, 1) := by decide +kernel
theorem dL_law_607 : decode cL_law 607 = .ok (.ireturn, 1) := by decide +kernel
theorem dL_law_608 : decode cL_law 608 = .ok (.aload_n 1, 1) := by decide +kernel
theorem dL_law_609 : decode cL_law 609 = .ok (.invokevirtual 84, 3) := by decide +kernel
theorem dL_law_612 : decode cL_law 612 = .ok (.aload_n 2, 1) := by decide +kernel
theorem dL_law_613 : decode cL_law 613 = .ok (.invokevirtual 87, 3) := by decide +kernel
theorem dL_law_616 : decode cL_law 616 = .ok (.if_icmp .eq 388, 3) := by decide +kernel
theorem dL_law_619 : decode cL_law 619 = .ok (.iconst 0, 1) := by decide +kernel
theorem dL_law_620 : decode cL_law 620 = .ok (.ireturn, 1) := by decide +kernel
theorem dL_law_621 : decode cL_law 621 = .ok (.aload_n 1, 1) := by decide +kernel
theorem dL_law_622 : decode cL_law 622 = .ok (.aload_n 0, 1) := by decide +kernel
theorem dL_law_623 : decode cL_law 623 = .ok (.iload_n 3, 1) := by decide +kernel
theorem dL_law_624 : decode cL_law 624 = .ok (.iconst 1, 1) := by decide +kernel
theorem dL_law_625 : decode cL_law 625 = .ok (.iadd, 1) := by decide +kernel
theorem dL_law_626 : decode cL_law 626 = .ok (.iaload, 1) := by decide +kernel
theorem dL_law_627 : decode cL_law 627 = .ok (.aload_n 0, 1) := by decide +kernel
theorem dL_law_628 : decode cL_law 628 = .ok (.iload_n 3, 1) := by decide +kernel
theorem dL_law_629 : decode cL_law 629 = .ok (.iconst 2, 1) := by decide +kernel
theorem dL_law_630 : decode cL_law 630 = .ok (.iadd, 1) := by decide +kernel
theorem dL_law_631 : decode cL_law 631 = .ok (.iaload, 1) := by decide +kernel
theorem dL_law_632 : decode cL_law 632 = .ok (.invokevirtual 88, 3) := by decide +kernel
theorem dL_law_635 : decode cL_law 635 = .ok (.aload_n 2, 1) := by decide +kernel
theorem dL_law_636 : decode cL_law 636 = .ok (.aload_n 0, 1) := by decide +kernel
theorem dL_law_637 : decode cL_law 637 = .ok (.iload_n 3, 1) := by decide +kernel
theorem dL_law_638 : decode cL_law 638 = .ok (.iconst 1, 1) := by decide +kernel
theorem dL_law_639 : decode cL_law 639 = .ok (.iadd, 1) := by decide +kernel
theorem dL_law_640 : decode cL_law 640 = .ok (.iaload, 1) := by decide +kernel
theorem dL_law_641 : decode cL_law 641 = .ok (.aload_n 0, 1) := by decide +kernel
theorem dL_law_642 : decode cL_law 642 = .ok (.iload_n 3, 1) := by decide +kernel
theorem dL_law_643 : decode cL_law 643 = .ok (.iconst 2, 1) := by decide +kernel
theorem dL_law_644 : decode cL_law 644 = .ok (.iadd, 1) := by decide +kernel
theorem dL_law_645 : decode cL_law 645 = .ok (.iaload, 1) := by decide +kernel
theorem dL_law_646 : decode cL_law 646 = .ok (.invokevirtual 91, 3) := by decide +kernel
theorem dL_law_649 : decode cL_law 649 = .ok (.if_icmp .eq 355, 3) := by decide +kernel
theorem dL_law_652 : decode cL_law 652 = .ok (.iconst 0, 1) := by decide +kernel
theorem dL_law_653 : decode cL_law 653 = .ok (.ireturn, 1) := by decide +kernel
theorem dL_law_654 : decode cL_law 654 = .ok (.aload_n 1, 1) := by decide +kernel
theorem dL_law_655 : decode cL_law 655 = .ok (.aload_n 0, 1) := by decide +kernel
theorem dL_law_656 : decode cL_law 656 = .ok (.iload_n 3, 1) := by decide +kernel
theorem dL_law_657 : decode cL_law 657 = .ok (.iconst 1, 1) := by decide +kernel
theorem dL_law_658 : decode cL_law 658 = .ok (.iadd, 1) := by decide +kernel
theorem dL_law_659 : decode cL_law 659 = .ok (.iaload, 1) := by decide +kernel
theorem dL_law_660 : decode cL_law 660 = .ok (.invokevirtual 92, 3) := by decide +kernel
theorem dL_law_663 : decode cL_law 663 = .ok (.aload_n 2, 1) := by decide +kernel
theorem dL_law_664 : decode cL_law 664 = .ok (.aload_n 0, 1) := by decide +kernel
theorem dL_law_665 : decode cL_law 665 = .ok (.iload_n 3, 1) := by decide +kernel
theorem dL_law_666 : decode cL_law 666 = .ok (.iconst 1, 1) := by decide +kernel
theorem dL_law_667 : decode cL_law 667 = .ok (.iadd, 1) := by decide +kernel
theorem dL_law_668 : decode cL_law 668 = .ok (.iaload, 1) := by decide +kernel
theorem dL_law_669 : decode cL_law 669 = .ok (.invokevirtual 95, 3) := by decide +kernel
theorem dL_law_672 : decode cL_law 672 = .ok (.if_icmp .eq 332, 3) := by decide +kernel
theorem dL_law_675 : decode cL_law 675 = .ok (.iconst 0, 1) := by decide +kernel
theorem dL_law_676 : decode cL_law 676 = .ok (.ireturn, 1) := by decide +kernel
theorem dL_law_677 : decode cL_law 677 = .ok (.aload_n 1, 1) := by decide +kernel
theorem dL_law_678 : decode cL_law 678 = .ok (.aload_n 0, 1) := by decide +kernel
theorem dL_law_679 : decode cL_law 679 = .ok (.iload_n 3, 1) := by decide +kernel
theorem dL_law_680 : decode cL_law 680 = .ok (.iconst 1, 1) := by decide +kernel
theorem dL_law_681 : decode cL_law 681 = .ok (.iadd, 1) := by decide +kernel
theorem dL_law_682 : decode cL_law 682 = .ok (.iaload, 1) := by decide +kernel
theorem dL_law_683 : decode cL_law 683 = .ok (.aload_n 0, 1) := by decide +kernel
theorem dL_law_684 : decode cL_law 684 = .ok (.iload_n 3, 1) := by decide +kernel
theorem dL_law_685 : decode cL_law 685 = .ok (.iconst 2, 1) := by decide +kernel
theorem dL_law_686 : decode cL_law 686 = .ok (.iadd, 1) := by decide +kernel
theorem dL_law_687 : decode cL_law 687 = .ok (.iaload, 1) := by decide +kernel
theorem dL_law_688 : decode cL_law 688 = .ok (.invokevirtual 96, 3) := by decide +kernel
theorem dL_law_691 : decode cL_law 691 = .ok (.aload_n 2, 1) := by decide +kernel
theorem dL_law_692 : decode cL_law 692 = .ok (.aload_n 0, 1) := by decide +kernel
theorem dL_law_693 : decode cL_law 693 = .ok (.iload_n 3, 1) := by decide +kernel
theorem dL_law_694 : decode cL_law 694 = .ok (.iconst 1, 1) := by decide +kernel
theorem dL_law_695 : decode cL_law 695 = .ok (.iadd, 1) := by decide +kernel
theorem dL_law_696 : decode cL_law 696 = .ok (.iaload, 1) := by decide +kernel
theorem dL_law_697 : decode cL_law 697 = .ok (.aload_n 0, 1) := by decide +kernel
theorem dL_law_698 : decode cL_law 698 = .ok (.iload_n 3, 1) := by decide +kernel
theorem dL_law_699 : decode cL_law 699 = .ok (.iconst 2, 1) := by decide +kernel
theorem dL_law_700 : decode cL_law 700 = .ok (.iadd, 1) := by decide +kernel
theorem dL_law_701 : decode cL_law 701 = .ok (.iaload, 1) := by decide +kernel
theorem dL_law_702 : decode cL_law 702 = .ok (.invokevirtual 99, 3) := by decide +kernel
theorem dL_law_705 : decode cL_law 705 = .ok (.if_icmp .eq 299, 3) := by decide +kernel
theorem dL_law_708 : decode cL_law 708 = .ok (.iconst 0, 1) := by decide +kernel
theorem dL_law_709 : decode cL_law 709 = .ok (.ireturn, 1) := by decide +kernel
theorem dL_law_710 : decode cL_law 710 = .ok (.aload_n 1, 1) := by decide +kernel
theorem dL_law_711 : decode cL_law 711 = .ok (.invokevirtual 100, 3) := by decide +kernel
theorem dL_law_714 : decode cL_law 714 = .ok (.aload_n 2, 1) := by decide +kernel
theorem dL_law_715 : decode cL_law 715 = .ok (.invokevirtual 103, 3) := by decide +kernel
theorem dL_law_718 : decode cL_law 718 = .ok (.if_icmp .eq 286, 3) := by decide +kernel
theorem dL_law_721 : decode cL_law 721 = .ok (.iconst 0, 1) := by decide +kernel
theorem dL_law_722 : decode cL_law 722 = .ok (.ireturn, 1) := by decide +kernel
theorem dL_law_723 : decode cL_law 723 = .ok (.aload_n 1, 1) := by decide +kernel
theorem dL_law_724 : decode cL_law 724 = .ok (.invokevirtual 104, 3) := by decide +kernel
theorem dL_law_727 : decode cL_law 727 = .ok (.aload_n 2, 1) := by decide +kernel
theorem dL_law_728 : decode cL_law 728 = .ok (.invokevirtual 107, 3) := by decide +kernel
theorem dL_law_731 : decode cL_law 731 = .ok (.if_icmp .eq 273, 3) := by decide +kernel
theorem dL_law_734 : decode cL_law 734 = .ok (.iconst 0, 1) := by decide +kernel
theorem dL_law_735 : decode cL_law 735 = .ok (.ireturn, 1) := by decide +kernel
theorem dL_law_736 : decode cL_law 736 = .ok (.aload_n 1, 1) := by decide +kernel
theorem dL_law_737 : decode cL_law 737 = .ok (.aload_n 0, 1) := by decide +kernel
theorem dL_law_738 : decode cL_law 738 = .ok (.iload_n 3, 1) := by decide +kernel
theorem dL_law_739 : decode cL_law 739 = .ok (.iconst 1, 1) := by decide +kernel
theorem dL_law_740 : decode cL_law 740 = .ok (.iadd, 1) := by decide +kernel
theorem dL_law_741 : decode cL_law 741 = .ok (.iaload, 1) := by decide +kernel
theorem dL_law_742 : decode cL_law 742 = .ok (.aload_n 0, 1) := by decide +kernel
theorem dL_law_743 : decode cL_law 743 = .ok (.iload_n 3, 1) := by decide +kernel
theorem dL_law_744 : decode cL_law 744 = .ok (.iconst 2, 1) := by decide +kernel
theorem dL_law_745 : decode cL_law 745 = .ok (.iadd, 1) := by decide +kernel
theorem dL_law_746 : decode cL_law 746 = .ok (.iaload, 1) := by decide +kernel
theorem dL_law_747 : decode cL_law 747 = .ok (.aload_n 0, 1) := by decide +kernel
theorem dL_law_748 : decode cL_law 748 = .ok (.iload_n 3, 1) := by decide +kernel
theorem dL_law_749 : decode cL_law 749 = .ok (.iconst 3, 1) := by decide +kernel
theorem dL_law_750 : decode cL_law 750 = .ok (.iadd, 1) := by decide +kernel
theorem dL_law_751 : decode cL_law 751 = .ok (.iaload, 1) := by decide +kernel
theorem dL_law_752 : decode cL_law 752 = .ok (.invokevirtual 108, 3) := by decide +kernel
theorem dL_law_755 : decode cL_law 755 = .ok (.aload_n 2, 1) := by decide +kernel
theorem dL_law_756 : decode cL_law 756 = .ok (.aload_n 0, 1) := by decide +kernel
theorem dL_law_757 : decode cL_law 757 = .ok (.iload_n 3, 1) := by decide +kernel
theorem dL_law_758 : decode cL_law 758 = .ok (.iconst 1, 1) := by decide +kernel
theorem dL_law_759 : decode cL_law 759 = .ok (.iadd, 1) := by decide +kernel
theorem dL_law_760 : decode cL_law 760 = .ok (.iaload, 1) := by decide +kernel
theorem dL_law_761 : decode cL_law 761 = .ok (.aload_n 0, 1) := by decide +kernel
theorem dL_law_762 : decode cL_law 762 = .ok (.iload_n 3, 1) := by decide +kernel
theorem dL_law_763 : decode cL_law 763 = .ok (.iconst 2, 1) := by decide +kernel
theorem dL_law_764 : decode cL_law 764 = .ok (.iadd, 1) := by decide +kernel
theorem dL_law_765 : decode cL_law 765 = .ok (.iaload, 1) := by decide +kernel
theorem dL_law_766 : decode cL_law 766 = .ok (.aload_n 0, 1) := by decide +kernel
theorem dL_law_767 : decode cL_law 767 = .ok (.iload_n 3, 1) := by decide +kernel
theorem dL_law_768 : decode cL_law 768 = .ok (.iconst 3, 1) := by decide +kernel
theorem dL_law_769 : decode cL_law 769 = .ok (.iadd, 1) := by decide +kernel
theorem dL_law_770 : decode cL_law 770 = .ok (.iaload, 1) := by decide +kernel
theorem dL_law_771 : decode cL_law 771 = .ok (.invokevirtual 111, 3) := by decide +kernel
theorem dL_law_774 : decode cL_law 774 = .ok (.if_icmp .eq 230, 3) := by decide +kernel
theorem dL_law_777 : decode cL_law 777 = .ok (.iconst 0, 1) := by decide +kernel
theorem dL_law_778 : decode cL_law 778 = .ok (.ireturn, 1) := by decide +kernel
theorem dL_law_779 : decode cL_law 779 = .ok (.aload_n 1, 1) := by decide +kernel
theorem dL_law_780 : decode cL_law 780 = .ok (.aload_n 0, 1) := by decide +kernel
theorem dL_law_781 : decode cL_law 781 = .ok (.iload_n 3, 1) := by decide +kernel
theorem dL_law_782 : decode cL_law 782 = .ok (.iconst 1, 1) := by decide +kernel
theorem dL_law_783 : decode cL_law 783 = .ok (.iadd, 1) := by decide +kernel
theorem dL_law_784 : decode cL_law 784 = .ok (.iaload, 1) := by decide +kernel
theorem dL_law_785 : decode cL_law 785 = .ok (.aload_n 0, 1) := by decide +kernel
theorem dL_law_786 : decode cL_law 786 = .ok (.iload_n 3, 1) := by decide +kernel
theorem dL_law_787 : decode cL_law 787 = .ok (.iconst 2, 1) := by decide +kernel
theorem dL_law_788 : decode cL_law 788 = .ok (.iadd, 1) := by decide +kernel
theorem dL_law_789 : decode cL_law 789 = .ok (.iaload, 1) := by decide +kernel
theorem dL_law_790 : decode cL_law 790 = .ok (.aload_n 0, 1) := by decide +kernel
theorem dL_law_791 : decode cL_law 791 = .ok (.iload_n 3, 1) := by decide +kernel
theorem dL_law_792 : decode cL_law 792 = .ok (.iconst 3, 1) := by decide +kernel
theorem dL_law_793 : decode cL_law 793 = .ok (.iadd, 1) := by decide +kernel
theorem dL_law_794 : decode cL_law 794 = .ok (.iaload, 1) := by decide +kernel
theorem dL_law_795 : decode cL_law 795 = .ok (.invokevirtual 112, 3) := by decide +kernel
theorem dL_law_798 : decode cL_law 798 = .ok (.aload_n 2, 1) := by decide +kernel
theorem dL_law_799 : decode cL_law 799 = .ok (.aload_n 0, 1) := by decide +kernel
theorem dL_law_800 : decode cL_law 800 = .ok (.iload_n 3, 1) := by decide +kernel
theorem dL_law_801 : decode cL_law 801 = .ok (.iconst 1, 1) := by decide +kernel
theorem dL_law_802 : decode cL_law 802 = .ok (.iadd, 1) := by decide +kernel
theorem dL_law_803 : decode cL_law 803 = .ok (.iaload, 1) := by decide +kernel
theorem dL_law_804 : decode cL_law 804 = .ok (.aload_n 0, 1) := by decide +kernel
theorem dL_law_805 : decode cL_law 805 = .ok (.iload_n 3, 1) := by decide +kernel
theorem dL_law_806 : decode cL_law 806 = .ok (.iconst 2, 1) := by decide +kernel
theorem dL_law_807 : decode cL_law 807 = .ok (.iadd, 1) := by decide +kernel
theorem dL_law_808 : decode cL_law 808 = .ok (.iaload, 1) := by decide +kernel
theorem dL_law_809 : decode cL_law 809 = .ok (.aload_n 0, 1) := by decide +kernel
theorem dL_law_810 : decode cL_law 810 = .ok (.iload_n 3, 1) := by decide +kernel
theorem dL_law_811 : decode cL_law 811 = .ok (.iconst 3, 1) := by decide +kernel
theorem dL_law_812 : decode cL_law 812 = .ok (.iadd, 1) := by decide +kernel
theorem dL_law_813 : decode cL_law 813 = .ok (.iaload, 1) := by decide +kernel
theorem dL_law_814 : decode cL_law 814 = .ok (.invokevirtual 115, 3) := by decide +kernel
theorem dL_law_817 : decode cL_law 817 = .ok (.if_icmp .eq 187, 3) := by decide +kernel
theorem dL_law_820 : decode cL_law 820 = .ok (.iconst 0, 1) := by decide +kernel
theorem dL_law_821 : decode cL_law 821 = .ok (.ireturn, 1) := by decide +kernel
theorem dL_law_822 : decode cL_law 822 = .ok (.aload_n 1, 1) := by decide +kernel
theorem dL_law_823 : decode cL_law 823 = .ok (.aload_n 0, 1) := by decide +kernel
theorem dL_law_824 : decode cL_law 824 = .ok (.iload_n 3, 1) := by decide +kernel
theorem dL_law_825 : decode cL_law 825 = .ok (.iconst 1, 1) := by decide +kernel
theorem dL_law_826 : decode cL_law 826 = .ok (.iadd, 1) := by decide +kernel
theorem dL_law_827 : decode cL_law 827 = .ok (.iaload, 1) := by decide +kernel
theorem dL_law_828 : decode cL_law 828 = .ok (.aload_n 0, 1) := by decide +kernel
theorem dL_law_829 : decode cL_law 829 = .ok (.iload_n 3, 1) := by decide +kernel
theorem dL_law_830 : decode cL_law 830 = .ok (.iconst 2, 1) := by decide +kernel
theorem dL_law_831 : decode cL_law 831 = .ok (.iadd, 1) := by decide +kernel
theorem dL_law_832 : decode cL_law 832 = .ok (.iaload, 1) := by decide +kernel
theorem dL_law_833 : decode cL_law 833 = .ok (.aload_n 0, 1) := by decide +kernel
theorem dL_law_834 : decode cL_law 834 = .ok (.iload_n 3, 1) := by decide +kernel
theorem dL_law_835 : decode cL_law 835 = .ok (.iconst 3, 1) := by decide +kernel
theorem dL_law_836 : decode cL_law 836 = .ok (.iadd, 1) := by decide +kernel
theorem dL_law_837 : decode cL_law 837 = .ok (.iaload, 1) := by decide +kernel
theorem dL_law_838 : decode cL_law 838 = .ok (.invokevirtual 116, 3) := by decide +kernel
theorem dL_law_841 : decode cL_law 841 = .ok (.aload_n 2, 1) := by decide +kernel
theorem dL_law_842 : decode cL_law 842 = .ok (.aload_n 0, 1) := by decide +kernel
theorem dL_law_843 : decode cL_law 843 = .ok (.iload_n 3, 1) := by decide +kernel
theorem dL_law_844 : decode cL_law 844 = .ok (.iconst 1, 1) := by decide +kernel
theorem dL_law_845 : decode cL_law 845 = .ok (.iadd, 1) := by decide +kernel
theorem dL_law_846 : decode cL_law 846 = .ok (.iaload, 1) := by decide +kernel
theorem dL_law_847 : decode cL_law 847 = .ok (.aload_n 0, 1) := by decide +kernel
theorem dL_law_848 : decode cL_law 848 = .ok (.iload_n 3, 1) := by decide +kernel
theorem dL_law_849 : decode cL_law 849 = .ok (.iconst 2, 1) := by decide +kernel
theorem dL_law_850 : decode cL_law 850 = .ok (.iadd, 1) := by decide +kernel
theorem dL_law_851 : decode cL_law 851 = .ok (.iaload, 1) := by decide +kernel
theorem dL_law_852 : decode cL_law 852 = .ok (.aload_n 0, 1) := by decide +kernel
theorem dL_law_853 : decode cL_law 853 = .ok (.iload_n 3, 1) := by decide +kernel
theorem dL_law_854 : decode cL_law 854 = .ok (.iconst 3, 1) := by decide +kernel
theorem dL_law_855 : decode cL_law 855 = .ok (.iadd, 1) := by decide +kernel
theorem dL_law_856 : decode cL_law 856 = .ok (.iaload, 1) := by decide +kernel
theorem dL_law_857 : decode cL_law 857 = .ok (.invokevirtual 119, 3) := by decide +kernel
theorem dL_law_860 : decode cL_law 860 = .ok (.if_icmp .eq 144, 3) := by decide +kernel
theorem dL_law_863 : decode cL_law 863 = .ok (.iconst 0, 1) := by decide +kernel
theorem dL_law_864 : decode cL_law 864 = .ok (.ireturn, 1) := by decide +kernel
theorem dL_law_865 : decode cL_law 865 = .ok (.aload_n 1, 1) := by decide +kernel
theorem dL_law_866 : decode cL_law 866 = .ok (.aload_n 0, 1) := by decide +kernel
theorem dL_law_867 : decode cL_law 867 = .ok (.iload_n 3, 1) := by decide +kernel
theorem dL_law_868 : decode cL_law 868 = .ok (.iconst 1, 1) := by decide +kernel
theorem dL_law_869 : decode cL_law 869 = .ok (.iadd, 1) := by decide +kernel
theorem dL_law_870 : decode cL_law 870 = .ok (.iaload, 1) := by decide +kernel
theorem dL_law_871 : decode cL_law 871 = .ok (.invokevirtual 120, 3) := by decide +kernel
theorem dL_law_874 : decode cL_law 874 = .ok (.aload_n 2, 1) := by decide +kernel
theorem dL_law_875 : decode cL_law 875 = .ok (.aload_n 0, 1) := by decide +kernel
theorem dL_law_876 : decode cL_law 876 = .ok (.iload_n 3, 1) := by decide +kernel
theorem dL_law_877 : decode cL_law 877 = .ok (.iconst 1, 1) := by decide +kernel
theorem dL_law_878 : decode cL_law 878 = .ok (.iadd, 1) := by decide +kernel
theorem dL_law_879 : decode cL_law 879 = .ok (.iaload, 1) := by decide +kernel
theorem dL_law_880 : decode cL_law 880 = .ok (.invokevirtual 123, 3) := by decide +kernel
theorem dL_law_883 : decode cL_law 883 = .ok (.if_icmp .eq 121, 3) := by decide +kernel
theorem dL_law_886 : decode cL_law 886 = .ok (.iconst 0, 1) := by decide +kernel
theorem dL_law_887 : decode cL_law 887 = .ok (.ireturn, 1) := by decide +kernel
theorem dL_law_888 : decode cL_law 888 = .ok (.aload_n 1, 1) := by decide +kernel
theorem dL_law_889 : decode cL_law 889 = .ok (.aload_n 0, 1) := by decide +kernel
theorem dL_law_890 : decode cL_law 890 = .ok (.iload_n 3, 1) := by decide +kernel
theorem dL_law_891 : decode cL_law 891 = .ok (.iconst 1, 1) := by decide +kernel
theorem dL_law_892 : decode cL_law 892 = .ok (.iadd, 1) := by decide +kernel
theorem dL_law_893 : decode cL_law 893 = .ok (.iaload, 1) := by decide +kernel
theorem dL_law_894 : decode cL_law 894 = .ok (.aload_n 0, 1) := by decide +kernel
theorem dL_law_895 : decode cL_law 895 = .ok (.iload_n 3, 1) := by decide +kernel
theorem dL_law_896 : decode cL_law 896 = .ok (.iconst 2, 1) := by decide +kernel
theorem dL_law_897 : decode cL_law 897 = .ok (.iadd, 1) := by decide +kernel
theorem dL_law_898 : decode cL_law 898 = .ok (.iaload, 1) := by decide +kernel
theorem dL_law_899 : decode cL_law 899 = .ok (.aload_n 0, 1) := by decide +kernel
theorem dL_law_900 : decode cL_law 900 = .ok (.iload_n 3, 1) := by decide +kernel
theorem dL_law_901 : decode cL_law 901 = .ok (.iconst 3, 1) := by decide +kernel
theorem dL_law_902 : decode cL_law 902 = .ok (.iadd, 1) := by decide +kernel
theorem dL_law_903 : decode cL_law 903 = .ok (.iaload, 1) := by decide +kernel
theorem dL_law_904 : decode cL_law 904 = .ok (.aload_n 0, 1) := by decide +kernel
theorem dL_law_905 : decode cL_law 905 = .ok (.iload_n 3, 1) := by decide +kernel
theorem dL_law_906 : decode cL_law 906 = .ok (.iconst 4, 1) := by decide +kernel
theorem dL_law_907 : decode cL_law 907 = .ok (.iadd, 1) := by decide +kernel
theorem dL_law_908 : decode cL_law 908 = .ok (.iaload, 1) := by decide +kernel
theorem dL_law_909 : decode cL_law 909 = .ok (.invokevirtual 124, 3) := by decide +kernel
theorem dL_law_912 : decode cL_law 912 = .ok (.aload_n 2, 1) := by decide +kernel
theorem dL_law_913 : decode cL_law 913 = .ok (.aload_n 0, 1) := by decide +kernel
theorem dL_law_914 : decode cL_law 914 = .ok (.iload_n 3, 1) := by decide +kernel
theorem dL_law_915 : decode cL_law 915 = .ok (.iconst 1, 1) := by decide +kernel
theorem dL_law_916 : decode cL_law 916 = .ok (.iadd, 1) := by decide +kernel
theorem dL_law_917 : decode cL_law 917 = .ok (.iaload, 1) := by decide +kernel
theorem dL_law_918 : decode cL_law 918 = .ok (.aload_n 0, 1) := by decide +kernel
theorem dL_law_919 : decode cL_law 919 = .ok (.iload_n 3, 1) := by decide +kernel
theorem dL_law_920 : decode cL_law 920 = .ok (.iconst 2, 1) := by decide +kernel
theorem dL_law_921 : decode cL_law 921 = .ok (.iadd, 1) := by decide +kernel
theorem dL_law_922 : decode cL_law 922 = .ok (.iaload, 1) := by decide +kernel
theorem dL_law_923 : decode cL_law 923 = .ok (.aload_n 0, 1) := by decide +kernel
theorem dL_law_924 : decode cL_law 924 = .ok (.iload_n 3, 1) := by decide +kernel
theorem dL_law_925 : decode cL_law 925 = .ok (.iconst 3, 1) := by decide +kernel
theorem dL_law_926 : decode cL_law 926 = .ok (.iadd, 1) := by decide +kernel
theorem dL_law_927 : decode cL_law 927 = .ok (.iaload, 1) := by decide +kernel
theorem dL_law_928 : decode cL_law 928 = .ok (.aload_n 0, 1) := by decide +kernel
theorem dL_law_929 : decode cL_law 929 = .ok (.iload_n 3, 1) := by decide +kernel
theorem dL_law_930 : decode cL_law 930 = .ok (.iconst 4, 1) := by decide +kernel
theorem dL_law_931 : decode cL_law 931 = .ok (.iadd, 1) := by decide +kernel
theorem dL_law_932 : decode cL_law 932 = .ok (.iaload, 1) := by decide +kernel
theorem dL_law_933 : decode cL_law 933 = .ok (.invokevirtual 128, 3) := by decide +kernel
theorem dL_law_936 : decode cL_law 936 = .ok (.if_icmp .eq 68, 3) := by decide +kernel
theorem dL_law_939 : decode cL_law 939 = .ok (.iconst 0, 1) := by decide +kernel
theorem dL_law_940 : decode cL_law 940 = .ok (.ireturn, 1) := by decide +kernel
theorem dL_law_941 : decode cL_law 941 = .ok (.aload_n 1, 1) := by decide +kernel
theorem dL_law_942 : decode cL_law 942 = .ok (.aload_n 0, 1) := by decide +kernel
theorem dL_law_943 : decode cL_law 943 = .ok (.iload_n 3, 1) := by decide +kernel
theorem dL_law_944 : decode cL_law 944 = .ok (.iconst 1, 1) := by decide +kernel
theorem dL_law_945 : decode cL_law 945 = .ok (.iadd, 1) := by decide +kernel
theorem dL_law_946 : decode cL_law 946 = .ok (.iaload, 1) := by decide +kernel
theorem dL_law_947 : decode cL_law 947 = .ok (.aload_n 0, 1) := by decide +kernel
theorem dL_law_948 : decode cL_law 948 = .ok (.iload_n 3, 1) := by decide +kernel
theorem dL_law_949 : decode cL_law 949 = .ok (.iconst 2, 1) := by decide +kernel
theorem dL_law_950 : decode cL_law 950 = .ok (.iadd, 1) := by decide +kernel
theorem dL_law_951 : decode cL_law 951 = .ok (.iaload, 1) := by decide +kernel
theorem dL_law_952 : decode cL_law 952 = .ok (.aload_n 0, 1) := by decide +kernel
theorem dL_law_953 : decode cL_law 953 = .ok (.iload_n 3, 1) := by decide +kernel
theorem dL_law_954 : decode cL_law 954 = .ok (.iconst 3, 1) := by decide +kernel
theorem dL_law_955 : decode cL_law 955 = .ok (.iadd, 1) := by decide +kernel
theorem dL_law_956 : decode cL_law 956 = .ok (.iaload, 1) := by decide +kernel
theorem dL_law_957 : decode cL_law 957 = .ok (.aload_n 0, 1) := by decide +kernel
theorem dL_law_958 : decode cL_law 958 = .ok (.iload_n 3, 1) := by decide +kernel
theorem dL_law_959 : decode cL_law 959 = .ok (.iconst 4, 1) := by decide +kernel
theorem dL_law_960 : decode cL_law 960 = .ok (.iadd, 1) := by decide +kernel
theorem dL_law_961 : decode cL_law 961 = .ok (.iaload, 1) := by decide +kernel
theorem dL_law_962 : decode cL_law 962 = .ok (.aload_n 0, 1) := by decide +kernel
theorem dL_law_963 : decode cL_law 963 = .ok (.iload_n 3, 1) := by decide +kernel
theorem dL_law_964 : decode cL_law 964 = .ok (.iconst 5, 1) := by decide +kernel
theorem dL_law_965 : decode cL_law 965 = .ok (.iadd, 1) := by decide +kernel
theorem dL_law_966 : decode cL_law 966 = .ok (.iaload, 1) := by decide +kernel
theorem dL_law_967 : decode cL_law 967 = .ok (.invokevirtual 129, 3) := by decide +kernel
theorem dL_law_970 : decode cL_law 970 = .ok (.aload_n 2, 1) := by decide +kernel
theorem dL_law_971 : decode cL_law 971 = .ok (.aload_n 0, 1) := by decide +kernel
theorem dL_law_972 : decode cL_law 972 = .ok (.iload_n 3, 1) := by decide +kernel
theorem dL_law_973 : decode cL_law 973 = .ok (.iconst 1, 1) := by decide +kernel
theorem dL_law_974 : decode cL_law 974 = .ok (.iadd, 1) := by decide +kernel
theorem dL_law_975 : decode cL_law 975 = .ok (.iaload, 1) := by decide +kernel
theorem dL_law_976 : decode cL_law 976 = .ok (.aload_n 0, 1) := by decide +kernel
theorem dL_law_977 : decode cL_law 977 = .ok (.iload_n 3, 1) := by decide +kernel
theorem dL_law_978 : decode cL_law 978 = .ok (.iconst 2, 1) := by decide +kernel
theorem dL_law_979 : decode cL_law 979 = .ok (.iadd, 1) := by decide +kernel
theorem dL_law_980 : decode cL_law 980 = .ok (.iaload, 1) := by decide +kernel
theorem dL_law_981 : decode cL_law 981 = .ok (.aload_n 0, 1) := by decide +kernel
theorem dL_law_982 : decode cL_law 982 = .ok (.iload_n 3, 1) := by decide +kernel
theorem dL_law_983 : decode cL_law 983 = .ok (.iconst 3, 1) := by decide +kernel
theorem dL_law_984 : decode cL_law 984 = .ok (.iadd, 1) := by decide +kernel
theorem dL_law_985 : decode cL_law 985 = .ok (.iaload, 1) := by decide +kernel
theorem dL_law_986 : decode cL_law 986 = .ok (.aload_n 0, 1) := by decide +kernel
theorem dL_law_987 : decode cL_law 987 = .ok (.iload_n 3, 1) := by decide +kernel
theorem dL_law_988 : decode cL_law 988 = .ok (.iconst 4, 1) := by decide +kernel
theorem dL_law_989 : decode cL_law 989 = .ok (.iadd, 1) := by decide +kernel
theorem dL_law_990 : decode cL_law 990 = .ok (.iaload, 1) := by decide +kernel
theorem dL_law_991 : decode cL_law 991 = .ok (.aload_n 0, 1) := by decide +kernel
theorem dL_law_992 : decode cL_law 992 = .ok (.iload_n 3, 1) := by decide +kernel
theorem dL_law_993 : decode cL_law 993 = .ok (.iconst 5, 1) := by decide +kernel
theorem dL_law_994 : decode cL_law 994 = .ok (.iadd, 1) := by decide +kernel
theorem dL_law_995 : decode cL_law 995 = .ok (.iaload, 1) := by decide +kernel
theorem dL_law_996 : decode cL_law 996 = .ok (.invokevirtual 133, 3) := by decide +kernel
theorem dL_law_999 : decode cL_law 999 = .ok (.if_icmp .eq 5, 3) := by decide +kernel
theorem dL_law_1002 : decode cL_law 1002 = .ok (.iconst 0, 1) := by decide +kernel
theorem dL_law_1003 : decode cL_law 1003 = .ok (.ireturn, 1) := by decide +kernel
theorem dL_law_1004 : decode cL_law 1004 = .ok (.iinc 3 6, 3) := by decide +kernel
theorem dL_law_1007 : decode cL_law 1007 = .ok (.goto (-989), 3) := by decide +kernel
theorem dL_law_1010 : decode cL_law 1010 = .ok (.iconst 1, 1) := by decide +kernel
theorem dL_law_1011 : decode cL_law 1011 = .ok (.ireturn, 1) := by decide +kernel
end
section
/-! the state: the class's ints by cell and place; the reference's likewise, and its longs by slot -/
abbrev MM : Type := Nat → Nat → Int32
abbrev SR : Type := MM × (Nat → Int64)
abbrev SX : Type := MM × SR
abbrev FX : Type := Program × Launch × Env × Room × State × MethodId × Array Value × List Frame × Method × Code × Nat × Nat
abbrev GX : Type := va_G × (Nat → Nat) × (Nat → ClassId) × (Nat → Nat)
def stA (s : MM) (k : Nat) (f : Nat → Int32) : MM := fun a => if a = k then f else s a
def st1 (s : MM) (k j : Nat) (v : Int32) : MM := stA s k (upd (s k) j v)
def srA (r : SR) (k : Nat) (f : Nat → Int32) : SR := (stA r.1 k f, r.2)
def sr1 (r : SR) (k j : Nat) (v : Int32) : SR := (st1 r.1 k j v, r.2)
def srL (r : SR) (j : Nat) (v : Int64) : SR := (r.1, vp_updL r.2 j v)
/-- what the cell of a number holds -/
def cellE (G : GX) (S : SX) (k : Nat) : va_E := match k with
  | 0 => .inr (7, [.ref (G.2.1 1), .ref (G.2.1 7), .ref (G.2.1 13), .ref (G.2.1 17), .ref (G.2.1 19), .ref (G.2.1 23), .ref (G.2.1 28), .ref (G.2.1 29), .ref (G.2.1 38), .int (S.1 0 9)])
  | 1 => .inr (6, [.ref (G.2.1 2), .ref (G.2.1 3), .ref (G.2.1 4), .ref (G.2.1 5), .ref (G.2.1 6), .int (S.1 1 5), .int (S.1 1 6), .int (S.1 1 7)])
  | 2 => .inl (G.2.2.1 1, 10, .inl (S.1 2))
  | 3 => .inl (G.2.2.1 1, 10, .inl (S.1 3))
  | 4 => .inl (G.2.2.1 1, 10, .inl (S.1 4))
  | 5 => .inl (G.2.2.1 1, 10, .inl (S.1 5))
  | 6 => .inl (G.2.2.1 1, 12, .inl (S.1 6))
  | 7 => .inr (6, [.ref (G.2.1 8), .ref (G.2.1 9), .ref (G.2.1 10), .ref (G.2.1 11), .ref (G.2.1 12), .int (S.1 7 5), .int (S.1 7 6), .int (S.1 7 7)])
  | 8 => .inl (G.2.2.1 1, 10, .inl (S.1 8))
  | 9 => .inl (G.2.2.1 1, 10, .inl (S.1 9))
  | 10 => .inl (G.2.2.1 1, 10, .inl (S.1 10))
  | 11 => .inl (G.2.2.1 1, 10, .inl (S.1 11))
  | 12 => .inl (G.2.2.1 1, 12, .inl (S.1 12))
  | 13 => .inr (5, [.ref (G.2.1 14), .int (S.1 13 1), .int (S.1 13 2), .ref (G.2.1 15), .ref (G.2.1 16)])
  | 14 => .inl (G.2.2.1 0, 120, .inl (S.1 14))
  | 15 => .inl (G.2.2.1 1, 64, .inl (S.1 15))
  | 16 => .inl (G.2.2.1 1, 64, .inl (S.1 16))
  | 17 => .inr (0, [.ref (G.2.1 1), .ref (G.2.1 18), .int (S.1 17 2), .int (S.1 17 3), .int (S.1 17 4)])
  | 18 => .inr (2, [.int (S.1 18 0), .int (S.1 18 1), .int (S.1 18 2), .int (S.1 18 3)])
  | 19 => .inr (1, [.ref (G.2.1 1), .ref (G.2.1 20), .ref (G.2.1 21), .ref (G.2.1 22)])
  | 20 => .inr (2, [.int (S.1 20 0), .int (S.1 20 1), .int (S.1 20 2), .int (S.1 20 3)])
  | 21 => .inr (2, [.int (S.1 21 0), .int (S.1 21 1), .int (S.1 21 2), .int (S.1 21 3)])
  | 22 => .inl (G.2.2.1 1, 1024, .inl (S.1 22))
  | 23 => .inr (4, [.ref (G.2.1 1), .ref (G.2.1 24), .ref (G.2.1 25), .ref (G.2.1 26), .ref (G.2.1 27)])
  | 24 => .inr (2, [.int (S.1 24 0), .int (S.1 24 1), .int (S.1 24 2), .int (S.1 24 3)])
  | 25 => .inr (2, [.int (S.1 25 0), .int (S.1 25 1), .int (S.1 25 2), .int (S.1 25 3)])
  | 26 => .inl (G.2.2.1 1, 10, .inl (S.1 26))
  | 27 => .inr (2, [.int (S.1 27 0), .int (S.1 27 1), .int (S.1 27 2), .int (S.1 27 3)])
  | 28 => .inr (2, [.int (S.1 28 0), .int (S.1 28 1), .int (S.1 28 2), .int (S.1 28 3)])
  | 29 => .inl (G.2.2.1 3, 4, .inr (.inr (.inr (.inr (fun i => some (G.2.1 (30 + 2 * i)))))))
  | 30 => .inr (3, [.ref (G.2.1 31), .int (S.1 30 1), .int (S.1 30 2), .int (S.1 30 3)])
  | 31 => .inl (G.2.2.1 1, 24, .inl (S.1 31))
  | 32 => .inr (3, [.ref (G.2.1 33), .int (S.1 32 1), .int (S.1 32 2), .int (S.1 32 3)])
  | 33 => .inl (G.2.2.1 1, 24, .inl (S.1 33))
  | 34 => .inr (3, [.ref (G.2.1 35), .int (S.1 34 1), .int (S.1 34 2), .int (S.1 34 3)])
  | 35 => .inl (G.2.2.1 1, 24, .inl (S.1 35))
  | 36 => .inr (3, [.ref (G.2.1 37), .int (S.1 36 1), .int (S.1 36 2), .int (S.1 36 3)])
  | 37 => .inl (G.2.2.1 1, 24, .inl (S.1 37))
  | 38 => .inl (G.2.2.1 1, 12, .inl (S.1 38))
  | 39 => .inr (8, [.ref (G.2.1 40), .ref (G.2.1 41), .ref (G.2.1 42), .ref (G.2.1 43), .int (S.2.1 39 4), .ref (G.2.1 44), .int (S.2.1 39 6), .int (S.2.1 39 7), .int (S.2.1 39 8), .ref (G.2.1 45), .int (S.2.1 39 10), .int (S.2.1 39 11), .int (S.2.1 39 12), .int (S.2.1 39 13), .long (S.2.2 14), .long (S.2.2 15), .ref (G.2.1 46), .int (S.2.1 39 17), .int (S.2.1 39 18), .int (S.2.1 39 19), .ref (G.2.1 47), .ref (G.2.1 48), .ref (G.2.1 49), .ref (G.2.1 50), .int (S.2.1 39 24), .ref (G.2.1 51), .ref (G.2.1 52), .long (S.2.2 27), .long (S.2.2 28), .int (S.2.1 39 29), .ref (G.2.1 53), .ref (G.2.1 54), .ref (G.2.1 55), .ref (G.2.1 56), .ref (G.2.1 57)])
  | 40 => .inl (G.2.2.1 1, 10, .inl (S.2.1 40))
  | 41 => .inl (G.2.2.1 1, 10, .inl (S.2.1 41))
  | 42 => .inl (G.2.2.1 1, 10, .inl (S.2.1 42))
  | 43 => .inl (G.2.2.1 1, 10, .inl (S.2.1 43))
  | 44 => .inl (G.2.2.1 1, 12, .inl (S.2.1 44))
  | 45 => .inl (G.2.2.1 1, 12, .inl (S.2.1 45))
  | 46 => .inl (G.2.2.1 1, 120, .inl (S.2.1 46))
  | 47 => .inl (G.2.2.1 1, 240, .inl (S.2.1 47))
  | 48 => .inl (G.2.2.1 1, 4, .inl (S.2.1 48))
  | 49 => .inl (G.2.2.1 1, 4, .inl (S.2.1 49))
  | 50 => .inl (G.2.2.1 1, 4, .inl (S.2.1 50))
  | 51 => .inl (G.2.2.1 2, 1024, .inl (S.2.1 51))
  | 52 => .inl (G.2.2.1 2, 1024, .inl (S.2.1 52))
  | 53 => .inl (G.2.2.1 1, 56, .inl (S.2.1 53))
  | 54 => .inl (G.2.2.1 1, 4, .inl (S.2.1 54))
  | 55 => .inl (G.2.2.1 1, 4, .inl (S.2.1 55))
  | 56 => .inl (G.2.2.1 1, 96, .inl (S.2.1 56))
  | 57 => .inl (G.2.2.1 1, 24, .inl (S.2.1 57))
  | _ => .inr (0, [])
def cw (G : GX) (S : SX) : va_W := (List.range 58).map (fun k => (G.2.1 k, cellE G S k))
def Af (G : GX) : Nat → Prop := fun q => ∃ k : Nat, k < 58 ∧ q = G.2.1 k
abbrev tysG (G : GX) : List (ClassId × FieldType) := [(G.2.2.1 0, .byte), (G.2.2.1 1, .int), (G.2.2.1 2, .boolean), (G.2.2.1 3, .object "TwelveCars$Sheet")]
theorem cw_get {G : GX} {S : SX} {k : Nat} (h : k < 58) : (cw G S)[k]? = some (G.2.1 k, cellE G S k) := by simp [cw, h]
theorem cw_at {G : GX} {S : SX} {k : Nat} {e : va_E} (h : k < 58) (he : cellE G S k = e) : (cw G S)[k]? = some (G.2.1 k, e) := by rw [cw_get h, he]
theorem cw_set {G : GX} {S S' : SX} {k : Nat} (h : k < 58) (he : ∀ j, j ≠ k → cellE G S' j = cellE G S j) : (cw G S).set k (G.2.1 k, cellE G S' k) = cw G S' := by
  apply List.ext_getElem?
  intro j
  by_cases hj : j = k
  · subst hj
    rw [List.getElem?_set_self (by simpa [cw] using h), cw_get h]
  · rw [List.getElem?_set_ne (fun z => hj z.symm)]
    by_cases hl : j < 58
    · rw [cw_get hl, cw_get hl, he j hj]
    · rw [List.getElem?_eq_none (by simpa [cw] using Nat.le_of_not_lt hl), List.getElem?_eq_none (by simpa [cw] using Nat.le_of_not_lt hl)]
theorem cw_set' {G : GX} {S S' : SX} {k : Nat} {e : va_E} (h : k < 58) (he : ∀ j, j ≠ k → cellE G S' j = cellE G S j) (h2 : cellE G S' k = e) : (cw G S).set k (G.2.1 k, e) = cw G S' := by rw [← h2]; exact cw_set h he
set_option maxHeartbeats 4000000 in
theorem cellE_C {G : GX} {s : MM} {r : SR} {k : Nat} {f : Nat → Int32} : ∀ j, j ≠ k → cellE G (stA s k f, r) j = cellE G (s, r) j := by
  intro j hj
  unfold cellE
  split <;> first | rfl | simp only [stA, if_neg hj]
set_option maxHeartbeats 4000000 in
theorem cellE_R {G : GX} {s : MM} {r : SR} {k : Nat} {f : Nat → Int32} : ∀ j, j ≠ k → cellE G (s, srA r k f) j = cellE G (s, r) j := by
  intro j hj
  unfold cellE
  split <;> first | rfl | simp only [srA, stA, if_neg hj]
set_option maxHeartbeats 4000000 in
theorem cellE_L {G : GX} {s : MM} {r : SR} {k : Nat} {v : Int64} : ∀ j, j ≠ 39 → cellE G (s, srL r k v) j = cellE G (s, r) j := by
  intro j hj
  unfold cellE
  split <;> first | rfl | exact absurd rfl hj
theorem cellE_C1 {G : GX} {s : MM} {r : SR} {k a : Nat} {v : Int32} : ∀ j, j ≠ k → cellE G (st1 s k a v, r) j = cellE G (s, r) j := cellE_C
theorem cellE_R1 {G : GX} {s : MM} {r : SR} {k a : Nat} {v : Int32} : ∀ j, j ≠ k → cellE G (s, sr1 r k a v) j = cellE G (s, r) j := cellE_R
/-! what stands at the start and is never written: the class's tables, the texts -/
def tabv (i : Nat) (j : Nat) : Int32 := (([[1, 1, 2, 2], [2, 0, 1, 0, -1, 0, -2, 0, -1, 0, 1, 0], [0, 1, 0, 0, 0, -1, 0, -1, 0, 0, 0, 1], [0, 1, 0, 2, 0, 1, 0, -1, 0, -2, 0, -1], [0, 0, 1, 0, 1, 0, 0, 0, -1, 0, -1, 0]] : List (List Int32)).getD i []).getD j 0
abbrev txl : List Nat := [4, 4]
abbrev txb : List (List Int32) := [[103, 99, 115, 98], [105, 111, 115, 116]]
def Stt (G : GX) (U : State) (H : Heap) : Prop :=
  (va_Z "TwelveCars$Wheel" "SEATS" "[I" (.ref (G.2.2.2 0)) (Af G) U H ∧ va_T .int (G.2.2.2 0) 4 (fun j => .int (tabv 0 j)) (Af G) U H) ∧
  (va_Z "TwelveCars$Balance" "COSINE_WHOLE" "[I" (.ref (G.2.2.2 1)) (Af G) U H ∧ va_T .int (G.2.2.2 1) 12 (fun j => .int (tabv 1 j)) (Af G) U H) ∧
  (va_Z "TwelveCars$Balance" "COSINE_ROOT" "[I" (.ref (G.2.2.2 2)) (Af G) U H ∧ va_T .int (G.2.2.2 2) 12 (fun j => .int (tabv 2 j)) (Af G) U H) ∧
  (va_Z "TwelveCars$Balance" "SINE_WHOLE" "[I" (.ref (G.2.2.2 3)) (Af G) U H ∧ va_T .int (G.2.2.2 3) 12 (fun j => .int (tabv 3 j)) (Af G) U H) ∧
  (va_Z "TwelveCars$Balance" "SINE_ROOT" "[I" (.ref (G.2.2.2 4)) (Af G) U H ∧ va_T .int (G.2.2.2 4) 12 (fun j => .int (tabv 4 j)) (Af G) U H) ∧
  va_Z "java/lang/String" "COMPACT_STRINGS" "Z" (.int 1) (Af G) U H ∧
  vk_S 2 txl txb (fun i => G.2.2.2 (5 + i)) (fun i => G.2.2.2 (7 + i)) (Af G) U H ∧
  vk_R "TwelveCars$Tape" 26 "gcsb" (G.2.2.2 5) U ∧ vk_R "TwelveCars$Tape" 32 "iost" (G.2.2.2 6) U
theorem Stt.go {G : GX} {s U : State} {H H1 : Heap} (h : Stt G s H) (hW : s.WarmedH U.vm) (hq : ∀ a : Nat, a < H.size → ¬ Af G a → H1[a]? = H[a]?) : Stt G U H1 := by
  obtain ⟨⟨a0, b0⟩, ⟨a1, b1⟩, ⟨a2, b2⟩, ⟨a3, b3⟩, ⟨a4, b4⟩, a5, a6, a7, a8⟩ := h
  have hv := hW.alike
  exact ⟨⟨(va_Z.moved hv a0).kept hq, (va_T.moved hv b0).kept hq⟩, ⟨(va_Z.moved hv a1).kept hq, (va_T.moved hv b1).kept hq⟩, ⟨(va_Z.moved hv a2).kept hq, (va_T.moved hv b2).kept hq⟩, ⟨(va_Z.moved hv a3).kept hq, (va_T.moved hv b3).kept hq⟩, ⟨(va_Z.moved hv a4).kept hq, (va_T.moved hv b4).kept hq⟩, (va_Z.moved hv a5).kept hq, (vk_S.moved hv a6).kept hq, a7.warm hW, a8.warm hW⟩
theorem Stt.calling {G : GX} {U : State} {g : JFrame} {mk : MethodId} {a : Array Value} (h : Stt G U U.heap) : Stt G (U.calling g mk a) (U.calling g mk a).heap := by
  obtain ⟨⟨a0, b0⟩, ⟨a1, b1⟩, ⟨a2, b2⟩, ⟨a3, b3⟩, ⟨a4, b4⟩, a5, a6, a7, a8⟩ := h
  have hv : U.vm.Alike (U.calling g mk a).vm := Vm.Alike.refl U.vm
  exact ⟨⟨va_Z.moved hv a0, va_T.moved hv b0⟩, ⟨va_Z.moved hv a1, va_T.moved hv b1⟩, ⟨va_Z.moved hv a2, va_T.moved hv b2⟩, ⟨va_Z.moved hv a3, va_T.moved hv b3⟩, ⟨va_Z.moved hv a4, va_T.moved hv b4⟩, va_Z.moved hv a5, vk_S.moved hv a6, vk_R.same rfl a7, vk_R.same rfl a8⟩
/-! the contract of a method -/
def PreC (G : GX) (S : SX) (U : State) : Prop := va_P G.1 vwCl (cw G S) U.heap ∧ va_D (Af G) (cw G S) ∧ va_K G.1 vwCl (tysG G) U ∧ Stt G U U.heap
def PostW (G : GX) (S : SX) (t : State) : Prop := va_P G.1 vwCl (cw G S) t.heap ∧ va_D (Af G) (cw G S)
def rmD (d : Nat) : Room := { frames := d, cells := 0, slots := 0, locals := 48 * d }
abbrev PostI (G : GX) (r : Int32) (S : SX) : Array Value → State → Outcome → State → Prop := va_Qi (S := Unit) (fun r' _ => r' = r) (fun _ t => PostW G S t) (Af G)
abbrev PostL (G : GX) (r : Int64) (S : SX) : Array Value → State → Outcome → State → Prop := va_Ql (S := Unit) (fun r' _ => r' = r) (fun _ t => PostW G S t) (Af G)
abbrev PostV (G : GX) (S : SX) : Array Value → State → Outcome → State → Prop := va_Qv (S := Unit) (fun _ => True) (fun _ t => PostW G S t) (Af G)
abbrev MetC (l : Launch) (G : GX) (y : MethodName) (b : ByteArray) (nL : Nat) (ret : Option FieldType) (d : Nat) (S : SX) (As : List Value) (Qc : Array Value → State → Outcome → State → Prop) : Prop :=
  Met l y (.code y b nL ret :: wsG) (rmD d) (va_Pc As (PreC G S)) Qc 0 0 (Af G)
theorem PreC.blind {G : GX} {S : SX} {As : List Value} : FrameBlind (va_Pc As (PreC G S)) := by
  intro a U g mk h
  obtain ⟨h0, h1, h2, h3, h4⟩ := h
  exact ⟨h0, h1, h2, va_K.moved (u := U) (U := U.calling g mk a) (Vm.Alike.refl U.vm) h3, h4.calling⟩
def Cx (F : FX) (G : GX) (cc : ByteArray) (nL : Nat) (own : String) : Prop := match F with
  | (p, _, _, _, s, m, args, _, meth, c, _, _) => p.tables.exec = Jvm.exec ∧ c.code = cc ∧ c.maxLocals = nL ∧ s.vm.findClass own = some m.cls ∧ (∀ w ∈ wsG, w.before args s = true) ∧ meth.locks = false ∧ va_K G.1 vwCl (tysG G) s ∧ Stt G s s.heap
def At (F : FX) (G : GX) (Q : State → Prop) (nL pc : Nat) (lv : List (Nat × Value)) (st : List Value) (S : SX) : Prop := match F with
  | (p, l, e, R, s, m, args, below, meth, c, ce, sl) => ∀ (H : Heap) (locs : List Loc) (ls : Array Slot), va_P G.1 vwCl (cw G S) H → va_D (Af G) (cw G S) → va_S (Af G) s.heap H locs → lv_has ls nL lv → W p l e R s m args below meth c H locs ce sl Q (F0 m pc ls st)
/-! what the functions are made of -/
def ix {B : Type} (i : Int32) (N : Nat) (a : Option B) : Option B := if i < 0 ∨ N ≤ i.toNatClampNeg then none else a
def nm {A B : Type} (e : A) (f : A → Option B) : Option B := f e
def b1 {A B : Type} (x : Option A) (k : A → Option B) : Option B := match x with
  | none => none
  | some a => k a
theorem ix_some {B : Type} {i : Int32} {N : Nat} {a : Option B} {r : B} (h : ix i N a = some r) : vp_in i N ∧ a = some r := by
  unfold ix at h
  split at h
  · cases h
  · exact ⟨by assumption, h⟩
theorem b1_some {A B : Type} {x : Option A} {k : A → Option B} {r : B} (h : b1 x k = some r) : ∃ a, x = some a ∧ k a = some r := by
  cases x with
  | none => cases h
  | some a => exact ⟨a, rfl, h⟩
def bz {B : Type} (v : Int32) (a : Option B) : Option B := if v = 0 ∨ v = 1 then a else none
theorem bz_some {B : Type} {v : Int32} {a : Option B} {r : B} (h : bz v a = some r) : narrow .boolean (.int v) = .int v ∧ a = some r := by
  unfold bz at h
  split at h
  · rename_i hv
    rcases hv with rfl | rfl <;> exact ⟨rfl, h⟩
  · cases h
def bR {Y T B : Type} (x : Option (Y ⊕ T)) (ret : Y → Option B) (k : T → Option B) : Option B := match x with
  | none => none
  | some (.inl y) => ret y
  | some (.inr t) => k t
theorem bR_some {Y T B : Type} {x : Option (Y ⊕ T)} {ret : Y → Option B} {k : T → Option B} {r : B} (h : bR x ret k = some r) : (∃ y, x = some (.inl y) ∧ ret y = some r) ∨ (∃ t, x = some (.inr t) ∧ k t = some r) := by
  cases x with
  | none => cases h
  | some a =>
    cases a with
    | inl y => exact Or.inl ⟨y, rfl, h⟩
    | inr t => exact Or.inr ⟨t, rfl, h⟩
def cpk {B : Type} (sp dp n : Int32) (n0 n1 : Nat) (a : Option B) : Option B := if sp < 0 ∨ dp < 0 ∨ n < 0 ∨ n0 < sp.toNatClampNeg + n.toNatClampNeg ∨ n1 < dp.toNatClampNeg + n.toNatClampNeg then none else a
theorem cpk_some {B : Type} {sp dp n : Int32} {n0 n1 : Nat} {a : Option B} {r : B} (h : cpk sp dp n n0 n1 a = some r) : (¬ sp < 0 ∧ ¬ dp < 0 ∧ ¬ n < 0 ∧ sp.toNatClampNeg + n.toNatClampNeg ≤ n0 ∧ dp.toNatClampNeg + n.toNatClampNeg ≤ n1) ∧ a = some r := by
  unfold cpk at h
  split at h
  · cases h
  · rename_i hv
    simp only [not_or, Nat.not_lt] at hv
    exact ⟨hv, h⟩
theorem ite_cut {B : Type} {c : Prop} {inst : Decidable c} {a b : Option B} {r : B} (h : (if c then a else b) = some r) : (c ∧ a = some r) ∨ (¬ c ∧ b = some r) := by
  by_cases hc : c
  · rw [if_pos hc] at h
    exact Or.inl ⟨hc, h⟩
  · rw [if_neg hc] at h
    exact Or.inr ⟨hc, h⟩
def b2 {A1 A2 B : Type} (x : Option (A1 × A2)) (k : A1 → A2 → Option B) : Option B := match x with
  | none => none
  | some (a1, a2) => k a1 a2
theorem b2_some {A1 A2 B : Type} {x : Option (A1 × A2)} {k : A1 → A2 → Option B} {r : B} (h : b2 x k = some r) : ∃ a1 a2, x = some (a1, a2) ∧ k a1 a2 = some r := by
  cases x with
  | none => cases h
  | some a =>
    obtain ⟨a1, a2⟩ := a
    exact ⟨a1, a2, rfl, h⟩
def b3 {A1 A2 A3 B : Type} (x : Option (A1 × A2 × A3)) (k : A1 → A2 → A3 → Option B) : Option B := match x with
  | none => none
  | some (a1, a2, a3) => k a1 a2 a3
theorem b3_some {A1 A2 A3 B : Type} {x : Option (A1 × A2 × A3)} {k : A1 → A2 → A3 → Option B} {r : B} (h : b3 x k = some r) : ∃ a1 a2 a3, x = some (a1, a2, a3) ∧ k a1 a2 a3 = some r := by
  cases x with
  | none => cases h
  | some a =>
    obtain ⟨a1, a2, a3⟩ := a
    exact ⟨a1, a2, a3, rfl, h⟩
def b4 {A1 A2 A3 A4 B : Type} (x : Option (A1 × A2 × A3 × A4)) (k : A1 → A2 → A3 → A4 → Option B) : Option B := match x with
  | none => none
  | some (a1, a2, a3, a4) => k a1 a2 a3 a4
theorem b4_some {A1 A2 A3 A4 B : Type} {x : Option (A1 × A2 × A3 × A4)} {k : A1 → A2 → A3 → A4 → Option B} {r : B} (h : b4 x k = some r) : ∃ a1 a2 a3 a4, x = some (a1, a2, a3, a4) ∧ k a1 a2 a3 a4 = some r := by
  cases x with
  | none => cases h
  | some a =>
    obtain ⟨a1, a2, a3, a4⟩ := a
    exact ⟨a1, a2, a3, a4, rfl, h⟩
def b5 {A1 A2 A3 A4 A5 B : Type} (x : Option (A1 × A2 × A3 × A4 × A5)) (k : A1 → A2 → A3 → A4 → A5 → Option B) : Option B := match x with
  | none => none
  | some (a1, a2, a3, a4, a5) => k a1 a2 a3 a4 a5
theorem b5_some {A1 A2 A3 A4 A5 B : Type} {x : Option (A1 × A2 × A3 × A4 × A5)} {k : A1 → A2 → A3 → A4 → A5 → Option B} {r : B} (h : b5 x k = some r) : ∃ a1 a2 a3 a4 a5, x = some (a1, a2, a3, a4, a5) ∧ k a1 a2 a3 a4 a5 = some r := by
  cases x with
  | none => cases h
  | some a =>
    obtain ⟨a1, a2, a3, a4, a5⟩ := a
    exact ⟨a1, a2, a3, a4, a5, rfl, h⟩
def b6 {A1 A2 A3 A4 A5 A6 B : Type} (x : Option (A1 × A2 × A3 × A4 × A5 × A6)) (k : A1 → A2 → A3 → A4 → A5 → A6 → Option B) : Option B := match x with
  | none => none
  | some (a1, a2, a3, a4, a5, a6) => k a1 a2 a3 a4 a5 a6
theorem b6_some {A1 A2 A3 A4 A5 A6 B : Type} {x : Option (A1 × A2 × A3 × A4 × A5 × A6)} {k : A1 → A2 → A3 → A4 → A5 → A6 → Option B} {r : B} (h : b6 x k = some r) : ∃ a1 a2 a3 a4 a5 a6, x = some (a1, a2, a3, a4, a5, a6) ∧ k a1 a2 a3 a4 a5 a6 = some r := by
  cases x with
  | none => cases h
  | some a =>
    obtain ⟨a1, a2, a3, a4, a5, a6⟩ := a
    exact ⟨a1, a2, a3, a4, a5, a6, rfl, h⟩
def b7 {A1 A2 A3 A4 A5 A6 A7 B : Type} (x : Option (A1 × A2 × A3 × A4 × A5 × A6 × A7)) (k : A1 → A2 → A3 → A4 → A5 → A6 → A7 → Option B) : Option B := match x with
  | none => none
  | some (a1, a2, a3, a4, a5, a6, a7) => k a1 a2 a3 a4 a5 a6 a7
theorem b7_some {A1 A2 A3 A4 A5 A6 A7 B : Type} {x : Option (A1 × A2 × A3 × A4 × A5 × A6 × A7)} {k : A1 → A2 → A3 → A4 → A5 → A6 → A7 → Option B} {r : B} (h : b7 x k = some r) : ∃ a1 a2 a3 a4 a5 a6 a7, x = some (a1, a2, a3, a4, a5, a6, a7) ∧ k a1 a2 a3 a4 a5 a6 a7 = some r := by
  cases x with
  | none => cases h
  | some a =>
    obtain ⟨a1, a2, a3, a4, a5, a6, a7⟩ := a
    exact ⟨a1, a2, a3, a4, a5, a6, a7, rfl, h⟩
def b8 {A1 A2 A3 A4 A5 A6 A7 A8 B : Type} (x : Option (A1 × A2 × A3 × A4 × A5 × A6 × A7 × A8)) (k : A1 → A2 → A3 → A4 → A5 → A6 → A7 → A8 → Option B) : Option B := match x with
  | none => none
  | some (a1, a2, a3, a4, a5, a6, a7, a8) => k a1 a2 a3 a4 a5 a6 a7 a8
theorem b8_some {A1 A2 A3 A4 A5 A6 A7 A8 B : Type} {x : Option (A1 × A2 × A3 × A4 × A5 × A6 × A7 × A8)} {k : A1 → A2 → A3 → A4 → A5 → A6 → A7 → A8 → Option B} {r : B} (h : b8 x k = some r) : ∃ a1 a2 a3 a4 a5 a6 a7 a8, x = some (a1, a2, a3, a4, a5, a6, a7, a8) ∧ k a1 a2 a3 a4 a5 a6 a7 a8 = some r := by
  cases x with
  | none => cases h
  | some a =>
    obtain ⟨a1, a2, a3, a4, a5, a6, a7, a8⟩ := a
    exact ⟨a1, a2, a3, a4, a5, a6, a7, a8, rfl, h⟩
def b9 {A1 A2 A3 A4 A5 A6 A7 A8 A9 B : Type} (x : Option (A1 × A2 × A3 × A4 × A5 × A6 × A7 × A8 × A9)) (k : A1 → A2 → A3 → A4 → A5 → A6 → A7 → A8 → A9 → Option B) : Option B := match x with
  | none => none
  | some (a1, a2, a3, a4, a5, a6, a7, a8, a9) => k a1 a2 a3 a4 a5 a6 a7 a8 a9
theorem b9_some {A1 A2 A3 A4 A5 A6 A7 A8 A9 B : Type} {x : Option (A1 × A2 × A3 × A4 × A5 × A6 × A7 × A8 × A9)} {k : A1 → A2 → A3 → A4 → A5 → A6 → A7 → A8 → A9 → Option B} {r : B} (h : b9 x k = some r) : ∃ a1 a2 a3 a4 a5 a6 a7 a8 a9, x = some (a1, a2, a3, a4, a5, a6, a7, a8, a9) ∧ k a1 a2 a3 a4 a5 a6 a7 a8 a9 = some r := by
  cases x with
  | none => cases h
  | some a =>
    obtain ⟨a1, a2, a3, a4, a5, a6, a7, a8, a9⟩ := a
    exact ⟨a1, a2, a3, a4, a5, a6, a7, a8, a9, rfl, h⟩
def it1 {A1 X : Type} (b : A1 → Option (X ⊕ (A1))) : Nat → A1 → Option X
  | 0, _ => none
  | n + 1, a1 => match b a1 with
    | none => none
    | some (.inl x) => some x
    | some (.inr (a1)) => it1 b n a1
theorem it1_ind {A1 X : Type} {b : A1 → Option (X ⊕ (A1))} {E : X → Prop} {P : A1 → Prop} (step : ∀ (a1 : A1) (res : X ⊕ (A1)), b a1 = some res → Sum.elim E (fun q => match q with | (a1) => P a1) res → P a1) : ∀ (n : Nat) (a1 : A1) (r : X), it1 b n a1 = some r → E r → P a1 := by
  intro n
  induction n with
  | zero => intro a1 r h; cases h
  | succ n ih =>
    intro a1 r h hE
    cases hb : b a1 with
    | none => simp [it1, hb] at h
    | some res =>
      refine step a1 res hb ?_
      cases res with
      | inl x =>
        simp [it1, hb] at h
        subst h
        exact hE
      | inr q =>
        simp [it1, hb] at h
        exact ih _ r h hE
def it2 {A1 A2 X : Type} (b : A1 → A2 → Option (X ⊕ (A1 × A2))) : Nat → A1 → A2 → Option X
  | 0, _, _ => none
  | n + 1, a1, a2 => match b a1 a2 with
    | none => none
    | some (.inl x) => some x
    | some (.inr (a1, a2)) => it2 b n a1 a2
theorem it2_ind {A1 A2 X : Type} {b : A1 → A2 → Option (X ⊕ (A1 × A2))} {E : X → Prop} {P : A1 → A2 → Prop} (step : ∀ (a1 : A1) (a2 : A2) (res : X ⊕ (A1 × A2)), b a1 a2 = some res → Sum.elim E (fun q => match q with | (a1, a2) => P a1 a2) res → P a1 a2) : ∀ (n : Nat) (a1 : A1) (a2 : A2) (r : X), it2 b n a1 a2 = some r → E r → P a1 a2 := by
  intro n
  induction n with
  | zero => intro a1 a2 r h; cases h
  | succ n ih =>
    intro a1 a2 r h hE
    cases hb : b a1 a2 with
    | none => simp [it2, hb] at h
    | some res =>
      refine step a1 a2 res hb ?_
      cases res with
      | inl x =>
        simp [it2, hb] at h
        subst h
        exact hE
      | inr q =>
        simp [it2, hb] at h
        exact ih _ _ r h hE
def it3 {A1 A2 A3 X : Type} (b : A1 → A2 → A3 → Option (X ⊕ (A1 × A2 × A3))) : Nat → A1 → A2 → A3 → Option X
  | 0, _, _, _ => none
  | n + 1, a1, a2, a3 => match b a1 a2 a3 with
    | none => none
    | some (.inl x) => some x
    | some (.inr (a1, a2, a3)) => it3 b n a1 a2 a3
theorem it3_ind {A1 A2 A3 X : Type} {b : A1 → A2 → A3 → Option (X ⊕ (A1 × A2 × A3))} {E : X → Prop} {P : A1 → A2 → A3 → Prop} (step : ∀ (a1 : A1) (a2 : A2) (a3 : A3) (res : X ⊕ (A1 × A2 × A3)), b a1 a2 a3 = some res → Sum.elim E (fun q => match q with | (a1, a2, a3) => P a1 a2 a3) res → P a1 a2 a3) : ∀ (n : Nat) (a1 : A1) (a2 : A2) (a3 : A3) (r : X), it3 b n a1 a2 a3 = some r → E r → P a1 a2 a3 := by
  intro n
  induction n with
  | zero => intro a1 a2 a3 r h; cases h
  | succ n ih =>
    intro a1 a2 a3 r h hE
    cases hb : b a1 a2 a3 with
    | none => simp [it3, hb] at h
    | some res =>
      refine step a1 a2 a3 res hb ?_
      cases res with
      | inl x =>
        simp [it3, hb] at h
        subst h
        exact hE
      | inr q =>
        simp [it3, hb] at h
        exact ih _ _ _ r h hE
def it4 {A1 A2 A3 A4 X : Type} (b : A1 → A2 → A3 → A4 → Option (X ⊕ (A1 × A2 × A3 × A4))) : Nat → A1 → A2 → A3 → A4 → Option X
  | 0, _, _, _, _ => none
  | n + 1, a1, a2, a3, a4 => match b a1 a2 a3 a4 with
    | none => none
    | some (.inl x) => some x
    | some (.inr (a1, a2, a3, a4)) => it4 b n a1 a2 a3 a4
theorem it4_ind {A1 A2 A3 A4 X : Type} {b : A1 → A2 → A3 → A4 → Option (X ⊕ (A1 × A2 × A3 × A4))} {E : X → Prop} {P : A1 → A2 → A3 → A4 → Prop} (step : ∀ (a1 : A1) (a2 : A2) (a3 : A3) (a4 : A4) (res : X ⊕ (A1 × A2 × A3 × A4)), b a1 a2 a3 a4 = some res → Sum.elim E (fun q => match q with | (a1, a2, a3, a4) => P a1 a2 a3 a4) res → P a1 a2 a3 a4) : ∀ (n : Nat) (a1 : A1) (a2 : A2) (a3 : A3) (a4 : A4) (r : X), it4 b n a1 a2 a3 a4 = some r → E r → P a1 a2 a3 a4 := by
  intro n
  induction n with
  | zero => intro a1 a2 a3 a4 r h; cases h
  | succ n ih =>
    intro a1 a2 a3 a4 r h hE
    cases hb : b a1 a2 a3 a4 with
    | none => simp [it4, hb] at h
    | some res =>
      refine step a1 a2 a3 a4 res hb ?_
      cases res with
      | inl x =>
        simp [it4, hb] at h
        subst h
        exact hE
      | inr q =>
        simp [it4, hb] at h
        exact ih _ _ _ _ r h hE
def it5 {A1 A2 A3 A4 A5 X : Type} (b : A1 → A2 → A3 → A4 → A5 → Option (X ⊕ (A1 × A2 × A3 × A4 × A5))) : Nat → A1 → A2 → A3 → A4 → A5 → Option X
  | 0, _, _, _, _, _ => none
  | n + 1, a1, a2, a3, a4, a5 => match b a1 a2 a3 a4 a5 with
    | none => none
    | some (.inl x) => some x
    | some (.inr (a1, a2, a3, a4, a5)) => it5 b n a1 a2 a3 a4 a5
theorem it5_ind {A1 A2 A3 A4 A5 X : Type} {b : A1 → A2 → A3 → A4 → A5 → Option (X ⊕ (A1 × A2 × A3 × A4 × A5))} {E : X → Prop} {P : A1 → A2 → A3 → A4 → A5 → Prop} (step : ∀ (a1 : A1) (a2 : A2) (a3 : A3) (a4 : A4) (a5 : A5) (res : X ⊕ (A1 × A2 × A3 × A4 × A5)), b a1 a2 a3 a4 a5 = some res → Sum.elim E (fun q => match q with | (a1, a2, a3, a4, a5) => P a1 a2 a3 a4 a5) res → P a1 a2 a3 a4 a5) : ∀ (n : Nat) (a1 : A1) (a2 : A2) (a3 : A3) (a4 : A4) (a5 : A5) (r : X), it5 b n a1 a2 a3 a4 a5 = some r → E r → P a1 a2 a3 a4 a5 := by
  intro n
  induction n with
  | zero => intro a1 a2 a3 a4 a5 r h; cases h
  | succ n ih =>
    intro a1 a2 a3 a4 a5 r h hE
    cases hb : b a1 a2 a3 a4 a5 with
    | none => simp [it5, hb] at h
    | some res =>
      refine step a1 a2 a3 a4 a5 res hb ?_
      cases res with
      | inl x =>
        simp [it5, hb] at h
        subst h
        exact hE
      | inr q =>
        simp [it5, hb] at h
        exact ih _ _ _ _ _ r h hE
def it6 {A1 A2 A3 A4 A5 A6 X : Type} (b : A1 → A2 → A3 → A4 → A5 → A6 → Option (X ⊕ (A1 × A2 × A3 × A4 × A5 × A6))) : Nat → A1 → A2 → A3 → A4 → A5 → A6 → Option X
  | 0, _, _, _, _, _, _ => none
  | n + 1, a1, a2, a3, a4, a5, a6 => match b a1 a2 a3 a4 a5 a6 with
    | none => none
    | some (.inl x) => some x
    | some (.inr (a1, a2, a3, a4, a5, a6)) => it6 b n a1 a2 a3 a4 a5 a6
theorem it6_ind {A1 A2 A3 A4 A5 A6 X : Type} {b : A1 → A2 → A3 → A4 → A5 → A6 → Option (X ⊕ (A1 × A2 × A3 × A4 × A5 × A6))} {E : X → Prop} {P : A1 → A2 → A3 → A4 → A5 → A6 → Prop} (step : ∀ (a1 : A1) (a2 : A2) (a3 : A3) (a4 : A4) (a5 : A5) (a6 : A6) (res : X ⊕ (A1 × A2 × A3 × A4 × A5 × A6)), b a1 a2 a3 a4 a5 a6 = some res → Sum.elim E (fun q => match q with | (a1, a2, a3, a4, a5, a6) => P a1 a2 a3 a4 a5 a6) res → P a1 a2 a3 a4 a5 a6) : ∀ (n : Nat) (a1 : A1) (a2 : A2) (a3 : A3) (a4 : A4) (a5 : A5) (a6 : A6) (r : X), it6 b n a1 a2 a3 a4 a5 a6 = some r → E r → P a1 a2 a3 a4 a5 a6 := by
  intro n
  induction n with
  | zero => intro a1 a2 a3 a4 a5 a6 r h; cases h
  | succ n ih =>
    intro a1 a2 a3 a4 a5 a6 r h hE
    cases hb : b a1 a2 a3 a4 a5 a6 with
    | none => simp [it6, hb] at h
    | some res =>
      refine step a1 a2 a3 a4 a5 a6 res hb ?_
      cases res with
      | inl x =>
        simp [it6, hb] at h
        subst h
        exact hE
      | inr q =>
        simp [it6, hb] at h
        exact ih _ _ _ _ _ _ r h hE
def it7 {A1 A2 A3 A4 A5 A6 A7 X : Type} (b : A1 → A2 → A3 → A4 → A5 → A6 → A7 → Option (X ⊕ (A1 × A2 × A3 × A4 × A5 × A6 × A7))) : Nat → A1 → A2 → A3 → A4 → A5 → A6 → A7 → Option X
  | 0, _, _, _, _, _, _, _ => none
  | n + 1, a1, a2, a3, a4, a5, a6, a7 => match b a1 a2 a3 a4 a5 a6 a7 with
    | none => none
    | some (.inl x) => some x
    | some (.inr (a1, a2, a3, a4, a5, a6, a7)) => it7 b n a1 a2 a3 a4 a5 a6 a7
theorem it7_ind {A1 A2 A3 A4 A5 A6 A7 X : Type} {b : A1 → A2 → A3 → A4 → A5 → A6 → A7 → Option (X ⊕ (A1 × A2 × A3 × A4 × A5 × A6 × A7))} {E : X → Prop} {P : A1 → A2 → A3 → A4 → A5 → A6 → A7 → Prop} (step : ∀ (a1 : A1) (a2 : A2) (a3 : A3) (a4 : A4) (a5 : A5) (a6 : A6) (a7 : A7) (res : X ⊕ (A1 × A2 × A3 × A4 × A5 × A6 × A7)), b a1 a2 a3 a4 a5 a6 a7 = some res → Sum.elim E (fun q => match q with | (a1, a2, a3, a4, a5, a6, a7) => P a1 a2 a3 a4 a5 a6 a7) res → P a1 a2 a3 a4 a5 a6 a7) : ∀ (n : Nat) (a1 : A1) (a2 : A2) (a3 : A3) (a4 : A4) (a5 : A5) (a6 : A6) (a7 : A7) (r : X), it7 b n a1 a2 a3 a4 a5 a6 a7 = some r → E r → P a1 a2 a3 a4 a5 a6 a7 := by
  intro n
  induction n with
  | zero => intro a1 a2 a3 a4 a5 a6 a7 r h; cases h
  | succ n ih =>
    intro a1 a2 a3 a4 a5 a6 a7 r h hE
    cases hb : b a1 a2 a3 a4 a5 a6 a7 with
    | none => simp [it7, hb] at h
    | some res =>
      refine step a1 a2 a3 a4 a5 a6 a7 res hb ?_
      cases res with
      | inl x =>
        simp [it7, hb] at h
        subst h
        exact hE
      | inr q =>
        simp [it7, hb] at h
        exact ih _ _ _ _ _ _ _ r h hE
def it8 {A1 A2 A3 A4 A5 A6 A7 A8 X : Type} (b : A1 → A2 → A3 → A4 → A5 → A6 → A7 → A8 → Option (X ⊕ (A1 × A2 × A3 × A4 × A5 × A6 × A7 × A8))) : Nat → A1 → A2 → A3 → A4 → A5 → A6 → A7 → A8 → Option X
  | 0, _, _, _, _, _, _, _, _ => none
  | n + 1, a1, a2, a3, a4, a5, a6, a7, a8 => match b a1 a2 a3 a4 a5 a6 a7 a8 with
    | none => none
    | some (.inl x) => some x
    | some (.inr (a1, a2, a3, a4, a5, a6, a7, a8)) => it8 b n a1 a2 a3 a4 a5 a6 a7 a8
theorem it8_ind {A1 A2 A3 A4 A5 A6 A7 A8 X : Type} {b : A1 → A2 → A3 → A4 → A5 → A6 → A7 → A8 → Option (X ⊕ (A1 × A2 × A3 × A4 × A5 × A6 × A7 × A8))} {E : X → Prop} {P : A1 → A2 → A3 → A4 → A5 → A6 → A7 → A8 → Prop} (step : ∀ (a1 : A1) (a2 : A2) (a3 : A3) (a4 : A4) (a5 : A5) (a6 : A6) (a7 : A7) (a8 : A8) (res : X ⊕ (A1 × A2 × A3 × A4 × A5 × A6 × A7 × A8)), b a1 a2 a3 a4 a5 a6 a7 a8 = some res → Sum.elim E (fun q => match q with | (a1, a2, a3, a4, a5, a6, a7, a8) => P a1 a2 a3 a4 a5 a6 a7 a8) res → P a1 a2 a3 a4 a5 a6 a7 a8) : ∀ (n : Nat) (a1 : A1) (a2 : A2) (a3 : A3) (a4 : A4) (a5 : A5) (a6 : A6) (a7 : A7) (a8 : A8) (r : X), it8 b n a1 a2 a3 a4 a5 a6 a7 a8 = some r → E r → P a1 a2 a3 a4 a5 a6 a7 a8 := by
  intro n
  induction n with
  | zero => intro a1 a2 a3 a4 a5 a6 a7 a8 r h; cases h
  | succ n ih =>
    intro a1 a2 a3 a4 a5 a6 a7 a8 r h hE
    cases hb : b a1 a2 a3 a4 a5 a6 a7 a8 with
    | none => simp [it8, hb] at h
    | some res =>
      refine step a1 a2 a3 a4 a5 a6 a7 a8 res hb ?_
      cases res with
      | inl x =>
        simp [it8, hb] at h
        subst h
        exact hE
      | inr q =>
        simp [it8, hb] at h
        exact ih _ _ _ _ _ _ _ _ r h hE
def it9 {A1 A2 A3 A4 A5 A6 A7 A8 A9 X : Type} (b : A1 → A2 → A3 → A4 → A5 → A6 → A7 → A8 → A9 → Option (X ⊕ (A1 × A2 × A3 × A4 × A5 × A6 × A7 × A8 × A9))) : Nat → A1 → A2 → A3 → A4 → A5 → A6 → A7 → A8 → A9 → Option X
  | 0, _, _, _, _, _, _, _, _, _ => none
  | n + 1, a1, a2, a3, a4, a5, a6, a7, a8, a9 => match b a1 a2 a3 a4 a5 a6 a7 a8 a9 with
    | none => none
    | some (.inl x) => some x
    | some (.inr (a1, a2, a3, a4, a5, a6, a7, a8, a9)) => it9 b n a1 a2 a3 a4 a5 a6 a7 a8 a9
theorem it9_ind {A1 A2 A3 A4 A5 A6 A7 A8 A9 X : Type} {b : A1 → A2 → A3 → A4 → A5 → A6 → A7 → A8 → A9 → Option (X ⊕ (A1 × A2 × A3 × A4 × A5 × A6 × A7 × A8 × A9))} {E : X → Prop} {P : A1 → A2 → A3 → A4 → A5 → A6 → A7 → A8 → A9 → Prop} (step : ∀ (a1 : A1) (a2 : A2) (a3 : A3) (a4 : A4) (a5 : A5) (a6 : A6) (a7 : A7) (a8 : A8) (a9 : A9) (res : X ⊕ (A1 × A2 × A3 × A4 × A5 × A6 × A7 × A8 × A9)), b a1 a2 a3 a4 a5 a6 a7 a8 a9 = some res → Sum.elim E (fun q => match q with | (a1, a2, a3, a4, a5, a6, a7, a8, a9) => P a1 a2 a3 a4 a5 a6 a7 a8 a9) res → P a1 a2 a3 a4 a5 a6 a7 a8 a9) : ∀ (n : Nat) (a1 : A1) (a2 : A2) (a3 : A3) (a4 : A4) (a5 : A5) (a6 : A6) (a7 : A7) (a8 : A8) (a9 : A9) (r : X), it9 b n a1 a2 a3 a4 a5 a6 a7 a8 a9 = some r → E r → P a1 a2 a3 a4 a5 a6 a7 a8 a9 := by
  intro n
  induction n with
  | zero => intro a1 a2 a3 a4 a5 a6 a7 a8 a9 r h; cases h
  | succ n ih =>
    intro a1 a2 a3 a4 a5 a6 a7 a8 a9 r h hE
    cases hb : b a1 a2 a3 a4 a5 a6 a7 a8 a9 with
    | none => simp [it9, hb] at h
    | some res =>
      refine step a1 a2 a3 a4 a5 a6 a7 a8 a9 res hb ?_
      cases res with
      | inl x =>
        simp [it9, hb] at h
        subst h
        exact hE
      | inr q =>
        simp [it9, hb] at h
        exact ih _ _ _ _ _ _ _ _ _ r h hE
theorem a_iconst {F : FX} {G : GX} {Q : State → Prop} {nL pc q : Nat} {lv : List (Nat × Value)} {st : List Value} {S : SX} {cc : ByteArray} {own : String} {n : Int} {v : Int32} (C : Cx F G cc nL own) (hd : decode cc pc = .ok (.iconst n, 1)) (hq : pc + 1 = q) (hv : Int32.ofInt n = v) (kk : At F G Q nL q lv (.int v :: st) S) : At F G Q nL pc lv (st) S := by
  obtain ⟨p, l, e, R, s, m, args, below, meth, c, ce, sl⟩ := F
  obtain ⟨hx, hb, hml, hown, hts, hlk, hK, hSt⟩ := C
  subst hq
  intro H locs ls hP hD hS hl
  exact lv_iconst hx hb hd hv (kk H locs ls hP hD hS hl)
theorem a_bipush {F : FX} {G : GX} {Q : State → Prop} {nL pc q : Nat} {lv : List (Nat × Value)} {st : List Value} {S : SX} {cc : ByteArray} {own : String} {n : Int} {v : Int32} (C : Cx F G cc nL own) (hd : decode cc pc = .ok (.bipush n, 2)) (hq : pc + 2 = q) (hv : (Int8.ofInt n).toInt32 = v) (kk : At F G Q nL q lv (.int v :: st) S) : At F G Q nL pc lv (st) S := by
  obtain ⟨p, l, e, R, s, m, args, below, meth, c, ce, sl⟩ := F
  obtain ⟨hx, hb, hml, hown, hts, hlk, hK, hSt⟩ := C
  subst hq
  intro H locs ls hP hD hS hl
  exact lv_bipush hx hb hd hv (kk H locs ls hP hD hS hl)
theorem a_sipush {F : FX} {G : GX} {Q : State → Prop} {nL pc q : Nat} {lv : List (Nat × Value)} {st : List Value} {S : SX} {cc : ByteArray} {own : String} {n : Int} {v : Int32} (C : Cx F G cc nL own) (hd : decode cc pc = .ok (.sipush n, 3)) (hq : pc + 3 = q) (hv : (Int16.ofInt n).toInt32 = v) (kk : At F G Q nL q lv (.int v :: st) S) : At F G Q nL pc lv (st) S := by
  obtain ⟨p, l, e, R, s, m, args, below, meth, c, ce, sl⟩ := F
  obtain ⟨hx, hb, hml, hown, hts, hlk, hK, hSt⟩ := C
  subst hq
  intro H locs ls hP hD hS hl
  exact lv_sipush hx hb hd hv (kk H locs ls hP hD hS hl)
theorem a_lconst {F : FX} {G : GX} {Q : State → Prop} {nL pc q : Nat} {lv : List (Nat × Value)} {st : List Value} {S : SX} {cc : ByteArray} {own : String} {n : Fin 2} {v : Int64} (C : Cx F G cc nL own) (hd : decode cc pc = .ok (.lconst n, 1)) (hq : pc + 1 = q) (hv : Int64.ofNat (n : Nat) = v) (kk : At F G Q nL q lv (.long v :: st) S) : At F G Q nL pc lv (st) S := by
  obtain ⟨p, l, e, R, s, m, args, below, meth, c, ce, sl⟩ := F
  obtain ⟨hx, hb, hml, hown, hts, hlk, hK, hSt⟩ := C
  subst hq
  intro H locs ls hP hD hS hl
  exact lv_lconst hx hb hd hv (kk H locs ls hP hD hS hl)
theorem a_iload_n {F : FX} {G : GX} {Q : State → Prop} {nL pc q : Nat} {lv : List (Nat × Value)} {st : List Value} {S : SX} {cc : ByteArray} {own : String} {k : Fin 4} {i : Nat} {x : Int32} (C : Cx F G cc nL own) (hd : decode cc pc = .ok (.iload_n k, 1)) (hq : pc + 1 = q) (j : Nat) (hi : (k : Nat) = i) (hj : lv[j]? = some (i, .int x)) (kk : At F G Q nL q lv (.int x :: st) S) : At F G Q nL pc lv (st) S := by
  obtain ⟨p, l, e, R, s, m, args, below, meth, c, ce, sl⟩ := F
  obtain ⟨hx, hb, hml, hown, hts, hlk, hK, hSt⟩ := C
  subst hq
  intro H locs ls hP hD hS hl
  exact lv_iload_n hx hb hd hi (lv_at hl j hj) (kk H locs ls hP hD hS hl)
theorem a_iload {F : FX} {G : GX} {Q : State → Prop} {nL pc q : Nat} {lv : List (Nat × Value)} {st : List Value} {S : SX} {cc : ByteArray} {own : String} {i : Nat} {x : Int32} (C : Cx F G cc nL own) (hd : decode cc pc = .ok (.iload i, 2)) (hq : pc + 2 = q) (j : Nat) (hj : lv[j]? = some (i, .int x)) (kk : At F G Q nL q lv (.int x :: st) S) : At F G Q nL pc lv (st) S := by
  obtain ⟨p, l, e, R, s, m, args, below, meth, c, ce, sl⟩ := F
  obtain ⟨hx, hb, hml, hown, hts, hlk, hK, hSt⟩ := C
  subst hq
  intro H locs ls hP hD hS hl
  exact lv_iload hx hb hd (lv_at hl j hj) (kk H locs ls hP hD hS hl)
theorem a_istore_n {F : FX} {G : GX} {Q : State → Prop} {nL pc q : Nat} {lv : List (Nat × Value)} {st : List Value} {S : SX} {cc : ByteArray} {own : String} {k : Fin 4} {i : Nat} {x : Int32} {lv' : List (Nat × Value)} (C : Cx F G cc nL own) (hd : decode cc pc = .ok (.istore_n k, 1)) (hi : (k : Nat) = i) (hn : i < nL) (hl' : (i, Value.int x) :: lv.filter (fun q => !(q.1 == i) && !(q.1 + 1 == i && q.2.category == 2)) = lv') (hq : pc + 1 = q) (kk : At F G Q nL q lv' st S) : At F G Q nL pc lv (.int x :: st) S := by
  obtain ⟨p, l, e, R, s, m, args, below, meth, c, ce, sl⟩ := F
  obtain ⟨hx, hb, hml, hown, hts, hlk, hK, hSt⟩ := C
  subst hq
  intro H locs ls hP hD hS hl
  exact lv_istore_n hx hb hd hi hl hn hl' (fun ls' hl => kk H locs ls' hP hD hS hl)
theorem a_istore_nN {F : FX} {G : GX} {Q : State → Prop} {nL pc q : Nat} {lv : List (Nat × Value)} {st : List Value} {S : SX} {cc : ByteArray} {own : String} {k : Fin 4} {i : Nat} {x : Int32} {B : Type} {f : Int32 → Option B} {r : B} {lv' : Int32 → List (Nat × Value)} (C : Cx F G cc nL own) (hd : decode cc pc = .ok (.istore_n k, 1)) (hf : nm x f = some r) (hi : (k : Nat) = i) (hn : i < nL) (hl' : ∀ x : Int32, (i, Value.int x) :: lv.filter (fun q => !(q.1 == i) && !(q.1 + 1 == i && q.2.category == 2)) = lv' x) (hq : pc + 1 = q) (kk : ∀ x : Int32, f x = some r → At F G Q nL q (lv' x) st S) : At F G Q nL pc lv (.int x :: st) S := by
  obtain ⟨p, l, e, R, s, m, args, below, meth, c, ce, sl⟩ := F
  obtain ⟨hx, hb, hml, hown, hts, hlk, hK, hSt⟩ := C
  subst hq
  intro H locs ls hP hD hS hl
  exact lv_istore_n hx hb hd hi hl hn (hl' x) (fun ls' hl => kk x hf H locs ls' hP hD hS hl)
theorem a_istore {F : FX} {G : GX} {Q : State → Prop} {nL pc q : Nat} {lv : List (Nat × Value)} {st : List Value} {S : SX} {cc : ByteArray} {own : String} {i : Nat} {x : Int32} {lv' : List (Nat × Value)} (C : Cx F G cc nL own) (hd : decode cc pc = .ok (.istore i, 2)) (hn : i < nL) (hl' : (i, Value.int x) :: lv.filter (fun q => !(q.1 == i) && !(q.1 + 1 == i && q.2.category == 2)) = lv') (hq : pc + 2 = q) (kk : At F G Q nL q lv' st S) : At F G Q nL pc lv (.int x :: st) S := by
  obtain ⟨p, l, e, R, s, m, args, below, meth, c, ce, sl⟩ := F
  obtain ⟨hx, hb, hml, hown, hts, hlk, hK, hSt⟩ := C
  subst hq
  intro H locs ls hP hD hS hl
  exact lv_istore hx hb hd  hl hn hl' (fun ls' hl => kk H locs ls' hP hD hS hl)
theorem a_istoreN {F : FX} {G : GX} {Q : State → Prop} {nL pc q : Nat} {lv : List (Nat × Value)} {st : List Value} {S : SX} {cc : ByteArray} {own : String} {i : Nat} {x : Int32} {B : Type} {f : Int32 → Option B} {r : B} {lv' : Int32 → List (Nat × Value)} (C : Cx F G cc nL own) (hd : decode cc pc = .ok (.istore i, 2)) (hf : nm x f = some r) (hn : i < nL) (hl' : ∀ x : Int32, (i, Value.int x) :: lv.filter (fun q => !(q.1 == i) && !(q.1 + 1 == i && q.2.category == 2)) = lv' x) (hq : pc + 2 = q) (kk : ∀ x : Int32, f x = some r → At F G Q nL q (lv' x) st S) : At F G Q nL pc lv (.int x :: st) S := by
  obtain ⟨p, l, e, R, s, m, args, below, meth, c, ce, sl⟩ := F
  obtain ⟨hx, hb, hml, hown, hts, hlk, hK, hSt⟩ := C
  subst hq
  intro H locs ls hP hD hS hl
  exact lv_istore hx hb hd  hl hn (hl' x) (fun ls' hl => kk x hf H locs ls' hP hD hS hl)
theorem a_lload_n {F : FX} {G : GX} {Q : State → Prop} {nL pc q : Nat} {lv : List (Nat × Value)} {st : List Value} {S : SX} {cc : ByteArray} {own : String} {k : Fin 4} {i : Nat} {x : Int64} (C : Cx F G cc nL own) (hd : decode cc pc = .ok (.lload_n k, 1)) (hq : pc + 1 = q) (j : Nat) (hi : (k : Nat) = i) (hj : lv[j]? = some (i, .long x)) (kk : At F G Q nL q lv (.long x :: st) S) : At F G Q nL pc lv (st) S := by
  obtain ⟨p, l, e, R, s, m, args, below, meth, c, ce, sl⟩ := F
  obtain ⟨hx, hb, hml, hown, hts, hlk, hK, hSt⟩ := C
  subst hq
  intro H locs ls hP hD hS hl
  exact lv_lload_n hx hb hd hi (lv_at hl j hj) (kk H locs ls hP hD hS hl)
theorem a_lload {F : FX} {G : GX} {Q : State → Prop} {nL pc q : Nat} {lv : List (Nat × Value)} {st : List Value} {S : SX} {cc : ByteArray} {own : String} {i : Nat} {x : Int64} (C : Cx F G cc nL own) (hd : decode cc pc = .ok (.lload i, 2)) (hq : pc + 2 = q) (j : Nat) (hj : lv[j]? = some (i, .long x)) (kk : At F G Q nL q lv (.long x :: st) S) : At F G Q nL pc lv (st) S := by
  obtain ⟨p, l, e, R, s, m, args, below, meth, c, ce, sl⟩ := F
  obtain ⟨hx, hb, hml, hown, hts, hlk, hK, hSt⟩ := C
  subst hq
  intro H locs ls hP hD hS hl
  exact lv_lload hx hb hd (lv_at hl j hj) (kk H locs ls hP hD hS hl)
theorem a_lstore_n {F : FX} {G : GX} {Q : State → Prop} {nL pc q : Nat} {lv : List (Nat × Value)} {st : List Value} {S : SX} {cc : ByteArray} {own : String} {k : Fin 4} {i : Nat} {x : Int64} {lv' : List (Nat × Value)} (C : Cx F G cc nL own) (hd : decode cc pc = .ok (.lstore_n k, 1)) (hi : (k : Nat) = i) (hn : i + 1 < nL) (hl' : (i, Value.long x) :: lv.filter (fun q => !(q.1 == i) && (!(q.1 == i + 1) && !(q.1 + 1 == i && q.2.category == 2))) = lv') (hq : pc + 1 = q) (kk : At F G Q nL q lv' st S) : At F G Q nL pc lv (.long x :: st) S := by
  obtain ⟨p, l, e, R, s, m, args, below, meth, c, ce, sl⟩ := F
  obtain ⟨hx, hb, hml, hown, hts, hlk, hK, hSt⟩ := C
  subst hq
  intro H locs ls hP hD hS hl
  exact lv_lstore_n hx hb hd hi hl hn hl' (fun ls' hl => kk H locs ls' hP hD hS hl)
theorem a_lstore_nN {F : FX} {G : GX} {Q : State → Prop} {nL pc q : Nat} {lv : List (Nat × Value)} {st : List Value} {S : SX} {cc : ByteArray} {own : String} {k : Fin 4} {i : Nat} {x : Int64} {B : Type} {f : Int64 → Option B} {r : B} {lv' : Int64 → List (Nat × Value)} (C : Cx F G cc nL own) (hd : decode cc pc = .ok (.lstore_n k, 1)) (hf : nm x f = some r) (hi : (k : Nat) = i) (hn : i + 1 < nL) (hl' : ∀ x : Int64, (i, Value.long x) :: lv.filter (fun q => !(q.1 == i) && (!(q.1 == i + 1) && !(q.1 + 1 == i && q.2.category == 2))) = lv' x) (hq : pc + 1 = q) (kk : ∀ x : Int64, f x = some r → At F G Q nL q (lv' x) st S) : At F G Q nL pc lv (.long x :: st) S := by
  obtain ⟨p, l, e, R, s, m, args, below, meth, c, ce, sl⟩ := F
  obtain ⟨hx, hb, hml, hown, hts, hlk, hK, hSt⟩ := C
  subst hq
  intro H locs ls hP hD hS hl
  exact lv_lstore_n hx hb hd hi hl hn (hl' x) (fun ls' hl => kk x hf H locs ls' hP hD hS hl)
theorem a_lstore {F : FX} {G : GX} {Q : State → Prop} {nL pc q : Nat} {lv : List (Nat × Value)} {st : List Value} {S : SX} {cc : ByteArray} {own : String} {i : Nat} {x : Int64} {lv' : List (Nat × Value)} (C : Cx F G cc nL own) (hd : decode cc pc = .ok (.lstore i, 2)) (hn : i + 1 < nL) (hl' : (i, Value.long x) :: lv.filter (fun q => !(q.1 == i) && (!(q.1 == i + 1) && !(q.1 + 1 == i && q.2.category == 2))) = lv') (hq : pc + 2 = q) (kk : At F G Q nL q lv' st S) : At F G Q nL pc lv (.long x :: st) S := by
  obtain ⟨p, l, e, R, s, m, args, below, meth, c, ce, sl⟩ := F
  obtain ⟨hx, hb, hml, hown, hts, hlk, hK, hSt⟩ := C
  subst hq
  intro H locs ls hP hD hS hl
  exact lv_lstore hx hb hd  hl hn hl' (fun ls' hl => kk H locs ls' hP hD hS hl)
theorem a_lstoreN {F : FX} {G : GX} {Q : State → Prop} {nL pc q : Nat} {lv : List (Nat × Value)} {st : List Value} {S : SX} {cc : ByteArray} {own : String} {i : Nat} {x : Int64} {B : Type} {f : Int64 → Option B} {r : B} {lv' : Int64 → List (Nat × Value)} (C : Cx F G cc nL own) (hd : decode cc pc = .ok (.lstore i, 2)) (hf : nm x f = some r) (hn : i + 1 < nL) (hl' : ∀ x : Int64, (i, Value.long x) :: lv.filter (fun q => !(q.1 == i) && (!(q.1 == i + 1) && !(q.1 + 1 == i && q.2.category == 2))) = lv' x) (hq : pc + 2 = q) (kk : ∀ x : Int64, f x = some r → At F G Q nL q (lv' x) st S) : At F G Q nL pc lv (.long x :: st) S := by
  obtain ⟨p, l, e, R, s, m, args, below, meth, c, ce, sl⟩ := F
  obtain ⟨hx, hb, hml, hown, hts, hlk, hK, hSt⟩ := C
  subst hq
  intro H locs ls hP hD hS hl
  exact lv_lstore hx hb hd  hl hn (hl' x) (fun ls' hl => kk x hf H locs ls' hP hD hS hl)
theorem a_aload_n {F : FX} {G : GX} {Q : State → Prop} {nL pc q : Nat} {lv : List (Nat × Value)} {st : List Value} {S : SX} {cc : ByteArray} {own : String} {k : Fin 4} {i : Nat} {x : Nat} (C : Cx F G cc nL own) (hd : decode cc pc = .ok (.aload_n k, 1)) (hq : pc + 1 = q) (j : Nat) (hi : (k : Nat) = i) (hj : lv[j]? = some (i, .ref x)) (kk : At F G Q nL q lv (.ref x :: st) S) : At F G Q nL pc lv (st) S := by
  obtain ⟨p, l, e, R, s, m, args, below, meth, c, ce, sl⟩ := F
  obtain ⟨hx, hb, hml, hown, hts, hlk, hK, hSt⟩ := C
  subst hq
  intro H locs ls hP hD hS hl
  exact lv_aload_n hx hb hd hi (lv_at hl j hj) (kk H locs ls hP hD hS hl)
theorem a_aload {F : FX} {G : GX} {Q : State → Prop} {nL pc q : Nat} {lv : List (Nat × Value)} {st : List Value} {S : SX} {cc : ByteArray} {own : String} {i : Nat} {x : Nat} (C : Cx F G cc nL own) (hd : decode cc pc = .ok (.aload i, 2)) (hq : pc + 2 = q) (j : Nat) (hj : lv[j]? = some (i, .ref x)) (kk : At F G Q nL q lv (.ref x :: st) S) : At F G Q nL pc lv (st) S := by
  obtain ⟨p, l, e, R, s, m, args, below, meth, c, ce, sl⟩ := F
  obtain ⟨hx, hb, hml, hown, hts, hlk, hK, hSt⟩ := C
  subst hq
  intro H locs ls hP hD hS hl
  exact lv_aload hx hb hd (lv_at hl j hj) (kk H locs ls hP hD hS hl)
theorem a_astore_n {F : FX} {G : GX} {Q : State → Prop} {nL pc q : Nat} {lv : List (Nat × Value)} {st : List Value} {S : SX} {cc : ByteArray} {own : String} {k : Fin 4} {i : Nat} {x : Nat} {lv' : List (Nat × Value)} (C : Cx F G cc nL own) (hd : decode cc pc = .ok (.astore_n k, 1)) (hi : (k : Nat) = i) (hn : i < nL) (hl' : (i, Value.ref x) :: lv.filter (fun q => !(q.1 == i) && !(q.1 + 1 == i && q.2.category == 2)) = lv') (hq : pc + 1 = q) (kk : At F G Q nL q lv' st S) : At F G Q nL pc lv (.ref x :: st) S := by
  obtain ⟨p, l, e, R, s, m, args, below, meth, c, ce, sl⟩ := F
  obtain ⟨hx, hb, hml, hown, hts, hlk, hK, hSt⟩ := C
  subst hq
  intro H locs ls hP hD hS hl
  exact lv_astore_n hx hb hd hi hl hn hl' (fun ls' hl => kk H locs ls' hP hD hS hl)
theorem a_astore {F : FX} {G : GX} {Q : State → Prop} {nL pc q : Nat} {lv : List (Nat × Value)} {st : List Value} {S : SX} {cc : ByteArray} {own : String} {i : Nat} {x : Nat} {lv' : List (Nat × Value)} (C : Cx F G cc nL own) (hd : decode cc pc = .ok (.astore i, 2)) (hn : i < nL) (hl' : (i, Value.ref x) :: lv.filter (fun q => !(q.1 == i) && !(q.1 + 1 == i && q.2.category == 2)) = lv') (hq : pc + 2 = q) (kk : At F G Q nL q lv' st S) : At F G Q nL pc lv (.ref x :: st) S := by
  obtain ⟨p, l, e, R, s, m, args, below, meth, c, ce, sl⟩ := F
  obtain ⟨hx, hb, hml, hown, hts, hlk, hK, hSt⟩ := C
  subst hq
  intro H locs ls hP hD hS hl
  exact lv_astore hx hb hd  hl hn hl' (fun ls' hl => kk H locs ls' hP hD hS hl)
theorem a_iincN {F : FX} {G : GX} {Q : State → Prop} {nL pc q : Nat} {lv : List (Nat × Value)} {st : List Value} {S : SX} {cc : ByteArray} {own : String} {i k : Nat} {n : Int} {x y : Int32} {B : Type} {f : Int32 → Option B} {r : B} {lv' : Int32 → List (Nat × Value)} (C : Cx F G cc nL own) (hd : decode cc pc = .ok (.iinc i n, 3)) (hf : nm y f = some r) (hk : lv[k]? = some (i, .int x)) (hv : x + Int32.ofInt n = y) (hn : i < nL) (hl' : ∀ x : Int32, (i, Value.int x) :: lv.filter (fun q => !(q.1 == i) && !(q.1 + 1 == i && q.2.category == 2)) = lv' x) (hq : pc + 3 = q) (kk : ∀ x : Int32, f x = some r → At F G Q nL q (lv' x) st S) : At F G Q nL pc lv st S := by
  obtain ⟨p, l, e, R, s, m, args, below, meth, c, ce, sl⟩ := F
  obtain ⟨hx, hb, hml, hown, hts, hlk, hK, hSt⟩ := C
  subst hq
  intro H locs ls hP hD hS hl
  exact lv_iinc hx hb hd hl hk hv hn (hl' y) (fun ls' hl => kk y hf H locs ls' hP hD hS hl)
theorem a_iadd {F : FX} {G : GX} {Q : State → Prop} {nL pc q : Nat} {lv : List (Nat × Value)} {st : List Value} {S : SX} {cc : ByteArray} {own : String} {x y : Int32} (C : Cx F G cc nL own) (hd : decode cc pc = .ok (.iadd, 1)) (hq : pc + 1 = q) (kk : At F G Q nL q lv (.int (x + y) :: st) S) : At F G Q nL pc lv (.int y :: .int x :: st) S := by
  obtain ⟨p, l, e, R, s, m, args, below, meth, c, ce, sl⟩ := F
  obtain ⟨hx, hb, hml, hown, hts, hlk, hK, hSt⟩ := C
  subst hq
  intro H locs ls hP hD hS hl
  exact lv_iadd hx hb hd (kk H locs ls hP hD hS hl)
theorem a_isub {F : FX} {G : GX} {Q : State → Prop} {nL pc q : Nat} {lv : List (Nat × Value)} {st : List Value} {S : SX} {cc : ByteArray} {own : String} {x y : Int32} (C : Cx F G cc nL own) (hd : decode cc pc = .ok (.isub, 1)) (hq : pc + 1 = q) (kk : At F G Q nL q lv (.int (x - y) :: st) S) : At F G Q nL pc lv (.int y :: .int x :: st) S := by
  obtain ⟨p, l, e, R, s, m, args, below, meth, c, ce, sl⟩ := F
  obtain ⟨hx, hb, hml, hown, hts, hlk, hK, hSt⟩ := C
  subst hq
  intro H locs ls hP hD hS hl
  exact lv_isub hx hb hd (kk H locs ls hP hD hS hl)
theorem a_imul {F : FX} {G : GX} {Q : State → Prop} {nL pc q : Nat} {lv : List (Nat × Value)} {st : List Value} {S : SX} {cc : ByteArray} {own : String} {x y : Int32} (C : Cx F G cc nL own) (hd : decode cc pc = .ok (.imul, 1)) (hq : pc + 1 = q) (kk : At F G Q nL q lv (.int (x * y) :: st) S) : At F G Q nL pc lv (.int y :: .int x :: st) S := by
  obtain ⟨p, l, e, R, s, m, args, below, meth, c, ce, sl⟩ := F
  obtain ⟨hx, hb, hml, hown, hts, hlk, hK, hSt⟩ := C
  subst hq
  intro H locs ls hP hD hS hl
  exact lv_imul hx hb hd (kk H locs ls hP hD hS hl)
theorem a_iand {F : FX} {G : GX} {Q : State → Prop} {nL pc q : Nat} {lv : List (Nat × Value)} {st : List Value} {S : SX} {cc : ByteArray} {own : String} {x y : Int32} (C : Cx F G cc nL own) (hd : decode cc pc = .ok (.iand, 1)) (hq : pc + 1 = q) (kk : At F G Q nL q lv (.int (x &&& y) :: st) S) : At F G Q nL pc lv (.int y :: .int x :: st) S := by
  obtain ⟨p, l, e, R, s, m, args, below, meth, c, ce, sl⟩ := F
  obtain ⟨hx, hb, hml, hown, hts, hlk, hK, hSt⟩ := C
  subst hq
  intro H locs ls hP hD hS hl
  exact lv_iand hx hb hd (kk H locs ls hP hD hS hl)
theorem a_ior {F : FX} {G : GX} {Q : State → Prop} {nL pc q : Nat} {lv : List (Nat × Value)} {st : List Value} {S : SX} {cc : ByteArray} {own : String} {x y : Int32} (C : Cx F G cc nL own) (hd : decode cc pc = .ok (.ior, 1)) (hq : pc + 1 = q) (kk : At F G Q nL q lv (.int (x ||| y) :: st) S) : At F G Q nL pc lv (.int y :: .int x :: st) S := by
  obtain ⟨p, l, e, R, s, m, args, below, meth, c, ce, sl⟩ := F
  obtain ⟨hx, hb, hml, hown, hts, hlk, hK, hSt⟩ := C
  subst hq
  intro H locs ls hP hD hS hl
  exact lv_ior hx hb hd (kk H locs ls hP hD hS hl)
theorem a_ixor {F : FX} {G : GX} {Q : State → Prop} {nL pc q : Nat} {lv : List (Nat × Value)} {st : List Value} {S : SX} {cc : ByteArray} {own : String} {x y : Int32} (C : Cx F G cc nL own) (hd : decode cc pc = .ok (.ixor, 1)) (hq : pc + 1 = q) (kk : At F G Q nL q lv (.int (x ^^^ y) :: st) S) : At F G Q nL pc lv (.int y :: .int x :: st) S := by
  obtain ⟨p, l, e, R, s, m, args, below, meth, c, ce, sl⟩ := F
  obtain ⟨hx, hb, hml, hown, hts, hlk, hK, hSt⟩ := C
  subst hq
  intro H locs ls hP hD hS hl
  exact lv_ixor hx hb hd (kk H locs ls hP hD hS hl)
theorem a_ishl {F : FX} {G : GX} {Q : State → Prop} {nL pc q : Nat} {lv : List (Nat × Value)} {st : List Value} {S : SX} {cc : ByteArray} {own : String} {x y : Int32} (C : Cx F G cc nL own) (hd : decode cc pc = .ok (.ishl, 1)) (hq : pc + 1 = q) (kk : At F G Q nL q lv (.int (x <<< (y &&& 31)) :: st) S) : At F G Q nL pc lv (.int y :: .int x :: st) S := by
  obtain ⟨p, l, e, R, s, m, args, below, meth, c, ce, sl⟩ := F
  obtain ⟨hx, hb, hml, hown, hts, hlk, hK, hSt⟩ := C
  subst hq
  intro H locs ls hP hD hS hl
  exact lv_ishl hx hb hd (kk H locs ls hP hD hS hl)
theorem a_ishr {F : FX} {G : GX} {Q : State → Prop} {nL pc q : Nat} {lv : List (Nat × Value)} {st : List Value} {S : SX} {cc : ByteArray} {own : String} {x y : Int32} (C : Cx F G cc nL own) (hd : decode cc pc = .ok (.ishr, 1)) (hq : pc + 1 = q) (kk : At F G Q nL q lv (.int (x >>> (y &&& 31)) :: st) S) : At F G Q nL pc lv (.int y :: .int x :: st) S := by
  obtain ⟨p, l, e, R, s, m, args, below, meth, c, ce, sl⟩ := F
  obtain ⟨hx, hb, hml, hown, hts, hlk, hK, hSt⟩ := C
  subst hq
  intro H locs ls hP hD hS hl
  exact lv_ishr hx hb hd (kk H locs ls hP hD hS hl)
theorem a_ladd {F : FX} {G : GX} {Q : State → Prop} {nL pc q : Nat} {lv : List (Nat × Value)} {st : List Value} {S : SX} {cc : ByteArray} {own : String} {x y : Int64} (C : Cx F G cc nL own) (hd : decode cc pc = .ok (.ladd, 1)) (hq : pc + 1 = q) (kk : At F G Q nL q lv (.long (x + y) :: st) S) : At F G Q nL pc lv (.long y :: .long x :: st) S := by
  obtain ⟨p, l, e, R, s, m, args, below, meth, c, ce, sl⟩ := F
  obtain ⟨hx, hb, hml, hown, hts, hlk, hK, hSt⟩ := C
  subst hq
  intro H locs ls hP hD hS hl
  exact lv_ladd hx hb hd (kk H locs ls hP hD hS hl)
theorem a_lsub {F : FX} {G : GX} {Q : State → Prop} {nL pc q : Nat} {lv : List (Nat × Value)} {st : List Value} {S : SX} {cc : ByteArray} {own : String} {x y : Int64} (C : Cx F G cc nL own) (hd : decode cc pc = .ok (.lsub, 1)) (hq : pc + 1 = q) (kk : At F G Q nL q lv (.long (x - y) :: st) S) : At F G Q nL pc lv (.long y :: .long x :: st) S := by
  obtain ⟨p, l, e, R, s, m, args, below, meth, c, ce, sl⟩ := F
  obtain ⟨hx, hb, hml, hown, hts, hlk, hK, hSt⟩ := C
  subst hq
  intro H locs ls hP hD hS hl
  exact lv_lsub hx hb hd (kk H locs ls hP hD hS hl)
theorem a_lmul {F : FX} {G : GX} {Q : State → Prop} {nL pc q : Nat} {lv : List (Nat × Value)} {st : List Value} {S : SX} {cc : ByteArray} {own : String} {x y : Int64} (C : Cx F G cc nL own) (hd : decode cc pc = .ok (.lmul, 1)) (hq : pc + 1 = q) (kk : At F G Q nL q lv (.long (x * y) :: st) S) : At F G Q nL pc lv (.long y :: .long x :: st) S := by
  obtain ⟨p, l, e, R, s, m, args, below, meth, c, ce, sl⟩ := F
  obtain ⟨hx, hb, hml, hown, hts, hlk, hK, hSt⟩ := C
  subst hq
  intro H locs ls hP hD hS hl
  exact lv_lmul hx hb hd (kk H locs ls hP hD hS hl)
theorem a_land {F : FX} {G : GX} {Q : State → Prop} {nL pc q : Nat} {lv : List (Nat × Value)} {st : List Value} {S : SX} {cc : ByteArray} {own : String} {x y : Int64} (C : Cx F G cc nL own) (hd : decode cc pc = .ok (.land, 1)) (hq : pc + 1 = q) (kk : At F G Q nL q lv (.long (x &&& y) :: st) S) : At F G Q nL pc lv (.long y :: .long x :: st) S := by
  obtain ⟨p, l, e, R, s, m, args, below, meth, c, ce, sl⟩ := F
  obtain ⟨hx, hb, hml, hown, hts, hlk, hK, hSt⟩ := C
  subst hq
  intro H locs ls hP hD hS hl
  exact lv_land hx hb hd (kk H locs ls hP hD hS hl)
theorem a_lor {F : FX} {G : GX} {Q : State → Prop} {nL pc q : Nat} {lv : List (Nat × Value)} {st : List Value} {S : SX} {cc : ByteArray} {own : String} {x y : Int64} (C : Cx F G cc nL own) (hd : decode cc pc = .ok (.lor, 1)) (hq : pc + 1 = q) (kk : At F G Q nL q lv (.long (x ||| y) :: st) S) : At F G Q nL pc lv (.long y :: .long x :: st) S := by
  obtain ⟨p, l, e, R, s, m, args, below, meth, c, ce, sl⟩ := F
  obtain ⟨hx, hb, hml, hown, hts, hlk, hK, hSt⟩ := C
  subst hq
  intro H locs ls hP hD hS hl
  exact lv_lor hx hb hd (kk H locs ls hP hD hS hl)
theorem a_idiv {F : FX} {G : GX} {Q : State → Prop} {nL pc q : Nat} {lv : List (Nat × Value)} {st : List Value} {S : SX} {cc : ByteArray} {own : String} {x y : Int32} (C : Cx F G cc nL own) (hd : decode cc pc = .ok (.idiv, 1)) (hq : pc + 1 = q) (hne : ¬ y = 0) (kk : At F G Q nL q lv (.int (x / y) :: st) S) : At F G Q nL pc lv (.int y :: .int x :: st) S := by
  obtain ⟨p, l, e, R, s, m, args, below, meth, c, ce, sl⟩ := F
  obtain ⟨hx, hb, hml, hown, hts, hlk, hK, hSt⟩ := C
  subst hq
  intro H locs ls hP hD hS hl
  exact lv_idiv hx hb hd hne (kk H locs ls hP hD hS hl)
theorem a_irem {F : FX} {G : GX} {Q : State → Prop} {nL pc q : Nat} {lv : List (Nat × Value)} {st : List Value} {S : SX} {cc : ByteArray} {own : String} {x y : Int32} (C : Cx F G cc nL own) (hd : decode cc pc = .ok (.irem, 1)) (hq : pc + 1 = q) (hne : ¬ y = 0) (kk : At F G Q nL q lv (.int (x - x / y * y) :: st) S) : At F G Q nL pc lv (.int y :: .int x :: st) S := by
  obtain ⟨p, l, e, R, s, m, args, below, meth, c, ce, sl⟩ := F
  obtain ⟨hx, hb, hml, hown, hts, hlk, hK, hSt⟩ := C
  subst hq
  intro H locs ls hP hD hS hl
  exact lv_irem hx hb hd hne (kk H locs ls hP hD hS hl)
theorem a_ineg {F : FX} {G : GX} {Q : State → Prop} {nL pc q : Nat} {lv : List (Nat × Value)} {st : List Value} {S : SX} {cc : ByteArray} {own : String} {x : Int32} (C : Cx F G cc nL own) (hd : decode cc pc = .ok (.ineg, 1)) (hq : pc + 1 = q) (kk : At F G Q nL q lv (.int (-x) :: st) S) : At F G Q nL pc lv (.int x :: st) S := by
  obtain ⟨p, l, e, R, s, m, args, below, meth, c, ce, sl⟩ := F
  obtain ⟨hx, hb, hml, hown, hts, hlk, hK, hSt⟩ := C
  subst hq
  intro H locs ls hP hD hS hl
  exact lv_ineg hx hb hd (kk H locs ls hP hD hS hl)
theorem a_iushr {F : FX} {G : GX} {Q : State → Prop} {nL pc q : Nat} {lv : List (Nat × Value)} {st : List Value} {S : SX} {cc : ByteArray} {own : String} {x y : Int32} (C : Cx F G cc nL own) (hd : decode cc pc = .ok (.iushr, 1)) (hq : pc + 1 = q) (kk : At F G Q nL q lv (.int ((x.toUInt32 >>> (y.toUInt32 &&& Int32.toUInt32 31)).toInt32) :: st) S) : At F G Q nL pc lv (.int y :: .int x :: st) S := by
  obtain ⟨p, l, e, R, s, m, args, below, meth, c, ce, sl⟩ := F
  obtain ⟨hx, hb, hml, hown, hts, hlk, hK, hSt⟩ := C
  subst hq
  intro H locs ls hP hD hS hl
  exact lv_iushr hx hb hd rfl (kk H locs ls hP hD hS hl)
theorem a_lushr {F : FX} {G : GX} {Q : State → Prop} {nL pc q : Nat} {lv : List (Nat × Value)} {st : List Value} {S : SX} {cc : ByteArray} {own : String} {x : Int64} {y : Int32} (C : Cx F G cc nL own) (hd : decode cc pc = .ok (.lushr, 1)) (hq : pc + 1 = q) (kk : At F G Q nL q lv (.long ((x.toUInt64 >>> (y.toInt64.toUInt64 &&& Int64.toUInt64 63)).toInt64) :: st) S) : At F G Q nL pc lv (.int y :: .long x :: st) S := by
  obtain ⟨p, l, e, R, s, m, args, below, meth, c, ce, sl⟩ := F
  obtain ⟨hx, hb, hml, hown, hts, hlk, hK, hSt⟩ := C
  subst hq
  intro H locs ls hP hD hS hl
  exact lv_lushr hx hb hd rfl (kk H locs ls hP hD hS hl)
theorem a_lshl {F : FX} {G : GX} {Q : State → Prop} {nL pc q : Nat} {lv : List (Nat × Value)} {st : List Value} {S : SX} {cc : ByteArray} {own : String} {x : Int64} {y : Int32} (C : Cx F G cc nL own) (hd : decode cc pc = .ok (.lshl, 1)) (hq : pc + 1 = q) (kk : At F G Q nL q lv (.long (x <<< (y.toInt64 &&& 63)) :: st) S) : At F G Q nL pc lv (.int y :: .long x :: st) S := by
  obtain ⟨p, l, e, R, s, m, args, below, meth, c, ce, sl⟩ := F
  obtain ⟨hx, hb, hml, hown, hts, hlk, hK, hSt⟩ := C
  subst hq
  intro H locs ls hP hD hS hl
  exact lv_lshl hx hb hd rfl (kk H locs ls hP hD hS hl)
theorem a_lshr {F : FX} {G : GX} {Q : State → Prop} {nL pc q : Nat} {lv : List (Nat × Value)} {st : List Value} {S : SX} {cc : ByteArray} {own : String} {x : Int64} {y : Int32} (C : Cx F G cc nL own) (hd : decode cc pc = .ok (.lshr, 1)) (hq : pc + 1 = q) (kk : At F G Q nL q lv (.long (x >>> (y.toInt64 &&& 63)) :: st) S) : At F G Q nL pc lv (.int y :: .long x :: st) S := by
  obtain ⟨p, l, e, R, s, m, args, below, meth, c, ce, sl⟩ := F
  obtain ⟨hx, hb, hml, hown, hts, hlk, hK, hSt⟩ := C
  subst hq
  intro H locs ls hP hD hS hl
  exact lv_lshr hx hb hd rfl (kk H locs ls hP hD hS hl)
theorem a_i2l {F : FX} {G : GX} {Q : State → Prop} {nL pc q : Nat} {lv : List (Nat × Value)} {st : List Value} {S : SX} {cc : ByteArray} {own : String} {x : Int32} (C : Cx F G cc nL own) (hd : decode cc pc = .ok (.i2l, 1)) (hq : pc + 1 = q) (kk : At F G Q nL q lv (.long (x.toInt64) :: st) S) : At F G Q nL pc lv (.int x :: st) S := by
  obtain ⟨p, l, e, R, s, m, args, below, meth, c, ce, sl⟩ := F
  obtain ⟨hx, hb, hml, hown, hts, hlk, hK, hSt⟩ := C
  subst hq
  intro H locs ls hP hD hS hl
  exact lv_i2l hx hb hd rfl (kk H locs ls hP hD hS hl)
theorem a_l2i {F : FX} {G : GX} {Q : State → Prop} {nL pc q : Nat} {lv : List (Nat × Value)} {st : List Value} {S : SX} {cc : ByteArray} {own : String} {x : Int64} (C : Cx F G cc nL own) (hd : decode cc pc = .ok (.l2i, 1)) (hq : pc + 1 = q) (kk : At F G Q nL q lv (.int (x.toInt32) :: st) S) : At F G Q nL pc lv (.long x :: st) S := by
  obtain ⟨p, l, e, R, s, m, args, below, meth, c, ce, sl⟩ := F
  obtain ⟨hx, hb, hml, hown, hts, hlk, hK, hSt⟩ := C
  subst hq
  intro H locs ls hP hD hS hl
  exact lv_l2i hx hb hd rfl (kk H locs ls hP hD hS hl)
theorem a_i2b {F : FX} {G : GX} {Q : State → Prop} {nL pc q : Nat} {lv : List (Nat × Value)} {st : List Value} {S : SX} {cc : ByteArray} {own : String} {x : Int32} (C : Cx F G cc nL own) (hd : decode cc pc = .ok (.i2b, 1)) (hq : pc + 1 = q) (kk : At F G Q nL q lv (.int (x.toInt8.toInt32) :: st) S) : At F G Q nL pc lv (.int x :: st) S := by
  obtain ⟨p, l, e, R, s, m, args, below, meth, c, ce, sl⟩ := F
  obtain ⟨hx, hb, hml, hown, hts, hlk, hK, hSt⟩ := C
  subst hq
  intro H locs ls hP hD hS hl
  exact lv_i2b hx hb hd rfl (kk H locs ls hP hD hS hl)
theorem a_i2s {F : FX} {G : GX} {Q : State → Prop} {nL pc q : Nat} {lv : List (Nat × Value)} {st : List Value} {S : SX} {cc : ByteArray} {own : String} {x : Int32} (C : Cx F G cc nL own) (hd : decode cc pc = .ok (.i2s, 1)) (hq : pc + 1 = q) (kk : At F G Q nL q lv (.int (x.toInt16.toInt32) :: st) S) : At F G Q nL pc lv (.int x :: st) S := by
  obtain ⟨p, l, e, R, s, m, args, below, meth, c, ce, sl⟩ := F
  obtain ⟨hx, hb, hml, hown, hts, hlk, hK, hSt⟩ := C
  subst hq
  intro H locs ls hP hD hS hl
  exact lv_i2s hx hb hd rfl (kk H locs ls hP hD hS hl)
theorem a_i2c {F : FX} {G : GX} {Q : State → Prop} {nL pc q : Nat} {lv : List (Nat × Value)} {st : List Value} {S : SX} {cc : ByteArray} {own : String} {x : Int32} (C : Cx F G cc nL own) (hd : decode cc pc = .ok (.i2c, 1)) (hq : pc + 1 = q) (kk : At F G Q nL q lv (.int ((x.toUInt32 % 65536).toInt32) :: st) S) : At F G Q nL pc lv (.int x :: st) S := by
  obtain ⟨p, l, e, R, s, m, args, below, meth, c, ce, sl⟩ := F
  obtain ⟨hx, hb, hml, hown, hts, hlk, hK, hSt⟩ := C
  subst hq
  intro H locs ls hP hD hS hl
  exact lv_i2c hx hb hd rfl (kk H locs ls hP hD hS hl)
theorem a_dup {F : FX} {G : GX} {Q : State → Prop} {nL pc q : Nat} {lv : List (Nat × Value)} {st : List Value} {S : SX} {cc : ByteArray} {own : String} {va : Value} (C : Cx F G cc nL own) (hd : decode cc pc = .ok (.dup, 1)) (hq : pc + 1 = q) (hva : va.category = 1) (kk : At F G Q nL q lv (va :: va :: st) S) : At F G Q nL pc lv (va :: st) S := by
  obtain ⟨p, l, e, R, s, m, args, below, meth, c, ce, sl⟩ := F
  obtain ⟨hx, hb, hml, hown, hts, hlk, hK, hSt⟩ := C
  subst hq
  intro H locs ls hP hD hS hl
  exact lv_dup hx hb hd hva (kk H locs ls hP hD hS hl)
theorem a_pop {F : FX} {G : GX} {Q : State → Prop} {nL pc q : Nat} {lv : List (Nat × Value)} {st : List Value} {S : SX} {cc : ByteArray} {own : String} {va : Value} (C : Cx F G cc nL own) (hd : decode cc pc = .ok (.pop, 1)) (hq : pc + 1 = q) (hva : va.category = 1) (kk : At F G Q nL q lv (st) S) : At F G Q nL pc lv (va :: st) S := by
  obtain ⟨p, l, e, R, s, m, args, below, meth, c, ce, sl⟩ := F
  obtain ⟨hx, hb, hml, hown, hts, hlk, hK, hSt⟩ := C
  subst hq
  intro H locs ls hP hD hS hl
  exact lv_pop hx hb hd hva (kk H locs ls hP hD hS hl)
theorem a_dup2 {F : FX} {G : GX} {Q : State → Prop} {nL pc q : Nat} {lv : List (Nat × Value)} {st : List Value} {S : SX} {cc : ByteArray} {own : String} {va vb : Value} (C : Cx F G cc nL own) (hd : decode cc pc = .ok (.dup2, 1)) (hq : pc + 1 = q) (hva : va.category = 1) (hvb : vb.category = 1) (kk : At F G Q nL q lv (va :: vb :: va :: vb :: st) S) : At F G Q nL pc lv (va :: vb :: st) S := by
  obtain ⟨p, l, e, R, s, m, args, below, meth, c, ce, sl⟩ := F
  obtain ⟨hx, hb, hml, hown, hts, hlk, hK, hSt⟩ := C
  subst hq
  intro H locs ls hP hD hS hl
  exact lv_dup2_11 hx hb hd hva hvb (kk H locs ls hP hD hS hl)
theorem a_lcmp {F : FX} {G : GX} {Q : State → Prop} {nL pc q : Nat} {lv : List (Nat × Value)} {st : List Value} {S : SX} {cc : ByteArray} {own : String} {x y : Int64} (C : Cx F G cc nL own) (hd : decode cc pc = .ok (.lcmp, 1)) (hq : pc + 1 = q) (kk : At F G Q nL q lv (.int (lg_cmp x y) :: st) S) : At F G Q nL pc lv (.long y :: .long x :: st) S := by
  obtain ⟨p, l, e, R, s, m, args, below, meth, c, ce, sl⟩ := F
  obtain ⟨hx, hb, hml, hown, hts, hlk, hK, hSt⟩ := C
  subst hq
  intro H locs ls hP hD hS hl
  exact W.lcmp hx hb hd (kk H locs ls hP hD hS hl)
theorem a_ldc {F : FX} {G : GX} {Q : State → Prop} {nL pc q : Nat} {lv : List (Nat × Value)} {st : List Value} {S : SX} {cc : ByteArray} {own : String} {index : Nat} {v : Int32} (C : Cx F G cc nL own) (hd : decode cc pc = .ok (.ldc index, 2)) (hq : pc + 2 = q) (hc : Cond.constant own index v ∈ wsG) (kk : At F G Q nL q lv (.int v :: st) S) : At F G Q nL pc lv (st) S := by
  obtain ⟨p, l, e, R, s, m, args, below, meth, c, ce, sl⟩ := F
  obtain ⟨hx, hb, hml, hown, hts, hlk, hK, hSt⟩ := C
  subst hq
  intro H locs ls hP hD hS hl
  exact lv_ldc hx hb hown (hts _ hc) hd (kk H locs ls hP hD hS hl)
theorem a_ldcw {F : FX} {G : GX} {Q : State → Prop} {nL pc q : Nat} {lv : List (Nat × Value)} {st : List Value} {S : SX} {cc : ByteArray} {own : String} {index : Nat} {v : Int32} (C : Cx F G cc nL own) (hd : decode cc pc = .ok (.ldc_w index, 3)) (hq : pc + 3 = q) (hc : Cond.constant own index v ∈ wsG) (kk : At F G Q nL q lv (.int v :: st) S) : At F G Q nL pc lv (st) S := by
  obtain ⟨p, l, e, R, s, m, args, below, meth, c, ce, sl⟩ := F
  obtain ⟨hx, hb, hml, hown, hts, hlk, hK, hSt⟩ := C
  subst hq
  intro H locs ls hP hD hS hl
  exact lv_ldcw hx hb hown (hts _ hc) hd (kk H locs ls hP hD hS hl)
theorem a_ldc2 {F : FX} {G : GX} {Q : State → Prop} {nL pc q : Nat} {lv : List (Nat × Value)} {st : List Value} {S : SX} {cc : ByteArray} {own : String} {index : Nat} {v : Int64} (C : Cx F G cc nL own) (hd : decode cc pc = .ok (.ldc2_w index, 3)) (hq : pc + 3 = q) (hc : Cond.constantLong own index v ∈ wsG) (kk : At F G Q nL q lv (.long v :: st) S) : At F G Q nL pc lv (st) S := by
  obtain ⟨p, l, e, R, s, m, args, below, meth, c, ce, sl⟩ := F
  obtain ⟨hx, hb, hml, hown, hts, hlk, hK, hSt⟩ := C
  subst hq
  intro H locs ls hP hD hS hl
  exact lv_ldc2 hx hb hown (hts _ hc) hd (kk H locs ls hP hD hS hl)
theorem a_if_eq {F : FX} {G : GX} {Q : State → Prop} {nL pc q : Nat} {lv : List (Nat × Value)} {st : List Value} {S : SX} {cc : ByteArray} {own : String} {x : Int32} {off : Int} {tgt : Nat} {B : Type} {a b : Option B} {r : B} (C : Cx F G cc nL own) (hd : decode cc pc = .ok (.ifCond .eq off, 3)) (hf : (if x = 0 then a else b) = some r) (ht : (pc : Int) + off = (tgt : Int)) (hq : pc + 3 = q) (kt : a = some r → At F G Q nL tgt lv st S) (kf : b = some r → At F G Q nL q lv st S) : At F G Q nL pc lv (.int x :: st) S := by
  obtain ⟨p, l, e, R, s, m, args, below, meth, c, ce, sl⟩ := F
  obtain ⟨hx, hb, hml, hown, hts, hlk, hK, hSt⟩ := C
  subst hq
  intro H locs ls hP hD hS hl
  exact lv_if_eq hx hb hd ht (fun hc => kt (by rw [if_pos hc] at hf; exact hf) H locs ls hP hD hS hl) (fun hc => kf (by rw [if_neg hc] at hf; exact hf) H locs ls hP hD hS hl)
theorem a_icmp_eq {F : FX} {G : GX} {Q : State → Prop} {nL pc q : Nat} {lv : List (Nat × Value)} {st : List Value} {S : SX} {cc : ByteArray} {own : String} {x y : Int32} {off : Int} {tgt : Nat} {B : Type} {a b : Option B} {r : B} (C : Cx F G cc nL own) (hd : decode cc pc = .ok (.if_icmp .eq off, 3)) (hf : (if x = y then a else b) = some r) (ht : (pc : Int) + off = (tgt : Int)) (hq : pc + 3 = q) (kt : a = some r → At F G Q nL tgt lv st S) (kf : b = some r → At F G Q nL q lv st S) : At F G Q nL pc lv (.int y :: .int x :: st) S := by
  obtain ⟨p, l, e, R, s, m, args, below, meth, c, ce, sl⟩ := F
  obtain ⟨hx, hb, hml, hown, hts, hlk, hK, hSt⟩ := C
  subst hq
  intro H locs ls hP hD hS hl
  exact lv_icmp_eq hx hb hd ht (fun hc => kt (by rw [if_pos hc] at hf; exact hf) H locs ls hP hD hS hl) (fun hc => kf (by rw [if_neg hc] at hf; exact hf) H locs ls hP hD hS hl)
theorem a_if_ne {F : FX} {G : GX} {Q : State → Prop} {nL pc q : Nat} {lv : List (Nat × Value)} {st : List Value} {S : SX} {cc : ByteArray} {own : String} {x : Int32} {off : Int} {tgt : Nat} {B : Type} {a b : Option B} {r : B} (C : Cx F G cc nL own) (hd : decode cc pc = .ok (.ifCond .ne off, 3)) (hf : (if x = 0 then b else a) = some r) (ht : (pc : Int) + off = (tgt : Int)) (hq : pc + 3 = q) (kt : a = some r → At F G Q nL tgt lv st S) (kf : b = some r → At F G Q nL q lv st S) : At F G Q nL pc lv (.int x :: st) S := by
  obtain ⟨p, l, e, R, s, m, args, below, meth, c, ce, sl⟩ := F
  obtain ⟨hx, hb, hml, hown, hts, hlk, hK, hSt⟩ := C
  subst hq
  intro H locs ls hP hD hS hl
  exact lv_if_ne hx hb hd ht (fun hc => kt (by rw [if_neg hc] at hf; exact hf) H locs ls hP hD hS hl) (fun hc => kf (by rw [if_pos hc] at hf; exact hf) H locs ls hP hD hS hl)
theorem a_icmp_ne {F : FX} {G : GX} {Q : State → Prop} {nL pc q : Nat} {lv : List (Nat × Value)} {st : List Value} {S : SX} {cc : ByteArray} {own : String} {x y : Int32} {off : Int} {tgt : Nat} {B : Type} {a b : Option B} {r : B} (C : Cx F G cc nL own) (hd : decode cc pc = .ok (.if_icmp .ne off, 3)) (hf : (if x = y then b else a) = some r) (ht : (pc : Int) + off = (tgt : Int)) (hq : pc + 3 = q) (kt : a = some r → At F G Q nL tgt lv st S) (kf : b = some r → At F G Q nL q lv st S) : At F G Q nL pc lv (.int y :: .int x :: st) S := by
  obtain ⟨p, l, e, R, s, m, args, below, meth, c, ce, sl⟩ := F
  obtain ⟨hx, hb, hml, hown, hts, hlk, hK, hSt⟩ := C
  subst hq
  intro H locs ls hP hD hS hl
  exact lv_icmp_ne hx hb hd ht (fun hc => kt (by rw [if_neg hc] at hf; exact hf) H locs ls hP hD hS hl) (fun hc => kf (by rw [if_pos hc] at hf; exact hf) H locs ls hP hD hS hl)
theorem a_if_lt {F : FX} {G : GX} {Q : State → Prop} {nL pc q : Nat} {lv : List (Nat × Value)} {st : List Value} {S : SX} {cc : ByteArray} {own : String} {x : Int32} {off : Int} {tgt : Nat} {B : Type} {a b : Option B} {r : B} (C : Cx F G cc nL own) (hd : decode cc pc = .ok (.ifCond .lt off, 3)) (hf : (if x < 0 then a else b) = some r) (ht : (pc : Int) + off = (tgt : Int)) (hq : pc + 3 = q) (kt : a = some r → At F G Q nL tgt lv st S) (kf : b = some r → At F G Q nL q lv st S) : At F G Q nL pc lv (.int x :: st) S := by
  obtain ⟨p, l, e, R, s, m, args, below, meth, c, ce, sl⟩ := F
  obtain ⟨hx, hb, hml, hown, hts, hlk, hK, hSt⟩ := C
  subst hq
  intro H locs ls hP hD hS hl
  exact lv_if_lt hx hb hd ht (fun hc => kt (by rw [if_pos hc] at hf; exact hf) H locs ls hP hD hS hl) (fun hc => kf (by rw [if_neg hc] at hf; exact hf) H locs ls hP hD hS hl)
theorem a_icmp_lt {F : FX} {G : GX} {Q : State → Prop} {nL pc q : Nat} {lv : List (Nat × Value)} {st : List Value} {S : SX} {cc : ByteArray} {own : String} {x y : Int32} {off : Int} {tgt : Nat} {B : Type} {a b : Option B} {r : B} (C : Cx F G cc nL own) (hd : decode cc pc = .ok (.if_icmp .lt off, 3)) (hf : (if x < y then a else b) = some r) (ht : (pc : Int) + off = (tgt : Int)) (hq : pc + 3 = q) (kt : a = some r → At F G Q nL tgt lv st S) (kf : b = some r → At F G Q nL q lv st S) : At F G Q nL pc lv (.int y :: .int x :: st) S := by
  obtain ⟨p, l, e, R, s, m, args, below, meth, c, ce, sl⟩ := F
  obtain ⟨hx, hb, hml, hown, hts, hlk, hK, hSt⟩ := C
  subst hq
  intro H locs ls hP hD hS hl
  exact lv_icmp_lt hx hb hd ht (fun hc => kt (by rw [if_pos hc] at hf; exact hf) H locs ls hP hD hS hl) (fun hc => kf (by rw [if_neg hc] at hf; exact hf) H locs ls hP hD hS hl)
theorem a_if_ge {F : FX} {G : GX} {Q : State → Prop} {nL pc q : Nat} {lv : List (Nat × Value)} {st : List Value} {S : SX} {cc : ByteArray} {own : String} {x : Int32} {off : Int} {tgt : Nat} {B : Type} {a b : Option B} {r : B} (C : Cx F G cc nL own) (hd : decode cc pc = .ok (.ifCond .ge off, 3)) (hf : (if 0 ≤ x then a else b) = some r) (ht : (pc : Int) + off = (tgt : Int)) (hq : pc + 3 = q) (kt : a = some r → At F G Q nL tgt lv st S) (kf : b = some r → At F G Q nL q lv st S) : At F G Q nL pc lv (.int x :: st) S := by
  obtain ⟨p, l, e, R, s, m, args, below, meth, c, ce, sl⟩ := F
  obtain ⟨hx, hb, hml, hown, hts, hlk, hK, hSt⟩ := C
  subst hq
  intro H locs ls hP hD hS hl
  exact lv_if_ge hx hb hd ht (fun hc => kt (by rw [if_pos hc] at hf; exact hf) H locs ls hP hD hS hl) (fun hc => kf (by rw [if_neg hc] at hf; exact hf) H locs ls hP hD hS hl)
theorem a_icmp_ge {F : FX} {G : GX} {Q : State → Prop} {nL pc q : Nat} {lv : List (Nat × Value)} {st : List Value} {S : SX} {cc : ByteArray} {own : String} {x y : Int32} {off : Int} {tgt : Nat} {B : Type} {a b : Option B} {r : B} (C : Cx F G cc nL own) (hd : decode cc pc = .ok (.if_icmp .ge off, 3)) (hf : (if y ≤ x then a else b) = some r) (ht : (pc : Int) + off = (tgt : Int)) (hq : pc + 3 = q) (kt : a = some r → At F G Q nL tgt lv st S) (kf : b = some r → At F G Q nL q lv st S) : At F G Q nL pc lv (.int y :: .int x :: st) S := by
  obtain ⟨p, l, e, R, s, m, args, below, meth, c, ce, sl⟩ := F
  obtain ⟨hx, hb, hml, hown, hts, hlk, hK, hSt⟩ := C
  subst hq
  intro H locs ls hP hD hS hl
  exact lv_icmp_ge hx hb hd ht (fun hc => kt (by rw [if_pos hc] at hf; exact hf) H locs ls hP hD hS hl) (fun hc => kf (by rw [if_neg hc] at hf; exact hf) H locs ls hP hD hS hl)
theorem a_if_gt {F : FX} {G : GX} {Q : State → Prop} {nL pc q : Nat} {lv : List (Nat × Value)} {st : List Value} {S : SX} {cc : ByteArray} {own : String} {x : Int32} {off : Int} {tgt : Nat} {B : Type} {a b : Option B} {r : B} (C : Cx F G cc nL own) (hd : decode cc pc = .ok (.ifCond .gt off, 3)) (hf : (if 0 < x then a else b) = some r) (ht : (pc : Int) + off = (tgt : Int)) (hq : pc + 3 = q) (kt : a = some r → At F G Q nL tgt lv st S) (kf : b = some r → At F G Q nL q lv st S) : At F G Q nL pc lv (.int x :: st) S := by
  obtain ⟨p, l, e, R, s, m, args, below, meth, c, ce, sl⟩ := F
  obtain ⟨hx, hb, hml, hown, hts, hlk, hK, hSt⟩ := C
  subst hq
  intro H locs ls hP hD hS hl
  exact lv_if_gt hx hb hd ht (fun hc => kt (by rw [if_pos hc] at hf; exact hf) H locs ls hP hD hS hl) (fun hc => kf (by rw [if_neg hc] at hf; exact hf) H locs ls hP hD hS hl)
theorem a_icmp_gt {F : FX} {G : GX} {Q : State → Prop} {nL pc q : Nat} {lv : List (Nat × Value)} {st : List Value} {S : SX} {cc : ByteArray} {own : String} {x y : Int32} {off : Int} {tgt : Nat} {B : Type} {a b : Option B} {r : B} (C : Cx F G cc nL own) (hd : decode cc pc = .ok (.if_icmp .gt off, 3)) (hf : (if y < x then a else b) = some r) (ht : (pc : Int) + off = (tgt : Int)) (hq : pc + 3 = q) (kt : a = some r → At F G Q nL tgt lv st S) (kf : b = some r → At F G Q nL q lv st S) : At F G Q nL pc lv (.int y :: .int x :: st) S := by
  obtain ⟨p, l, e, R, s, m, args, below, meth, c, ce, sl⟩ := F
  obtain ⟨hx, hb, hml, hown, hts, hlk, hK, hSt⟩ := C
  subst hq
  intro H locs ls hP hD hS hl
  exact lv_icmp_gt hx hb hd ht (fun hc => kt (by rw [if_pos hc] at hf; exact hf) H locs ls hP hD hS hl) (fun hc => kf (by rw [if_neg hc] at hf; exact hf) H locs ls hP hD hS hl)
theorem a_if_le {F : FX} {G : GX} {Q : State → Prop} {nL pc q : Nat} {lv : List (Nat × Value)} {st : List Value} {S : SX} {cc : ByteArray} {own : String} {x : Int32} {off : Int} {tgt : Nat} {B : Type} {a b : Option B} {r : B} (C : Cx F G cc nL own) (hd : decode cc pc = .ok (.ifCond .le off, 3)) (hf : (if x ≤ 0 then a else b) = some r) (ht : (pc : Int) + off = (tgt : Int)) (hq : pc + 3 = q) (kt : a = some r → At F G Q nL tgt lv st S) (kf : b = some r → At F G Q nL q lv st S) : At F G Q nL pc lv (.int x :: st) S := by
  obtain ⟨p, l, e, R, s, m, args, below, meth, c, ce, sl⟩ := F
  obtain ⟨hx, hb, hml, hown, hts, hlk, hK, hSt⟩ := C
  subst hq
  intro H locs ls hP hD hS hl
  exact lv_if_le hx hb hd ht (fun hc => kt (by rw [if_pos hc] at hf; exact hf) H locs ls hP hD hS hl) (fun hc => kf (by rw [if_neg hc] at hf; exact hf) H locs ls hP hD hS hl)
theorem a_icmp_le {F : FX} {G : GX} {Q : State → Prop} {nL pc q : Nat} {lv : List (Nat × Value)} {st : List Value} {S : SX} {cc : ByteArray} {own : String} {x y : Int32} {off : Int} {tgt : Nat} {B : Type} {a b : Option B} {r : B} (C : Cx F G cc nL own) (hd : decode cc pc = .ok (.if_icmp .le off, 3)) (hf : (if x ≤ y then a else b) = some r) (ht : (pc : Int) + off = (tgt : Int)) (hq : pc + 3 = q) (kt : a = some r → At F G Q nL tgt lv st S) (kf : b = some r → At F G Q nL q lv st S) : At F G Q nL pc lv (.int y :: .int x :: st) S := by
  obtain ⟨p, l, e, R, s, m, args, below, meth, c, ce, sl⟩ := F
  obtain ⟨hx, hb, hml, hown, hts, hlk, hK, hSt⟩ := C
  subst hq
  intro H locs ls hP hD hS hl
  exact lv_icmp_le hx hb hd ht (fun hc => kt (by rw [if_pos hc] at hf; exact hf) H locs ls hP hD hS hl) (fun hc => kf (by rw [if_neg hc] at hf; exact hf) H locs ls hP hD hS hl)
theorem a_goto {F : FX} {G : GX} {Q : State → Prop} {nL pc q : Nat} {lv : List (Nat × Value)} {st : List Value} {S : SX} {cc : ByteArray} {own : String} {off : Int} (C : Cx F G cc nL own) (hd : decode cc pc = .ok (.goto off, 3)) (ht : (pc : Int) + off = (q : Int)) (kk : At F G Q nL q lv st S) : At F G Q nL pc lv st S := by
  obtain ⟨p, l, e, R, s, m, args, below, meth, c, ce, sl⟩ := F
  obtain ⟨hx, hb, hml, hown, hts, hlk, hK, hSt⟩ := C
  intro H locs ls hP hD hS hl
  exact lv_goto hx hb hd ht (kk H locs ls hP hD hS hl)
theorem a_sub {F : FX} {G : GX} {Q : State → Prop} {nL pc : Nat} {lv lv' : List (Nat × Value)} {st : List Value} {S : SX} (ks : List Nat) (hl' : lv_pick lv ks = lv') (kk : At F G Q nL pc lv' st S) : At F G Q nL pc lv st S := by
  obtain ⟨p, l, e, R, s, m, args, below, meth, c, ce, sl⟩ := F
  intro H locs ls hP hD hS hl
  exact kk H locs ls hP hD hS (lv_sub hl ks hl')
theorem a_tblIn {F : FX} {G : GX} {Q : State → Prop} {nL pc q : Nat} {lv : List (Nat × Value)} {st : List Value} {S : SX} {cc : ByteArray} {own : String} {dflt lo hi : Int} {offs : Array Int} {len tgt : Nat} {x v : Int32} {off : Int} (C : Cx F G cc nL own) (hd : decode cc pc = .ok (.tableswitch dflt lo hi offs, len)) (hv : x = v) (h1 : ¬ v.toInt < lo) (h2 : ¬ hi < v.toInt) (ho : offs[(v.toInt - lo).toNat]? = some off) (ht : (pc : Int) + off = (tgt : Int)) (hq : pc = q) (kk : At F G Q nL tgt lv st S) : At F G Q nL pc lv (.int x :: st) S := by
  obtain ⟨p, l, e, R, s, m, args, below, meth, c, ce, sl⟩ := F
  obtain ⟨hx, hb, hml, hown, hts, hlk, hK, hSt⟩ := C
  subst hq
  intro H locs ls hP hD hS hl
  subst hv
  exact lv_tableIn hx hb hd h1 h2 ho ht (kk H locs ls hP hD hS hl)
theorem a_tblOut {F : FX} {G : GX} {Q : State → Prop} {nL pc q : Nat} {lv : List (Nat × Value)} {st : List Value} {S : SX} {cc : ByteArray} {own : String} {dflt lo hi : Int} {offs : Array Int} {len tgt : Nat} {x : Int32} (C : Cx F G cc nL own) (hd : decode cc pc = .ok (.tableswitch dflt lo hi offs, len)) (h : x.toInt < lo ∨ hi < x.toInt) (ht : (pc : Int) + dflt = (tgt : Int)) (hq : pc = q) (kk : At F G Q nL tgt lv st S) : At F G Q nL pc lv (.int x :: st) S := by
  obtain ⟨p, l, e, R, s, m, args, below, meth, c, ce, sl⟩ := F
  obtain ⟨hx, hb, hml, hown, hts, hlk, hK, hSt⟩ := C
  subst hq
  intro H locs ls hP hD hS hl
  exact lv_tableOut hx hb hd h ht (kk H locs ls hP hD hS hl)
theorem a_get0 {F : FX} {G : GX} {Q : State → Prop} {nL pc q : Nat} {lv : List (Nat × Value)} {st : List Value} {S : SX} {cc : ByteArray} {own : String} {index k : Nat} {fs : List Value} {v : Value} (C : Cx F G cc nL own) (hd : decode cc pc = .ok (.getfield index, 3)) (j : Nat) (hj : j < 5) (hL : Cond.fieldLink own index RX0 (TX0 j).2.1 (TX0 j).2.2.1 ∈ wsG) (hk : k < 58) (hc : cellE G S k = .inr (0, fs)) (hv : fs[j]? = some v) (hq : pc + 3 = q) (kk : At F G Q nL q lv (v :: st) S) : At F G Q nL pc lv (.ref (G.2.1 k) :: st) S := by
  obtain ⟨p, l, e, R, s, m, args, below, meth, c, ce, sl⟩ := F
  obtain ⟨hx, hb, hml, hown, hts, hlk, hK, hSt⟩ := C
  subst hq
  intro H locs ls hP hD hS hl
  exact va_get (D := G.1) (ci := 0) (C := RX0) (T := TX0) (N := 5) hx hb hts inX0 hown hK hP k (cw_at hk hc) rfl j hj (hts _ hL) (fun _ h9 => by rcases (show j = 0 ∨ j = 1 ∨ j = 2 ∨ j = 3 ∨ j = 4 by omega) with rfl | rfl | rfl | rfl | rfl <;> exact h9) hv hd (kk H locs ls hP hD hS hl)
theorem a_put0N {F : FX} {G : GX} {Q : State → Prop} {nL pc q : Nat} {lv : List (Nat × Value)} {st : List Value} {S : SX} {cc : ByteArray} {own : String} {index k : Nat} {fs : List Value} {v : Value} {T : Type} {mk : T → SX} {z : T} {B : Type} {f : T → Option B} {r : B} (C : Cx F G cc nL own) (hd : decode cc pc = .ok (.putfield index, 3)) (hf : nm z f = some r) (j : Nat) (hj : j < 5) (hL : Cond.fieldLink own index RX0 (TX0 j).2.1 (TX0 j).2.2.1 ∈ wsG) (hk : k < 58) (hc : cellE G S k = .inr (0, fs)) (h2 : cellE G (mk z) k = .inr (0, fs.set j v)) (h3 : ∀ i, i ≠ k → cellE G (mk z) i = cellE G S i) (hfin : (TX0 j).2.2.2 = false) (hn : narrow (tyX0 j) v = v) (hfit : fits (tyX0 j) v = true) (hl' : j < fs.length) (hq : pc + 3 = q) (kk : ∀ z, f z = some r → At F G Q nL q lv st (mk z)) : At F G Q nL pc lv (v :: .ref (G.2.1 k) :: st) S := by
  obtain ⟨p, l, e, R, s, m, args, below, meth, c, ce, sl⟩ := F
  obtain ⟨hx, hb, hml, hown, hts, hlk, hK, hSt⟩ := C
  subst hq
  intro H locs ls hP hD hS hl
  refine va_put (D := G.1) (ci := 0) (v := v) (ty := tyX0 j) (C := RX0) (T := TX0) (N := 5) hx hb hts inX0 tyX0 tyX0_ok nmX0 hown hK hP hD hS k (cw_at hk hc) rfl j hj (hts _ hL) (fun _ h9 => by rcases (show j = 0 ∨ j = 1 ∨ j = 2 ∨ j = 3 ∨ j = 4 by omega) with rfl | rfl | rfl | rfl | rfl <;> exact h9) hfin (tyX0_ok j hj) hn hfit hl' hd (fun H1 locs1 hP1 hD1 hS1 => ?_)
  rw [cw_set' hk h3 h2] at hP1 hD1
  exact kk z hf H1 locs1 ls hP1 hD1 hS1 hl
theorem a_get1 {F : FX} {G : GX} {Q : State → Prop} {nL pc q : Nat} {lv : List (Nat × Value)} {st : List Value} {S : SX} {cc : ByteArray} {own : String} {index k : Nat} {fs : List Value} {v : Value} (C : Cx F G cc nL own) (hd : decode cc pc = .ok (.getfield index, 3)) (j : Nat) (hj : j < 4) (hL : Cond.fieldLink own index RX1 (TX1 j).2.1 (TX1 j).2.2.1 ∈ wsG) (hk : k < 58) (hc : cellE G S k = .inr (1, fs)) (hv : fs[j]? = some v) (hq : pc + 3 = q) (kk : At F G Q nL q lv (v :: st) S) : At F G Q nL pc lv (.ref (G.2.1 k) :: st) S := by
  obtain ⟨p, l, e, R, s, m, args, below, meth, c, ce, sl⟩ := F
  obtain ⟨hx, hb, hml, hown, hts, hlk, hK, hSt⟩ := C
  subst hq
  intro H locs ls hP hD hS hl
  exact va_get (D := G.1) (ci := 1) (C := RX1) (T := TX1) (N := 4) hx hb hts inX1 hown hK hP k (cw_at hk hc) rfl j hj (hts _ hL) (fun _ h9 => by rcases (show j = 0 ∨ j = 1 ∨ j = 2 ∨ j = 3 by omega) with rfl | rfl | rfl | rfl <;> exact h9) hv hd (kk H locs ls hP hD hS hl)
theorem a_put1N {F : FX} {G : GX} {Q : State → Prop} {nL pc q : Nat} {lv : List (Nat × Value)} {st : List Value} {S : SX} {cc : ByteArray} {own : String} {index k : Nat} {fs : List Value} {v : Value} {T : Type} {mk : T → SX} {z : T} {B : Type} {f : T → Option B} {r : B} (C : Cx F G cc nL own) (hd : decode cc pc = .ok (.putfield index, 3)) (hf : nm z f = some r) (j : Nat) (hj : j < 4) (hL : Cond.fieldLink own index RX1 (TX1 j).2.1 (TX1 j).2.2.1 ∈ wsG) (hk : k < 58) (hc : cellE G S k = .inr (1, fs)) (h2 : cellE G (mk z) k = .inr (1, fs.set j v)) (h3 : ∀ i, i ≠ k → cellE G (mk z) i = cellE G S i) (hfin : (TX1 j).2.2.2 = false) (hn : narrow (tyX1 j) v = v) (hfit : fits (tyX1 j) v = true) (hl' : j < fs.length) (hq : pc + 3 = q) (kk : ∀ z, f z = some r → At F G Q nL q lv st (mk z)) : At F G Q nL pc lv (v :: .ref (G.2.1 k) :: st) S := by
  obtain ⟨p, l, e, R, s, m, args, below, meth, c, ce, sl⟩ := F
  obtain ⟨hx, hb, hml, hown, hts, hlk, hK, hSt⟩ := C
  subst hq
  intro H locs ls hP hD hS hl
  refine va_put (D := G.1) (ci := 1) (v := v) (ty := tyX1 j) (C := RX1) (T := TX1) (N := 4) hx hb hts inX1 tyX1 tyX1_ok nmX1 hown hK hP hD hS k (cw_at hk hc) rfl j hj (hts _ hL) (fun _ h9 => by rcases (show j = 0 ∨ j = 1 ∨ j = 2 ∨ j = 3 by omega) with rfl | rfl | rfl | rfl <;> exact h9) hfin (tyX1_ok j hj) hn hfit hl' hd (fun H1 locs1 hP1 hD1 hS1 => ?_)
  rw [cw_set' hk h3 h2] at hP1 hD1
  exact kk z hf H1 locs1 ls hP1 hD1 hS1 hl
theorem a_get2 {F : FX} {G : GX} {Q : State → Prop} {nL pc q : Nat} {lv : List (Nat × Value)} {st : List Value} {S : SX} {cc : ByteArray} {own : String} {index k : Nat} {fs : List Value} {v : Value} (C : Cx F G cc nL own) (hd : decode cc pc = .ok (.getfield index, 3)) (j : Nat) (hj : j < 4) (hL : Cond.fieldLink own index RX2 (TX2 j).2.1 (TX2 j).2.2.1 ∈ wsG) (hk : k < 58) (hc : cellE G S k = .inr (2, fs)) (hv : fs[j]? = some v) (hq : pc + 3 = q) (kk : At F G Q nL q lv (v :: st) S) : At F G Q nL pc lv (.ref (G.2.1 k) :: st) S := by
  obtain ⟨p, l, e, R, s, m, args, below, meth, c, ce, sl⟩ := F
  obtain ⟨hx, hb, hml, hown, hts, hlk, hK, hSt⟩ := C
  subst hq
  intro H locs ls hP hD hS hl
  exact va_get (D := G.1) (ci := 2) (C := RX2) (T := TX2) (N := 4) hx hb hts inX2 hown hK hP k (cw_at hk hc) rfl j hj (hts _ hL) (fun _ h9 => by rcases (show j = 0 ∨ j = 1 ∨ j = 2 ∨ j = 3 by omega) with rfl | rfl | rfl | rfl <;> exact h9) hv hd (kk H locs ls hP hD hS hl)
theorem a_put2N {F : FX} {G : GX} {Q : State → Prop} {nL pc q : Nat} {lv : List (Nat × Value)} {st : List Value} {S : SX} {cc : ByteArray} {own : String} {index k : Nat} {fs : List Value} {v : Value} {T : Type} {mk : T → SX} {z : T} {B : Type} {f : T → Option B} {r : B} (C : Cx F G cc nL own) (hd : decode cc pc = .ok (.putfield index, 3)) (hf : nm z f = some r) (j : Nat) (hj : j < 4) (hL : Cond.fieldLink own index RX2 (TX2 j).2.1 (TX2 j).2.2.1 ∈ wsG) (hk : k < 58) (hc : cellE G S k = .inr (2, fs)) (h2 : cellE G (mk z) k = .inr (2, fs.set j v)) (h3 : ∀ i, i ≠ k → cellE G (mk z) i = cellE G S i) (hfin : (TX2 j).2.2.2 = false) (hn : narrow (tyX2 j) v = v) (hfit : fits (tyX2 j) v = true) (hl' : j < fs.length) (hq : pc + 3 = q) (kk : ∀ z, f z = some r → At F G Q nL q lv st (mk z)) : At F G Q nL pc lv (v :: .ref (G.2.1 k) :: st) S := by
  obtain ⟨p, l, e, R, s, m, args, below, meth, c, ce, sl⟩ := F
  obtain ⟨hx, hb, hml, hown, hts, hlk, hK, hSt⟩ := C
  subst hq
  intro H locs ls hP hD hS hl
  refine va_put (D := G.1) (ci := 2) (v := v) (ty := tyX2 j) (C := RX2) (T := TX2) (N := 4) hx hb hts inX2 tyX2 tyX2_ok nmX2 hown hK hP hD hS k (cw_at hk hc) rfl j hj (hts _ hL) (fun _ h9 => by rcases (show j = 0 ∨ j = 1 ∨ j = 2 ∨ j = 3 by omega) with rfl | rfl | rfl | rfl <;> exact h9) hfin (tyX2_ok j hj) hn hfit hl' hd (fun H1 locs1 hP1 hD1 hS1 => ?_)
  rw [cw_set' hk h3 h2] at hP1 hD1
  exact kk z hf H1 locs1 ls hP1 hD1 hS1 hl
theorem a_get3 {F : FX} {G : GX} {Q : State → Prop} {nL pc q : Nat} {lv : List (Nat × Value)} {st : List Value} {S : SX} {cc : ByteArray} {own : String} {index k : Nat} {fs : List Value} {v : Value} (C : Cx F G cc nL own) (hd : decode cc pc = .ok (.getfield index, 3)) (j : Nat) (hj : j < 4) (hL : Cond.fieldLink own index RX3 (TX3 j).2.1 (TX3 j).2.2.1 ∈ wsG) (hk : k < 58) (hc : cellE G S k = .inr (3, fs)) (hv : fs[j]? = some v) (hq : pc + 3 = q) (kk : At F G Q nL q lv (v :: st) S) : At F G Q nL pc lv (.ref (G.2.1 k) :: st) S := by
  obtain ⟨p, l, e, R, s, m, args, below, meth, c, ce, sl⟩ := F
  obtain ⟨hx, hb, hml, hown, hts, hlk, hK, hSt⟩ := C
  subst hq
  intro H locs ls hP hD hS hl
  exact va_get (D := G.1) (ci := 3) (C := RX3) (T := TX3) (N := 4) hx hb hts inX3 hown hK hP k (cw_at hk hc) rfl j hj (hts _ hL) (fun _ h9 => by rcases (show j = 0 ∨ j = 1 ∨ j = 2 ∨ j = 3 by omega) with rfl | rfl | rfl | rfl <;> exact h9) hv hd (kk H locs ls hP hD hS hl)
theorem a_put3N {F : FX} {G : GX} {Q : State → Prop} {nL pc q : Nat} {lv : List (Nat × Value)} {st : List Value} {S : SX} {cc : ByteArray} {own : String} {index k : Nat} {fs : List Value} {v : Value} {T : Type} {mk : T → SX} {z : T} {B : Type} {f : T → Option B} {r : B} (C : Cx F G cc nL own) (hd : decode cc pc = .ok (.putfield index, 3)) (hf : nm z f = some r) (j : Nat) (hj : j < 4) (hL : Cond.fieldLink own index RX3 (TX3 j).2.1 (TX3 j).2.2.1 ∈ wsG) (hk : k < 58) (hc : cellE G S k = .inr (3, fs)) (h2 : cellE G (mk z) k = .inr (3, fs.set j v)) (h3 : ∀ i, i ≠ k → cellE G (mk z) i = cellE G S i) (hfin : (TX3 j).2.2.2 = false) (hn : narrow (tyX3 j) v = v) (hfit : fits (tyX3 j) v = true) (hl' : j < fs.length) (hq : pc + 3 = q) (kk : ∀ z, f z = some r → At F G Q nL q lv st (mk z)) : At F G Q nL pc lv (v :: .ref (G.2.1 k) :: st) S := by
  obtain ⟨p, l, e, R, s, m, args, below, meth, c, ce, sl⟩ := F
  obtain ⟨hx, hb, hml, hown, hts, hlk, hK, hSt⟩ := C
  subst hq
  intro H locs ls hP hD hS hl
  refine va_put (D := G.1) (ci := 3) (v := v) (ty := tyX3 j) (C := RX3) (T := TX3) (N := 4) hx hb hts inX3 tyX3 tyX3_ok nmX3 hown hK hP hD hS k (cw_at hk hc) rfl j hj (hts _ hL) (fun _ h9 => by rcases (show j = 0 ∨ j = 1 ∨ j = 2 ∨ j = 3 by omega) with rfl | rfl | rfl | rfl <;> exact h9) hfin (tyX3_ok j hj) hn hfit hl' hd (fun H1 locs1 hP1 hD1 hS1 => ?_)
  rw [cw_set' hk h3 h2] at hP1 hD1
  exact kk z hf H1 locs1 ls hP1 hD1 hS1 hl
theorem a_get4 {F : FX} {G : GX} {Q : State → Prop} {nL pc q : Nat} {lv : List (Nat × Value)} {st : List Value} {S : SX} {cc : ByteArray} {own : String} {index k : Nat} {fs : List Value} {v : Value} (C : Cx F G cc nL own) (hd : decode cc pc = .ok (.getfield index, 3)) (j : Nat) (hj : j < 5) (hL : Cond.fieldLink own index RX4 (TX4 j).2.1 (TX4 j).2.2.1 ∈ wsG) (hk : k < 58) (hc : cellE G S k = .inr (4, fs)) (hv : fs[j]? = some v) (hq : pc + 3 = q) (kk : At F G Q nL q lv (v :: st) S) : At F G Q nL pc lv (.ref (G.2.1 k) :: st) S := by
  obtain ⟨p, l, e, R, s, m, args, below, meth, c, ce, sl⟩ := F
  obtain ⟨hx, hb, hml, hown, hts, hlk, hK, hSt⟩ := C
  subst hq
  intro H locs ls hP hD hS hl
  exact va_get (D := G.1) (ci := 4) (C := RX4) (T := TX4) (N := 5) hx hb hts inX4 hown hK hP k (cw_at hk hc) rfl j hj (hts _ hL) (fun _ h9 => by rcases (show j = 0 ∨ j = 1 ∨ j = 2 ∨ j = 3 ∨ j = 4 by omega) with rfl | rfl | rfl | rfl | rfl <;> exact h9) hv hd (kk H locs ls hP hD hS hl)
theorem a_put4N {F : FX} {G : GX} {Q : State → Prop} {nL pc q : Nat} {lv : List (Nat × Value)} {st : List Value} {S : SX} {cc : ByteArray} {own : String} {index k : Nat} {fs : List Value} {v : Value} {T : Type} {mk : T → SX} {z : T} {B : Type} {f : T → Option B} {r : B} (C : Cx F G cc nL own) (hd : decode cc pc = .ok (.putfield index, 3)) (hf : nm z f = some r) (j : Nat) (hj : j < 5) (hL : Cond.fieldLink own index RX4 (TX4 j).2.1 (TX4 j).2.2.1 ∈ wsG) (hk : k < 58) (hc : cellE G S k = .inr (4, fs)) (h2 : cellE G (mk z) k = .inr (4, fs.set j v)) (h3 : ∀ i, i ≠ k → cellE G (mk z) i = cellE G S i) (hfin : (TX4 j).2.2.2 = false) (hn : narrow (tyX4 j) v = v) (hfit : fits (tyX4 j) v = true) (hl' : j < fs.length) (hq : pc + 3 = q) (kk : ∀ z, f z = some r → At F G Q nL q lv st (mk z)) : At F G Q nL pc lv (v :: .ref (G.2.1 k) :: st) S := by
  obtain ⟨p, l, e, R, s, m, args, below, meth, c, ce, sl⟩ := F
  obtain ⟨hx, hb, hml, hown, hts, hlk, hK, hSt⟩ := C
  subst hq
  intro H locs ls hP hD hS hl
  refine va_put (D := G.1) (ci := 4) (v := v) (ty := tyX4 j) (C := RX4) (T := TX4) (N := 5) hx hb hts inX4 tyX4 tyX4_ok nmX4 hown hK hP hD hS k (cw_at hk hc) rfl j hj (hts _ hL) (fun _ h9 => by rcases (show j = 0 ∨ j = 1 ∨ j = 2 ∨ j = 3 ∨ j = 4 by omega) with rfl | rfl | rfl | rfl | rfl <;> exact h9) hfin (tyX4_ok j hj) hn hfit hl' hd (fun H1 locs1 hP1 hD1 hS1 => ?_)
  rw [cw_set' hk h3 h2] at hP1 hD1
  exact kk z hf H1 locs1 ls hP1 hD1 hS1 hl
theorem a_get5 {F : FX} {G : GX} {Q : State → Prop} {nL pc q : Nat} {lv : List (Nat × Value)} {st : List Value} {S : SX} {cc : ByteArray} {own : String} {index k : Nat} {fs : List Value} {v : Value} (C : Cx F G cc nL own) (hd : decode cc pc = .ok (.getfield index, 3)) (j : Nat) (hj : j < 5) (hL : Cond.fieldLink own index RX5 (TX5 j).2.1 (TX5 j).2.2.1 ∈ wsG) (hk : k < 58) (hc : cellE G S k = .inr (5, fs)) (hv : fs[j]? = some v) (hq : pc + 3 = q) (kk : At F G Q nL q lv (v :: st) S) : At F G Q nL pc lv (.ref (G.2.1 k) :: st) S := by
  obtain ⟨p, l, e, R, s, m, args, below, meth, c, ce, sl⟩ := F
  obtain ⟨hx, hb, hml, hown, hts, hlk, hK, hSt⟩ := C
  subst hq
  intro H locs ls hP hD hS hl
  exact va_get (D := G.1) (ci := 5) (C := RX5) (T := TX5) (N := 5) hx hb hts inX5 hown hK hP k (cw_at hk hc) rfl j hj (hts _ hL) (fun _ h9 => by rcases (show j = 0 ∨ j = 1 ∨ j = 2 ∨ j = 3 ∨ j = 4 by omega) with rfl | rfl | rfl | rfl | rfl <;> exact h9) hv hd (kk H locs ls hP hD hS hl)
theorem a_put5N {F : FX} {G : GX} {Q : State → Prop} {nL pc q : Nat} {lv : List (Nat × Value)} {st : List Value} {S : SX} {cc : ByteArray} {own : String} {index k : Nat} {fs : List Value} {v : Value} {T : Type} {mk : T → SX} {z : T} {B : Type} {f : T → Option B} {r : B} (C : Cx F G cc nL own) (hd : decode cc pc = .ok (.putfield index, 3)) (hf : nm z f = some r) (j : Nat) (hj : j < 5) (hL : Cond.fieldLink own index RX5 (TX5 j).2.1 (TX5 j).2.2.1 ∈ wsG) (hk : k < 58) (hc : cellE G S k = .inr (5, fs)) (h2 : cellE G (mk z) k = .inr (5, fs.set j v)) (h3 : ∀ i, i ≠ k → cellE G (mk z) i = cellE G S i) (hfin : (TX5 j).2.2.2 = false) (hn : narrow (tyX5 j) v = v) (hfit : fits (tyX5 j) v = true) (hl' : j < fs.length) (hq : pc + 3 = q) (kk : ∀ z, f z = some r → At F G Q nL q lv st (mk z)) : At F G Q nL pc lv (v :: .ref (G.2.1 k) :: st) S := by
  obtain ⟨p, l, e, R, s, m, args, below, meth, c, ce, sl⟩ := F
  obtain ⟨hx, hb, hml, hown, hts, hlk, hK, hSt⟩ := C
  subst hq
  intro H locs ls hP hD hS hl
  refine va_put (D := G.1) (ci := 5) (v := v) (ty := tyX5 j) (C := RX5) (T := TX5) (N := 5) hx hb hts inX5 tyX5 tyX5_ok nmX5 hown hK hP hD hS k (cw_at hk hc) rfl j hj (hts _ hL) (fun _ h9 => by rcases (show j = 0 ∨ j = 1 ∨ j = 2 ∨ j = 3 ∨ j = 4 by omega) with rfl | rfl | rfl | rfl | rfl <;> exact h9) hfin (tyX5_ok j hj) hn hfit hl' hd (fun H1 locs1 hP1 hD1 hS1 => ?_)
  rw [cw_set' hk h3 h2] at hP1 hD1
  exact kk z hf H1 locs1 ls hP1 hD1 hS1 hl
theorem a_get6 {F : FX} {G : GX} {Q : State → Prop} {nL pc q : Nat} {lv : List (Nat × Value)} {st : List Value} {S : SX} {cc : ByteArray} {own : String} {index k : Nat} {fs : List Value} {v : Value} (C : Cx F G cc nL own) (hd : decode cc pc = .ok (.getfield index, 3)) (j : Nat) (hj : j < 8) (hL : Cond.fieldLink own index RX6 (TX6 j).2.1 (TX6 j).2.2.1 ∈ wsG) (hk : k < 58) (hc : cellE G S k = .inr (6, fs)) (hv : fs[j]? = some v) (hq : pc + 3 = q) (kk : At F G Q nL q lv (v :: st) S) : At F G Q nL pc lv (.ref (G.2.1 k) :: st) S := by
  obtain ⟨p, l, e, R, s, m, args, below, meth, c, ce, sl⟩ := F
  obtain ⟨hx, hb, hml, hown, hts, hlk, hK, hSt⟩ := C
  subst hq
  intro H locs ls hP hD hS hl
  exact va_get (D := G.1) (ci := 6) (C := RX6) (T := TX6) (N := 8) hx hb hts inX6 hown hK hP k (cw_at hk hc) rfl j hj (hts _ hL) (fun _ h9 => by rcases (show j = 0 ∨ j = 1 ∨ j = 2 ∨ j = 3 ∨ j = 4 ∨ j = 5 ∨ j = 6 ∨ j = 7 by omega) with rfl | rfl | rfl | rfl | rfl | rfl | rfl | rfl <;> exact h9) hv hd (kk H locs ls hP hD hS hl)
theorem a_put6N {F : FX} {G : GX} {Q : State → Prop} {nL pc q : Nat} {lv : List (Nat × Value)} {st : List Value} {S : SX} {cc : ByteArray} {own : String} {index k : Nat} {fs : List Value} {v : Value} {T : Type} {mk : T → SX} {z : T} {B : Type} {f : T → Option B} {r : B} (C : Cx F G cc nL own) (hd : decode cc pc = .ok (.putfield index, 3)) (hf : nm z f = some r) (j : Nat) (hj : j < 8) (hL : Cond.fieldLink own index RX6 (TX6 j).2.1 (TX6 j).2.2.1 ∈ wsG) (hk : k < 58) (hc : cellE G S k = .inr (6, fs)) (h2 : cellE G (mk z) k = .inr (6, fs.set j v)) (h3 : ∀ i, i ≠ k → cellE G (mk z) i = cellE G S i) (hfin : (TX6 j).2.2.2 = false) (hn : narrow (tyX6 j) v = v) (hfit : fits (tyX6 j) v = true) (hl' : j < fs.length) (hq : pc + 3 = q) (kk : ∀ z, f z = some r → At F G Q nL q lv st (mk z)) : At F G Q nL pc lv (v :: .ref (G.2.1 k) :: st) S := by
  obtain ⟨p, l, e, R, s, m, args, below, meth, c, ce, sl⟩ := F
  obtain ⟨hx, hb, hml, hown, hts, hlk, hK, hSt⟩ := C
  subst hq
  intro H locs ls hP hD hS hl
  refine va_put (D := G.1) (ci := 6) (v := v) (ty := tyX6 j) (C := RX6) (T := TX6) (N := 8) hx hb hts inX6 tyX6 tyX6_ok nmX6 hown hK hP hD hS k (cw_at hk hc) rfl j hj (hts _ hL) (fun _ h9 => by rcases (show j = 0 ∨ j = 1 ∨ j = 2 ∨ j = 3 ∨ j = 4 ∨ j = 5 ∨ j = 6 ∨ j = 7 by omega) with rfl | rfl | rfl | rfl | rfl | rfl | rfl | rfl <;> exact h9) hfin (tyX6_ok j hj) hn hfit hl' hd (fun H1 locs1 hP1 hD1 hS1 => ?_)
  rw [cw_set' hk h3 h2] at hP1 hD1
  exact kk z hf H1 locs1 ls hP1 hD1 hS1 hl
theorem a_get7 {F : FX} {G : GX} {Q : State → Prop} {nL pc q : Nat} {lv : List (Nat × Value)} {st : List Value} {S : SX} {cc : ByteArray} {own : String} {index k : Nat} {fs : List Value} {v : Value} (C : Cx F G cc nL own) (hd : decode cc pc = .ok (.getfield index, 3)) (j : Nat) (hj : j < 10) (hL : Cond.fieldLink own index RX7 (TX7 j).2.1 (TX7 j).2.2.1 ∈ wsG) (hk : k < 58) (hc : cellE G S k = .inr (7, fs)) (hv : fs[j]? = some v) (hq : pc + 3 = q) (kk : At F G Q nL q lv (v :: st) S) : At F G Q nL pc lv (.ref (G.2.1 k) :: st) S := by
  obtain ⟨p, l, e, R, s, m, args, below, meth, c, ce, sl⟩ := F
  obtain ⟨hx, hb, hml, hown, hts, hlk, hK, hSt⟩ := C
  subst hq
  intro H locs ls hP hD hS hl
  exact va_get (D := G.1) (ci := 7) (C := RX7) (T := TX7) (N := 10) hx hb hts inX7 hown hK hP k (cw_at hk hc) rfl j hj (hts _ hL) (fun _ h9 => by rcases (show j = 0 ∨ j = 1 ∨ j = 2 ∨ j = 3 ∨ j = 4 ∨ j = 5 ∨ j = 6 ∨ j = 7 ∨ j = 8 ∨ j = 9 by omega) with rfl | rfl | rfl | rfl | rfl | rfl | rfl | rfl | rfl | rfl <;> exact h9) hv hd (kk H locs ls hP hD hS hl)
theorem a_put7N {F : FX} {G : GX} {Q : State → Prop} {nL pc q : Nat} {lv : List (Nat × Value)} {st : List Value} {S : SX} {cc : ByteArray} {own : String} {index k : Nat} {fs : List Value} {v : Value} {T : Type} {mk : T → SX} {z : T} {B : Type} {f : T → Option B} {r : B} (C : Cx F G cc nL own) (hd : decode cc pc = .ok (.putfield index, 3)) (hf : nm z f = some r) (j : Nat) (hj : j < 10) (hL : Cond.fieldLink own index RX7 (TX7 j).2.1 (TX7 j).2.2.1 ∈ wsG) (hk : k < 58) (hc : cellE G S k = .inr (7, fs)) (h2 : cellE G (mk z) k = .inr (7, fs.set j v)) (h3 : ∀ i, i ≠ k → cellE G (mk z) i = cellE G S i) (hfin : (TX7 j).2.2.2 = false) (hn : narrow (tyX7 j) v = v) (hfit : fits (tyX7 j) v = true) (hl' : j < fs.length) (hq : pc + 3 = q) (kk : ∀ z, f z = some r → At F G Q nL q lv st (mk z)) : At F G Q nL pc lv (v :: .ref (G.2.1 k) :: st) S := by
  obtain ⟨p, l, e, R, s, m, args, below, meth, c, ce, sl⟩ := F
  obtain ⟨hx, hb, hml, hown, hts, hlk, hK, hSt⟩ := C
  subst hq
  intro H locs ls hP hD hS hl
  refine va_put (D := G.1) (ci := 7) (v := v) (ty := tyX7 j) (C := RX7) (T := TX7) (N := 10) hx hb hts inX7 tyX7 tyX7_ok nmX7 hown hK hP hD hS k (cw_at hk hc) rfl j hj (hts _ hL) (fun _ h9 => by rcases (show j = 0 ∨ j = 1 ∨ j = 2 ∨ j = 3 ∨ j = 4 ∨ j = 5 ∨ j = 6 ∨ j = 7 ∨ j = 8 ∨ j = 9 by omega) with rfl | rfl | rfl | rfl | rfl | rfl | rfl | rfl | rfl | rfl <;> exact h9) hfin (tyX7_ok j hj) hn hfit hl' hd (fun H1 locs1 hP1 hD1 hS1 => ?_)
  rw [cw_set' hk h3 h2] at hP1 hD1
  exact kk z hf H1 locs1 ls hP1 hD1 hS1 hl
theorem a_get8 {F : FX} {G : GX} {Q : State → Prop} {nL pc q : Nat} {lv : List (Nat × Value)} {st : List Value} {S : SX} {cc : ByteArray} {own : String} {index k : Nat} {fs : List Value} {v : Value} (C : Cx F G cc nL own) (hd : decode cc pc = .ok (.getfield index, 3)) (j : Nat) (hj : j < 35) (hL : Cond.fieldLink own index RX8 (TX8 j).2.1 (TX8 j).2.2.1 ∈ wsG) (hk : k < 58) (hc : cellE G S k = .inr (8, fs)) (hv : fs[j]? = some v) (hq : pc + 3 = q) (kk : At F G Q nL q lv (v :: st) S) : At F G Q nL pc lv (.ref (G.2.1 k) :: st) S := by
  obtain ⟨p, l, e, R, s, m, args, below, meth, c, ce, sl⟩ := F
  obtain ⟨hx, hb, hml, hown, hts, hlk, hK, hSt⟩ := C
  subst hq
  intro H locs ls hP hD hS hl
  exact va_get (D := G.1) (ci := 8) (C := RX8) (T := TX8) (N := 35) hx hb hts inX8 hown hK hP k (cw_at hk hc) rfl j hj (hts _ hL) (fun _ h9 => by rcases (show j = 0 ∨ j = 1 ∨ j = 2 ∨ j = 3 ∨ j = 4 ∨ j = 5 ∨ j = 6 ∨ j = 7 ∨ j = 8 ∨ j = 9 ∨ j = 10 ∨ j = 11 ∨ j = 12 ∨ j = 13 ∨ j = 14 ∨ j = 15 ∨ j = 16 ∨ j = 17 ∨ j = 18 ∨ j = 19 ∨ j = 20 ∨ j = 21 ∨ j = 22 ∨ j = 23 ∨ j = 24 ∨ j = 25 ∨ j = 26 ∨ j = 27 ∨ j = 28 ∨ j = 29 ∨ j = 30 ∨ j = 31 ∨ j = 32 ∨ j = 33 ∨ j = 34 by omega) with rfl | rfl | rfl | rfl | rfl | rfl | rfl | rfl | rfl | rfl | rfl | rfl | rfl | rfl | rfl | rfl | rfl | rfl | rfl | rfl | rfl | rfl | rfl | rfl | rfl | rfl | rfl | rfl | rfl | rfl | rfl | rfl | rfl | rfl | rfl <;> exact h9) hv hd (kk H locs ls hP hD hS hl)
theorem a_put8N {F : FX} {G : GX} {Q : State → Prop} {nL pc q : Nat} {lv : List (Nat × Value)} {st : List Value} {S : SX} {cc : ByteArray} {own : String} {index k : Nat} {fs : List Value} {v : Value} {T : Type} {mk : T → SX} {z : T} {B : Type} {f : T → Option B} {r : B} (C : Cx F G cc nL own) (hd : decode cc pc = .ok (.putfield index, 3)) (hf : nm z f = some r) (j : Nat) (hj : j < 35) (hL : Cond.fieldLink own index RX8 (TX8 j).2.1 (TX8 j).2.2.1 ∈ wsG) (hk : k < 58) (hc : cellE G S k = .inr (8, fs)) (h2 : cellE G (mk z) k = .inr (8, fs.set j v)) (h3 : ∀ i, i ≠ k → cellE G (mk z) i = cellE G S i) (hfin : (TX8 j).2.2.2 = false) (hn : narrow (tyX8 j) v = v) (hfit : fits (tyX8 j) v = true) (hl' : j < fs.length) (hq : pc + 3 = q) (kk : ∀ z, f z = some r → At F G Q nL q lv st (mk z)) : At F G Q nL pc lv (v :: .ref (G.2.1 k) :: st) S := by
  obtain ⟨p, l, e, R, s, m, args, below, meth, c, ce, sl⟩ := F
  obtain ⟨hx, hb, hml, hown, hts, hlk, hK, hSt⟩ := C
  subst hq
  intro H locs ls hP hD hS hl
  refine va_put (D := G.1) (ci := 8) (v := v) (ty := tyX8 j) (C := RX8) (T := TX8) (N := 35) hx hb hts inX8 tyX8 tyX8_ok nmX8 hown hK hP hD hS k (cw_at hk hc) rfl j hj (hts _ hL) (fun _ h9 => by rcases (show j = 0 ∨ j = 1 ∨ j = 2 ∨ j = 3 ∨ j = 4 ∨ j = 5 ∨ j = 6 ∨ j = 7 ∨ j = 8 ∨ j = 9 ∨ j = 10 ∨ j = 11 ∨ j = 12 ∨ j = 13 ∨ j = 14 ∨ j = 15 ∨ j = 16 ∨ j = 17 ∨ j = 18 ∨ j = 19 ∨ j = 20 ∨ j = 21 ∨ j = 22 ∨ j = 23 ∨ j = 24 ∨ j = 25 ∨ j = 26 ∨ j = 27 ∨ j = 28 ∨ j = 29 ∨ j = 30 ∨ j = 31 ∨ j = 32 ∨ j = 33 ∨ j = 34 by omega) with rfl | rfl | rfl | rfl | rfl | rfl | rfl | rfl | rfl | rfl | rfl | rfl | rfl | rfl | rfl | rfl | rfl | rfl | rfl | rfl | rfl | rfl | rfl | rfl | rfl | rfl | rfl | rfl | rfl | rfl | rfl | rfl | rfl | rfl | rfl <;> exact h9) hfin (tyX8_ok j hj) hn hfit hl' hd (fun H1 locs1 hP1 hD1 hS1 => ?_)
  rw [cw_set' hk h3 h2] at hP1 hD1
  exact kk z hf H1 locs1 ls hP1 hD1 hS1 hl
theorem a_iald {F : FX} {G : GX} {Q : State → Prop} {nL pc q : Nat} {lv : List (Nat × Value)} {st : List Value} {S : SX} {cc : ByteArray} {own : String} {k N : Nat} {g : Nat → Int32} {i : Int32} {B : Type} {a : Option B} {r : B} (C : Cx F G cc nL own) (hd : decode cc pc = .ok (.iaload, 1)) (hf : ix i N a = some r) (hk : k < 58) (hc : cellE G S k = .inl (G.2.2.1 1, N, .inl g)) (hq : pc + 1 = q) (kk : a = some r → At F G Q nL q lv (.int (g i.toNatClampNeg) :: st) S) : At F G Q nL pc lv (.int i :: .ref (G.2.1 k) :: st) S := by
  obtain ⟨p, l, e, R, s, m, args, below, meth, c, ce, sl⟩ := F
  obtain ⟨hx, hb, hml, hown, hts, hlk, hK, hSt⟩ := C
  subst hq
  intro H locs ls hP hD hS hl
  obtain ⟨hin, hf⟩ := ix_some hf
  exact va_iald hx hb hK hP k 1 (cw_at hk hc) rfl hin hd (kk hf H locs ls hP hD hS hl)
theorem a_bald {F : FX} {G : GX} {Q : State → Prop} {nL pc q : Nat} {lv : List (Nat × Value)} {st : List Value} {S : SX} {cc : ByteArray} {own : String} {k N : Nat} {g : Nat → Int32} {i : Int32} {B : Type} {a : Option B} {r : B} (C : Cx F G cc nL own) (hd : decode cc pc = .ok (.baload, 1)) (hf : ix i N a = some r) (hk : k < 58) (hc : cellE G S k = .inl (G.2.2.1 0, N, .inl g)) (hq : pc + 1 = q) (kk : a = some r → At F G Q nL q lv (.int (g i.toNatClampNeg) :: st) S) : At F G Q nL pc lv (.int i :: .ref (G.2.1 k) :: st) S := by
  obtain ⟨p, l, e, R, s, m, args, below, meth, c, ce, sl⟩ := F
  obtain ⟨hx, hb, hml, hown, hts, hlk, hK, hSt⟩ := C
  subst hq
  intro H locs ls hP hD hS hl
  obtain ⟨hin, hf⟩ := ix_some hf
  exact va_bald hx hb hK hP k 0 (cw_at hk hc) rfl hin hd (kk hf H locs ls hP hD hS hl)
theorem a_zald {F : FX} {G : GX} {Q : State → Prop} {nL pc q : Nat} {lv : List (Nat × Value)} {st : List Value} {S : SX} {cc : ByteArray} {own : String} {k N : Nat} {g : Nat → Int32} {i : Int32} {B : Type} {a : Option B} {r : B} (C : Cx F G cc nL own) (hd : decode cc pc = .ok (.baload, 1)) (hf : ix i N a = some r) (hk : k < 58) (hc : cellE G S k = .inl (G.2.2.1 2, N, .inl g)) (hq : pc + 1 = q) (kk : a = some r → At F G Q nL q lv (.int (g i.toNatClampNeg) :: st) S) : At F G Q nL pc lv (.int i :: .ref (G.2.1 k) :: st) S := by
  obtain ⟨p, l, e, R, s, m, args, below, meth, c, ce, sl⟩ := F
  obtain ⟨hx, hb, hml, hown, hts, hlk, hK, hSt⟩ := C
  subst hq
  intro H locs ls hP hD hS hl
  obtain ⟨hin, hf⟩ := ix_some hf
  exact va_zald hx hb hK hP k 2 (cw_at hk hc) rfl hin hd (kk hf H locs ls hP hD hS hl)
theorem a_iastN {F : FX} {G : GX} {Q : State → Prop} {nL pc q : Nat} {lv : List (Nat × Value)} {st : List Value} {S : SX} {cc : ByteArray} {own : String} {k N : Nat} {g : Nat → Int32} {i x : Int32} {T : Type} {mk : T → SX} {z : T} {B : Type} {f : T → Option B} {r : B} (C : Cx F G cc nL own) (hd : decode cc pc = .ok (.iastore, 1)) (hf : ix i N (nm z f) = some r) (hk : k < 58) (hc : cellE G S k = .inl (G.2.2.1 1, N, .inl g)) (h2 : cellE G (mk z) k = .inl (G.2.2.1 1, N, .inl (upd g i.toNatClampNeg x))) (h3 : ∀ i, i ≠ k → cellE G (mk z) i = cellE G S i) (hq : pc + 1 = q) (kk : ∀ z, f z = some r → At F G Q nL q lv st (mk z)) : At F G Q nL pc lv (.int x :: .int i :: .ref (G.2.1 k) :: st) S := by
  obtain ⟨p, l, e, R, s, m, args, below, meth, c, ce, sl⟩ := F
  obtain ⟨hx, hb, hml, hown, hts, hlk, hK, hSt⟩ := C
  subst hq
  intro H locs ls hP hD hS hl
  obtain ⟨hin, hf⟩ := ix_some hf
  refine va_iast hx hb hK hP hD hS k 1 (cw_at hk hc) rfl hin hd (fun H1 locs1 hP1 hD1 hS1 => ?_)
  rw [cw_set' hk h3 h2] at hP1 hD1
  exact kk z hf H1 locs1 ls hP1 hD1 hS1 hl
theorem a_bastN {F : FX} {G : GX} {Q : State → Prop} {nL pc q : Nat} {lv : List (Nat × Value)} {st : List Value} {S : SX} {cc : ByteArray} {own : String} {k N : Nat} {g : Nat → Int32} {i x : Int32} {T : Type} {mk : T → SX} {z : T} {B : Type} {f : T → Option B} {r : B} (C : Cx F G cc nL own) (hd : decode cc pc = .ok (.bastore, 1)) (hf : ix i N (nm z f) = some r) (hk : k < 58) (hc : cellE G S k = .inl (G.2.2.1 0, N, .inl g)) (h2 : cellE G (mk z) k = .inl (G.2.2.1 0, N, .inl (upd g i.toNatClampNeg (vp_nar .byte x)))) (h3 : ∀ i, i ≠ k → cellE G (mk z) i = cellE G S i) (hq : pc + 1 = q) (kk : ∀ z, f z = some r → At F G Q nL q lv st (mk z)) : At F G Q nL pc lv (.int x :: .int i :: .ref (G.2.1 k) :: st) S := by
  obtain ⟨p, l, e, R, s, m, args, below, meth, c, ce, sl⟩ := F
  obtain ⟨hx, hb, hml, hown, hts, hlk, hK, hSt⟩ := C
  subst hq
  intro H locs ls hP hD hS hl
  obtain ⟨hin, hf⟩ := ix_some hf
  refine va_bast hx hb hK hP hD hS k 0 (cw_at hk hc) rfl hin hd (fun H1 locs1 hP1 hD1 hS1 => ?_)
  rw [cw_set' hk h3 h2] at hP1 hD1
  exact kk z hf H1 locs1 ls hP1 hD1 hS1 hl
theorem a_zastN {F : FX} {G : GX} {Q : State → Prop} {nL pc q : Nat} {lv : List (Nat × Value)} {st : List Value} {S : SX} {cc : ByteArray} {own : String} {k N : Nat} {g : Nat → Int32} {i x : Int32} {T : Type} {mk : T → SX} {z : T} {B : Type} {f : T → Option B} {r : B} (C : Cx F G cc nL own) (hd : decode cc pc = .ok (.bastore, 1)) (hf : ix i N (nm z f) = some r) (hk : k < 58) (hc : cellE G S k = .inl (G.2.2.1 2, N, .inl g)) (h2 : cellE G (mk z) k = .inl (G.2.2.1 2, N, .inl (upd g i.toNatClampNeg (vp_nar .boolean x)))) (h3 : ∀ i, i ≠ k → cellE G (mk z) i = cellE G S i) (hq : pc + 1 = q) (kk : ∀ z, f z = some r → At F G Q nL q lv st (mk z)) : At F G Q nL pc lv (.int x :: .int i :: .ref (G.2.1 k) :: st) S := by
  obtain ⟨p, l, e, R, s, m, args, below, meth, c, ce, sl⟩ := F
  obtain ⟨hx, hb, hml, hown, hts, hlk, hK, hSt⟩ := C
  subst hq
  intro H locs ls hP hD hS hl
  obtain ⟨hin, hf⟩ := ix_some hf
  refine va_zast hx hb hK hP hD hS k 2 (cw_at hk hc) rfl hin hd (fun H1 locs1 hP1 hD1 hS1 => ?_)
  rw [cw_set' hk h3 h2] at hP1 hD1
  exact kk z hf H1 locs1 ls hP1 hD1 hS1 hl
theorem a_aald {F : FX} {G : GX} {Q : State → Prop} {nL pc q : Nat} {lv : List (Nat × Value)} {st : List Value} {S : SX} {cc : ByteArray} {own : String} {i : Int32} {B : Type} {a : Option B} {r : B} (C : Cx F G cc nL own) (hd : decode cc pc = .ok (.aaload, 1)) (hf : ix i 4 a = some r) (hq : pc + 1 = q) (kk : vp_in i 4 → a = some r → At F G Q nL q lv (.ref (G.2.1 (30 + 2 * i.toNatClampNeg)) :: st) S) : At F G Q nL pc lv (.int i :: .ref (G.2.1 29) :: st) S := by
  obtain ⟨p, l, e, R, s, m, args, below, meth, c, ce, sl⟩ := F
  obtain ⟨hx, hb, hml, hown, hts, hlk, hK, hSt⟩ := C
  subst hq
  intro H locs ls hP hD hS hl
  obtain ⟨hin, hf⟩ := ix_some hf
  exact va_aldq (C := "TwelveCars$Sheet") hx hb hK hP 29 3 (cw_at (k := 29) (by decide) rfl) rfl hin hd (kk hin hf H locs ls hP hD hS hl)
theorem a_getsSEATS {F : FX} {G : GX} {Q : State → Prop} {nL pc q : Nat} {lv : List (Nat × Value)} {st : List Value} {S : SX} {cc : ByteArray} {own : String} {index : Nat} (C : Cx F G cc nL own) (hd : decode cc pc = .ok (.getstatic index, 3)) (hL : Cond.fieldLink own index "TwelveCars$Wheel" "SEATS" "[I" ∈ wsG) (hq : pc + 3 = q) (kk : At F G Q nL q lv (.ref (G.2.2.2 0) :: st) S) : At F G Q nL pc lv st S := by
  obtain ⟨p, l, e, R, s, m, args, below, meth, c, ce, sl⟩ := F
  obtain ⟨hx, hb, hml, hown, hts, hlk, hK, hSt⟩ := C
  subst hq
  intro H locs ls hP hD hS hl
  exact va_gets hx hb hSt.1.1 hS hown (hts _ hL) (fun _ h9 => h9) hd (kk H locs ls hP hD hS hl)
theorem a_tldSEATS {F : FX} {G : GX} {Q : State → Prop} {nL pc q : Nat} {lv : List (Nat × Value)} {st : List Value} {S : SX} {cc : ByteArray} {own : String} {i : Int32} {B : Type} {a : Option B} {r : B} (C : Cx F G cc nL own) (hd : decode cc pc = .ok (.iaload, 1)) (hf : ix i 4 a = some r) (hq : pc + 1 = q) (kk : a = some r → At F G Q nL q lv (.int (tabv 0 i.toNatClampNeg) :: st) S) : At F G Q nL pc lv (.int i :: .ref (G.2.2.2 0) :: st) S := by
  obtain ⟨p, l, e, R, s, m, args, below, meth, c, ce, sl⟩ := F
  obtain ⟨hx, hb, hml, hown, hts, hlk, hK, hSt⟩ := C
  subst hq
  intro H locs ls hP hD hS hl
  obtain ⟨hin, hf⟩ := ix_some hf
  exact va_ti hx hb hSt.1.2 hS hin rfl hd (kk hf H locs ls hP hD hS hl)
theorem a_getsCW {F : FX} {G : GX} {Q : State → Prop} {nL pc q : Nat} {lv : List (Nat × Value)} {st : List Value} {S : SX} {cc : ByteArray} {own : String} {index : Nat} (C : Cx F G cc nL own) (hd : decode cc pc = .ok (.getstatic index, 3)) (hL : Cond.fieldLink own index "TwelveCars$Balance" "COSINE_WHOLE" "[I" ∈ wsG) (hq : pc + 3 = q) (kk : At F G Q nL q lv (.ref (G.2.2.2 1) :: st) S) : At F G Q nL pc lv st S := by
  obtain ⟨p, l, e, R, s, m, args, below, meth, c, ce, sl⟩ := F
  obtain ⟨hx, hb, hml, hown, hts, hlk, hK, hSt⟩ := C
  subst hq
  intro H locs ls hP hD hS hl
  exact va_gets hx hb hSt.2.1.1 hS hown (hts _ hL) (fun _ h9 => h9) hd (kk H locs ls hP hD hS hl)
theorem a_tldCW {F : FX} {G : GX} {Q : State → Prop} {nL pc q : Nat} {lv : List (Nat × Value)} {st : List Value} {S : SX} {cc : ByteArray} {own : String} {i : Int32} {B : Type} {a : Option B} {r : B} (C : Cx F G cc nL own) (hd : decode cc pc = .ok (.iaload, 1)) (hf : ix i 12 a = some r) (hq : pc + 1 = q) (kk : a = some r → At F G Q nL q lv (.int (tabv 1 i.toNatClampNeg) :: st) S) : At F G Q nL pc lv (.int i :: .ref (G.2.2.2 1) :: st) S := by
  obtain ⟨p, l, e, R, s, m, args, below, meth, c, ce, sl⟩ := F
  obtain ⟨hx, hb, hml, hown, hts, hlk, hK, hSt⟩ := C
  subst hq
  intro H locs ls hP hD hS hl
  obtain ⟨hin, hf⟩ := ix_some hf
  exact va_ti hx hb hSt.2.1.2 hS hin rfl hd (kk hf H locs ls hP hD hS hl)
theorem a_getsCR {F : FX} {G : GX} {Q : State → Prop} {nL pc q : Nat} {lv : List (Nat × Value)} {st : List Value} {S : SX} {cc : ByteArray} {own : String} {index : Nat} (C : Cx F G cc nL own) (hd : decode cc pc = .ok (.getstatic index, 3)) (hL : Cond.fieldLink own index "TwelveCars$Balance" "COSINE_ROOT" "[I" ∈ wsG) (hq : pc + 3 = q) (kk : At F G Q nL q lv (.ref (G.2.2.2 2) :: st) S) : At F G Q nL pc lv st S := by
  obtain ⟨p, l, e, R, s, m, args, below, meth, c, ce, sl⟩ := F
  obtain ⟨hx, hb, hml, hown, hts, hlk, hK, hSt⟩ := C
  subst hq
  intro H locs ls hP hD hS hl
  exact va_gets hx hb hSt.2.2.1.1 hS hown (hts _ hL) (fun _ h9 => h9) hd (kk H locs ls hP hD hS hl)
theorem a_tldCR {F : FX} {G : GX} {Q : State → Prop} {nL pc q : Nat} {lv : List (Nat × Value)} {st : List Value} {S : SX} {cc : ByteArray} {own : String} {i : Int32} {B : Type} {a : Option B} {r : B} (C : Cx F G cc nL own) (hd : decode cc pc = .ok (.iaload, 1)) (hf : ix i 12 a = some r) (hq : pc + 1 = q) (kk : a = some r → At F G Q nL q lv (.int (tabv 2 i.toNatClampNeg) :: st) S) : At F G Q nL pc lv (.int i :: .ref (G.2.2.2 2) :: st) S := by
  obtain ⟨p, l, e, R, s, m, args, below, meth, c, ce, sl⟩ := F
  obtain ⟨hx, hb, hml, hown, hts, hlk, hK, hSt⟩ := C
  subst hq
  intro H locs ls hP hD hS hl
  obtain ⟨hin, hf⟩ := ix_some hf
  exact va_ti hx hb hSt.2.2.1.2 hS hin rfl hd (kk hf H locs ls hP hD hS hl)
theorem a_getsSW {F : FX} {G : GX} {Q : State → Prop} {nL pc q : Nat} {lv : List (Nat × Value)} {st : List Value} {S : SX} {cc : ByteArray} {own : String} {index : Nat} (C : Cx F G cc nL own) (hd : decode cc pc = .ok (.getstatic index, 3)) (hL : Cond.fieldLink own index "TwelveCars$Balance" "SINE_WHOLE" "[I" ∈ wsG) (hq : pc + 3 = q) (kk : At F G Q nL q lv (.ref (G.2.2.2 3) :: st) S) : At F G Q nL pc lv st S := by
  obtain ⟨p, l, e, R, s, m, args, below, meth, c, ce, sl⟩ := F
  obtain ⟨hx, hb, hml, hown, hts, hlk, hK, hSt⟩ := C
  subst hq
  intro H locs ls hP hD hS hl
  exact va_gets hx hb hSt.2.2.2.1.1 hS hown (hts _ hL) (fun _ h9 => h9) hd (kk H locs ls hP hD hS hl)
theorem a_tldSW {F : FX} {G : GX} {Q : State → Prop} {nL pc q : Nat} {lv : List (Nat × Value)} {st : List Value} {S : SX} {cc : ByteArray} {own : String} {i : Int32} {B : Type} {a : Option B} {r : B} (C : Cx F G cc nL own) (hd : decode cc pc = .ok (.iaload, 1)) (hf : ix i 12 a = some r) (hq : pc + 1 = q) (kk : a = some r → At F G Q nL q lv (.int (tabv 3 i.toNatClampNeg) :: st) S) : At F G Q nL pc lv (.int i :: .ref (G.2.2.2 3) :: st) S := by
  obtain ⟨p, l, e, R, s, m, args, below, meth, c, ce, sl⟩ := F
  obtain ⟨hx, hb, hml, hown, hts, hlk, hK, hSt⟩ := C
  subst hq
  intro H locs ls hP hD hS hl
  obtain ⟨hin, hf⟩ := ix_some hf
  exact va_ti hx hb hSt.2.2.2.1.2 hS hin rfl hd (kk hf H locs ls hP hD hS hl)
theorem a_getsSRt {F : FX} {G : GX} {Q : State → Prop} {nL pc q : Nat} {lv : List (Nat × Value)} {st : List Value} {S : SX} {cc : ByteArray} {own : String} {index : Nat} (C : Cx F G cc nL own) (hd : decode cc pc = .ok (.getstatic index, 3)) (hL : Cond.fieldLink own index "TwelveCars$Balance" "SINE_ROOT" "[I" ∈ wsG) (hq : pc + 3 = q) (kk : At F G Q nL q lv (.ref (G.2.2.2 4) :: st) S) : At F G Q nL pc lv st S := by
  obtain ⟨p, l, e, R, s, m, args, below, meth, c, ce, sl⟩ := F
  obtain ⟨hx, hb, hml, hown, hts, hlk, hK, hSt⟩ := C
  subst hq
  intro H locs ls hP hD hS hl
  exact va_gets hx hb hSt.2.2.2.2.1.1 hS hown (hts _ hL) (fun _ h9 => h9) hd (kk H locs ls hP hD hS hl)
theorem a_tldSRt {F : FX} {G : GX} {Q : State → Prop} {nL pc q : Nat} {lv : List (Nat × Value)} {st : List Value} {S : SX} {cc : ByteArray} {own : String} {i : Int32} {B : Type} {a : Option B} {r : B} (C : Cx F G cc nL own) (hd : decode cc pc = .ok (.iaload, 1)) (hf : ix i 12 a = some r) (hq : pc + 1 = q) (kk : a = some r → At F G Q nL q lv (.int (tabv 4 i.toNatClampNeg) :: st) S) : At F G Q nL pc lv (.int i :: .ref (G.2.2.2 4) :: st) S := by
  obtain ⟨p, l, e, R, s, m, args, below, meth, c, ce, sl⟩ := F
  obtain ⟨hx, hb, hml, hown, hts, hlk, hK, hSt⟩ := C
  subst hq
  intro H locs ls hP hD hS hl
  obtain ⟨hin, hf⟩ := ix_some hf
  exact va_ti hx hb hSt.2.2.2.2.1.2 hS hin rfl hd (kk hf H locs ls hP hD hS hl)
def RetI (F : FX) (G : GX) (Q : State → Prop) (cc : ByteArray) (nL : Nat) (ty : FieldType) (r : Int32) (S : SX) : Prop := narrow ty (.int r) = .int r → ∀ (pc : Nat) (lv : List (Nat × Value)), decode cc pc = .ok (.ireturn, 1) → At F G Q nL pc lv [.int r] S
def RetL (F : FX) (G : GX) (Q : State → Prop) (cc : ByteArray) (nL : Nat) (r : Int64) (S : SX) : Prop := ∀ (pc : Nat) (lv : List (Nat × Value)), decode cc pc = .ok (.lreturn, 1) → At F G Q nL pc lv [.long r] S
def RetV (F : FX) (G : GX) (Q : State → Prop) (cc : ByteArray) (nL : Nat) (S : SX) : Prop := ∀ (pc : Nat) (lv : List (Nat × Value)), decode cc pc = .ok (.return_, 1) → At F G Q nL pc lv [] S
/-! a method's contract out of the walk of its body -/
abbrev Fx0 (p : Program) (l : Launch) (e : Env) (R : Room) (s : State) (m : MethodId) (args : Array Value) (below : List Frame) (meth : Method) (c : Code) : FX := (p, l, e, R, s, m, args, below, meth, c, 0, 0)
theorem m_I {l : Launch} {G : GX} {y : MethodName} {b : ByteArray} {nL d : Nat} {ty : FieldType} {S S' : SX} {As : List Value} {r : Int32} (hy : plainName y.cls = true) (hA : (lg_sl As).length ≤ nL)
    (body : ∀ (F : FX) (Q : State → Prop), Cx F G b nL y.cls → F.2.2.2.1 = rmD d → F.2.1 = l → F.2.2.2.2.2.2.2.2.2.2 = (0, 0) → RetI F G Q b nL ty r S' → At F G Q nL 0 (lv_args 0 As) [] S) :
    MetC l G y b nL (some ty) d S As (PostI G r S') := by
  refine Met.ofW (cc := b) (maxL := nL) (ret := some ty) hy rfl ?_
  intro p e s m args below meth c s₁ B hml hv
  obtain ⟨rfl, hP, hD, hK, hSt⟩ := hv
  have hts := atoms_spec (ws := Cond.code y b nL (some ty) :: wsG) B.pre
  have hlk := B.notSynchronized
  have hr := B.returns
  have C : Cx (Fx0 p l e (rmD d) s m As.toArray below meth c) G b nL y.cls := ⟨B.exec, B.bytes, hml, findClass_of_methodNamed B.named, fun w hw => hts w (List.mem_cons_of_mem _ hw), hlk, hK, hSt⟩
  have hl := lv_entry As (n := nL) hA
  rw [lg_entry_eq]
  refine body (Fx0 p l e (rmD d) s m As.toArray below meth c) _ C rfl rfl rfl ?_ s.heap [] _ hP hD va_S.rf hl
  intro hnr pc lv hd H locs ls hP hD hS hl
  exact W.zret B.exec B.bytes hr hnr (fun t ht hW => ⟨⟨r, (), rfl, rfl, by rw [ht]; exact hP, hD⟩, hS.F ht⟩) hS.2.2 hd
theorem m_L {l : Launch} {G : GX} {y : MethodName} {b : ByteArray} {nL d : Nat} {S S' : SX} {As : List Value} {r : Int64} (hy : plainName y.cls = true) (hA : (lg_sl As).length ≤ nL)
    (body : ∀ (F : FX) (Q : State → Prop), Cx F G b nL y.cls → F.2.2.2.1 = rmD d → F.2.1 = l → F.2.2.2.2.2.2.2.2.2.2 = (0, 0) → RetL F G Q b nL r S' → At F G Q nL 0 (lv_args 0 As) [] S) :
    MetC l G y b nL (some .long) d S As (PostL G r S') := by
  refine Met.ofW (cc := b) (maxL := nL) (ret := some .long) hy rfl ?_
  intro p e s m args below meth c s₁ B hml hv
  obtain ⟨rfl, hP, hD, hK, hSt⟩ := hv
  have hts := atoms_spec (ws := Cond.code y b nL (some .long) :: wsG) B.pre
  have hlk := B.notSynchronized
  have hr := B.returns
  have C : Cx (Fx0 p l e (rmD d) s m As.toArray below meth c) G b nL y.cls := ⟨B.exec, B.bytes, hml, findClass_of_methodNamed B.named, fun w hw => hts w (List.mem_cons_of_mem _ hw), hlk, hK, hSt⟩
  have hl := lv_entry As (n := nL) hA
  rw [lg_entry_eq]
  refine body (Fx0 p l e (rmD d) s m As.toArray below meth c) _ C rfl rfl rfl ?_ s.heap [] _ hP hD va_S.rf hl
  intro pc lv hd H locs ls hP hD hS hl
  exact W.lret B.exec B.bytes hr (fun t ht hW => ⟨⟨r, (), rfl, rfl, by rw [ht]; exact hP, hD⟩, hS.F ht⟩) hS.2.2 hd
theorem m_V {l : Launch} {G : GX} {y : MethodName} {b : ByteArray} {nL d : Nat} {S S' : SX} {As : List Value} (hy : plainName y.cls = true) (hA : (lg_sl As).length ≤ nL)
    (body : ∀ (F : FX) (Q : State → Prop), Cx F G b nL y.cls → F.2.2.2.1 = rmD d → F.2.1 = l → F.2.2.2.2.2.2.2.2.2.2 = (0, 0) → RetV F G Q b nL S' → At F G Q nL 0 (lv_args 0 As) [] S) :
    MetC l G y b nL none d S As (PostV G S') := by
  refine Met.ofW (cc := b) (maxL := nL) (ret := none) hy rfl ?_
  intro p e s m args below meth c s₁ B hml hv
  obtain ⟨rfl, hP, hD, hK, hSt⟩ := hv
  have hts := atoms_spec (ws := Cond.code y b nL none :: wsG) B.pre
  have hlk := B.notSynchronized
  have hr := B.returns
  have C : Cx (Fx0 p l e (rmD d) s m As.toArray below meth c) G b nL y.cls := ⟨B.exec, B.bytes, hml, findClass_of_methodNamed B.named, fun w hw => hts w (List.mem_cons_of_mem _ hw), hlk, hK, hSt⟩
  have hl := lv_entry As (n := nL) hA
  rw [lg_entry_eq]
  refine body (Fx0 p l e (rmD d) s m As.toArray below meth c) _ C rfl rfl rfl ?_ s.heap [] _ hP hD va_S.rf hl
  intro pc lv hd H locs ls hP hD hS hl
  exact W.vret B.exec B.bytes hr (fun t ht hW => ⟨⟨(), rfl, trivial, by rw [ht]; exact hP, hD⟩, hS.F ht⟩) hS.2.2 hd
theorem wsG_code {y : MethodName} {b : ByteArray} {nL : Nat} {ret : Option FieldType} (h : Cond.code y b nL ret ∈ wsG) : GoodIn wsG (Cond.code y b nL ret :: wsG) := by
  intro w hw
  rcases List.mem_cons.mp hw with rfl | hw
  · exact ⟨h, good_of_word (wsG_good _ h)⟩
  · exact ⟨hw, good_of_word (wsG_good _ hw)⟩
theorem goodV {y : MethodName} {b : ByteArray} {nL index : Nat} {ret : Option FieldType} {own C : String} (h : Cond.code y b nL ret ∈ wsG) (h1 : Cond.methodLink own index y ∈ wsG) (h2 : Cond.instanceMethod y ∈ wsG) (h3 : Cond.selects C y y ∈ wsG) (h4 : Cond.initialized C ∈ wsG) : GoodIn wsG (wsV own index C y (Cond.code y b nL ret :: wsG)) := by
  intro w hw
  unfold wsV at hw
  rcases List.mem_append.mp hw with hw | hw
  · simp only [List.mem_cons, List.not_mem_nil, or_false] at hw
    rcases hw with rfl | rfl | rfl | rfl
    · exact ⟨h1, good_of_word (wsG_good _ h1)⟩
    · exact ⟨h2, good_of_word (wsG_good _ h2)⟩
    · exact ⟨h3, good_of_word (wsG_good _ h3)⟩
    · exact ⟨h4, good_of_word (wsG_good _ h4)⟩
  · exact wsG_code h w hw
theorem goodS {y : MethodName} {b : ByteArray} {nL index : Nat} {ret : Option FieldType} {own : String} (h : Cond.code y b nL ret ∈ wsG) (h1 : Cond.methodLink own index y ∈ wsG) (h2 : Cond.static y ∈ wsG) (h4 : Cond.initialized y.cls ∈ wsG) : GoodIn wsG (va_wsS own index y (Cond.code y b nL ret :: wsG)) := by
  intro w hw
  unfold va_wsS at hw
  rcases List.mem_append.mp hw with hw | hw
  · simp only [List.mem_cons, List.not_mem_nil, or_false] at hw
    rcases hw with rfl | rfl | rfl
    · exact ⟨h1, good_of_word (wsG_good _ h1)⟩
    · exact ⟨h2, good_of_word (wsG_good _ h2)⟩
    · exact ⟨h4, good_of_word (wsG_good _ h4)⟩
  · exact wsG_code h w hw
/-- what a method's words say, once for each method -/
def CwV (C : String) (y : MethodName) (b : ByteArray) (nL n : Nat) (ret : Option FieldType) : Prop := Cond.code y b nL ret ∈ wsG ∧ Cond.instanceMethod y ∈ wsG ∧ Cond.selects C y y ∈ wsG ∧ Cond.initialized C ∈ wsG ∧ (y.cls = C ∧ y.cls ≠ "java/lang/invoke/MethodHandle" ∧ y.cls ≠ "java/lang/invoke/VarHandle" ∧ (parseMethodDescriptor y.desc).map (fun d => d.parameters.length) = some n) ∧ nL ≤ 21
def CwS (y : MethodName) (b : ByteArray) (nL n : Nat) (ret : Option FieldType) : Prop := Cond.code y b nL ret ∈ wsG ∧ Cond.static y ∈ wsG ∧ Cond.initialized y.cls ∈ wsG ∧ (y.cls ≠ "java/lang/invoke/MethodHandle" ∧ y.cls ≠ "java/lang/invoke/VarHandle" ∧ (parseMethodDescriptor y.desc).map (fun d => d.parameters.length) = some n) ∧ nL ≤ 21
/-- the room of a frame at depth d: callees of lesser depth fit -/
def Rm (F : FX) (d : Nat) : Prop := d ≤ F.2.2.2.1.frames ∧ 48 * d ≤ F.2.2.2.1.locals ∧ F.2.2.2.2.2.2.2.2.2.2.1 ≤ F.2.2.2.1.cells ∧ F.2.2.2.2.2.2.2.2.2.2.2 ≤ F.2.2.2.1.slots
theorem Rm.of {F : FX} {d : Nat} (h : F.2.2.2.1 = rmD d) (h2 : F.2.2.2.2.2.2.2.2.2.2 = (0, 0)) : Rm F d := by
  unfold Rm
  rw [h, h2]
  exact ⟨Nat.le_refl _, Nat.le_refl _, Nat.le_refl _, Nat.le_refl _⟩
theorem a_callVI {F : FX} {G : GX} {Q : State → Prop} {nL pc q : Nat} {lv : List (Nat × Value)} {st : List Value} {S : SX} {cc : ByteArray} {own : String} {k ci : Nat} {Cn : String} {Tn : u_T} {Nn : Nat} {fs : List Value} {index n nl d d' : Nat} {y : MethodName} {bb : ByteArray} {rt : Option FieldType} {As : List Value} {st0 : List Value} {T : Type} {x : Option T} {A : Type} {kf : T → Option A} {res : A} (C : Cx F G cc nL own) (hd : decode cc pc = .ok (.invokevirtual index, 3)) (hR : Rm F d) (hdd : d' < d) (hf : b1 x kf = some res) (val : T → Int32) (nxt : T → SX) (hk : k < 58) (hc : cellE G S k = .inr (ci, fs)) (hcl : vwCl[ci]? = some (Cn, Tn, Nn)) (cw1 : CwV Cn y bb nl n rt) (hM : ∀ b, x = some b → MetC F.2.1 G y bb nl rt d' S (.ref (G.2.1 k) :: As) (PostI G (val b) (nxt b))) (hn : As.length = n) (hst : st0 = As.reverse ++ .ref (G.2.1 k) :: st) (hW : (st.map fun v => v.category).sum ≤ 8) (hL : Cond.methodLink own index y ∈ wsG) (hq : pc + 3 = q) (kk : ∀ b, kf b = some res → At F G Q nL q lv (.int (val b) :: st) (nxt b)) : At F G Q nL pc lv st0 S := by
  obtain ⟨b, hb0, hf⟩ := b1_some hf
  have hM := hM b hb0
  have kk := kk b hf
  obtain ⟨p, l, e, R, s, m, args, below, meth, c, ce, sl⟩ := F
  obtain ⟨hx, hb, hml, hown, hts, hlk, hK, hSt⟩ := C
  subst hq
  intro H locs ls hP hD hS hl
  obtain ⟨hR1, hR2, hR3, hR4⟩ := hR
  dsimp only at hR1 hR2 hR3 hR4 hM
  subst hst
  obtain ⟨w1, w2, w3, w4, w5, w6⟩ := cw1
  refine va_calli (va_runV (As := As) (rest := st) ⟨hx, hb, hml, hown, hts⟩ hM (cwV n hts (goodV w1 hL w2 w3 w4) rfl rfl rfl w5 ⟨by show d' + 1 ≤ _; omega, by show 8 + (nl + 11) + 48 * d' ≤ _; omega⟩) ⟨PreC.blind, va_recv hK hP hcl (cw_at hk hc), fun U hU hW => ⟨rfl, by rw [hU]; exact hP, hD, va_K.moved hW.alike hK, by rw [hU]; exact hSt.go hW hS.2.1⟩⟩ rfl hn hl.1 rfl (lv_room hW) hd ⟨hR3, hR4⟩) hS (fun _ _ h => h) (fun _ h => h) (fun r u t H1 locs1 ht hvm hw hB hz1 hk1 hS1 => ?_)
  have hw : r = val b := hw
  subst hw
  obtain ⟨hP1, hD1⟩ := hB
  rw [ht] at hP1
  exact kk H1 locs1 ls hP1 hD1 hS1 hl
theorem a_callVL {F : FX} {G : GX} {Q : State → Prop} {nL pc q : Nat} {lv : List (Nat × Value)} {st : List Value} {S : SX} {cc : ByteArray} {own : String} {k ci : Nat} {Cn : String} {Tn : u_T} {Nn : Nat} {fs : List Value} {index n nl d d' : Nat} {y : MethodName} {bb : ByteArray} {rt : Option FieldType} {As : List Value} {st0 : List Value} {T : Type} {x : Option T} {A : Type} {kf : T → Option A} {res : A} (C : Cx F G cc nL own) (hd : decode cc pc = .ok (.invokevirtual index, 3)) (hR : Rm F d) (hdd : d' < d) (hf : b1 x kf = some res) (val : T → Int64) (nxt : T → SX) (hk : k < 58) (hc : cellE G S k = .inr (ci, fs)) (hcl : vwCl[ci]? = some (Cn, Tn, Nn)) (cw1 : CwV Cn y bb nl n rt) (hM : ∀ b, x = some b → MetC F.2.1 G y bb nl rt d' S (.ref (G.2.1 k) :: As) (PostL G (val b) (nxt b))) (hn : As.length = n) (hst : st0 = As.reverse ++ .ref (G.2.1 k) :: st) (hW : (st.map fun v => v.category).sum ≤ 8) (hL : Cond.methodLink own index y ∈ wsG) (hq : pc + 3 = q) (kk : ∀ b, kf b = some res → At F G Q nL q lv (.long (val b) :: st) (nxt b)) : At F G Q nL pc lv st0 S := by
  obtain ⟨b, hb0, hf⟩ := b1_some hf
  have hM := hM b hb0
  have kk := kk b hf
  obtain ⟨p, l, e, R, s, m, args, below, meth, c, ce, sl⟩ := F
  obtain ⟨hx, hb, hml, hown, hts, hlk, hK, hSt⟩ := C
  subst hq
  intro H locs ls hP hD hS hl
  obtain ⟨hR1, hR2, hR3, hR4⟩ := hR
  dsimp only at hR1 hR2 hR3 hR4 hM
  subst hst
  obtain ⟨w1, w2, w3, w4, w5, w6⟩ := cw1
  refine va_calll (va_runV (As := As) (rest := st) ⟨hx, hb, hml, hown, hts⟩ hM (cwV n hts (goodV w1 hL w2 w3 w4) rfl rfl rfl w5 ⟨by show d' + 1 ≤ _; omega, by show 8 + (nl + 11) + 48 * d' ≤ _; omega⟩) ⟨PreC.blind, va_recv hK hP hcl (cw_at hk hc), fun U hU hW => ⟨rfl, by rw [hU]; exact hP, hD, va_K.moved hW.alike hK, by rw [hU]; exact hSt.go hW hS.2.1⟩⟩ rfl hn hl.1 rfl (lv_room hW) hd ⟨hR3, hR4⟩) hS (fun _ _ h => h) (fun _ h => h) (fun r u t H1 locs1 ht hvm hw hB hz1 hk1 hS1 => ?_)
  have hw : r = val b := hw
  subst hw
  obtain ⟨hP1, hD1⟩ := hB
  rw [ht] at hP1
  exact kk H1 locs1 ls hP1 hD1 hS1 hl
theorem a_callVV {F : FX} {G : GX} {Q : State → Prop} {nL pc q : Nat} {lv : List (Nat × Value)} {st : List Value} {S : SX} {cc : ByteArray} {own : String} {k ci : Nat} {Cn : String} {Tn : u_T} {Nn : Nat} {fs : List Value} {index n nl d d' : Nat} {y : MethodName} {bb : ByteArray} {rt : Option FieldType} {As : List Value} {st0 : List Value} {T : Type} {x : Option T} {A : Type} {kf : T → Option A} {res : A} (C : Cx F G cc nL own) (hd : decode cc pc = .ok (.invokevirtual index, 3)) (hR : Rm F d) (hdd : d' < d) (hf : b1 x kf = some res) (nxt : T → SX) (hk : k < 58) (hc : cellE G S k = .inr (ci, fs)) (hcl : vwCl[ci]? = some (Cn, Tn, Nn)) (cw1 : CwV Cn y bb nl n rt) (hM : ∀ b, x = some b → MetC F.2.1 G y bb nl rt d' S (.ref (G.2.1 k) :: As) (PostV G (nxt b))) (hn : As.length = n) (hst : st0 = As.reverse ++ .ref (G.2.1 k) :: st) (hW : (st.map fun v => v.category).sum ≤ 8) (hL : Cond.methodLink own index y ∈ wsG) (hq : pc + 3 = q) (kk : ∀ b, kf b = some res → At F G Q nL q lv (st) (nxt b)) : At F G Q nL pc lv st0 S := by
  obtain ⟨b, hb0, hf⟩ := b1_some hf
  have hM := hM b hb0
  have kk := kk b hf
  obtain ⟨p, l, e, R, s, m, args, below, meth, c, ce, sl⟩ := F
  obtain ⟨hx, hb, hml, hown, hts, hlk, hK, hSt⟩ := C
  subst hq
  intro H locs ls hP hD hS hl
  obtain ⟨hR1, hR2, hR3, hR4⟩ := hR
  dsimp only at hR1 hR2 hR3 hR4 hM
  subst hst
  obtain ⟨w1, w2, w3, w4, w5, w6⟩ := cw1
  refine va_callv (va_runV (As := As) (rest := st) ⟨hx, hb, hml, hown, hts⟩ hM (cwV n hts (goodV w1 hL w2 w3 w4) rfl rfl rfl w5 ⟨by show d' + 1 ≤ _; omega, by show 8 + (nl + 11) + 48 * d' ≤ _; omega⟩) ⟨PreC.blind, va_recv hK hP hcl (cw_at hk hc), fun U hU hW => ⟨rfl, by rw [hU]; exact hP, hD, va_K.moved hW.alike hK, by rw [hU]; exact hSt.go hW hS.2.1⟩⟩ rfl hn hl.1 rfl (lv_room hW) hd ⟨hR3, hR4⟩) hS (fun _ _ h => h) (fun _ h => h) (fun u t H1 locs1 ht hvm hw hB hz1 hk1 hS1 => ?_)
  obtain ⟨hP1, hD1⟩ := hB
  rw [ht] at hP1
  exact kk H1 locs1 ls hP1 hD1 hS1 hl
theorem a_callSI {F : FX} {G : GX} {Q : State → Prop} {nL pc q : Nat} {lv : List (Nat × Value)} {st : List Value} {S : SX} {cc : ByteArray} {own : String} {index n nl d d' : Nat} {y : MethodName} {bb : ByteArray} {rt : Option FieldType} {As : List Value} {st0 : List Value} {T : Type} {x : Option T} {A : Type} {kf : T → Option A} {res : A} (C : Cx F G cc nL own) (hd : decode cc pc = .ok (.invokestatic index, 3)) (hR : Rm F d) (hdd : d' < d) (hf : b1 x kf = some res) (val : T → Int32) (nxt : T → SX) (cw1 : CwS y bb nl n rt) (hM : ∀ b, x = some b → MetC F.2.1 G y bb nl rt d' S (As) (PostI G (val b) (nxt b))) (hn : As.length = n) (hst : st0 = As.reverse ++ st) (hW : (st.map fun v => v.category).sum ≤ 8) (hL : Cond.methodLink own index y ∈ wsG) (hq : pc + 3 = q) (kk : ∀ b, kf b = some res → At F G Q nL q lv (.int (val b) :: st) (nxt b)) : At F G Q nL pc lv st0 S := by
  obtain ⟨b, hb0, hf⟩ := b1_some hf
  have hM := hM b hb0
  have kk := kk b hf
  obtain ⟨p, l, e, R, s, m, args, below, meth, c, ce, sl⟩ := F
  obtain ⟨hx, hb, hml, hown, hts, hlk, hK, hSt⟩ := C
  subst hq
  intro H locs ls hP hD hS hl
  obtain ⟨hR1, hR2, hR3, hR4⟩ := hR
  dsimp only at hR1 hR2 hR3 hR4 hM
  subst hst
  obtain ⟨w1, w2, w4, w5, w6⟩ := cw1
  refine va_calli (va_runS (As := As) (rest := st) ⟨hx, hb, hml, hown, hts⟩ hM (va_cwS n hts (goodS w1 hL w2 w4) rfl rfl rfl w5 ⟨by show d' + 1 ≤ _; omega, by show 8 + (nl + 11) + 48 * d' ≤ _; omega⟩) ⟨PreC.blind, fun U hU hW => ⟨rfl, by rw [hU]; exact hP, hD, va_K.moved hW.alike hK, by rw [hU]; exact hSt.go hW hS.2.1⟩⟩ rfl hn hl.1 rfl (lv_room hW) hd ⟨hR3, hR4⟩) hS (fun _ _ h => h) (fun _ h => h) (fun r u t H1 locs1 ht hvm hw hB hz1 hk1 hS1 => ?_)
  have hw : r = val b := hw
  subst hw
  obtain ⟨hP1, hD1⟩ := hB
  rw [ht] at hP1
  exact kk H1 locs1 ls hP1 hD1 hS1 hl
theorem a_callSL {F : FX} {G : GX} {Q : State → Prop} {nL pc q : Nat} {lv : List (Nat × Value)} {st : List Value} {S : SX} {cc : ByteArray} {own : String} {index n nl d d' : Nat} {y : MethodName} {bb : ByteArray} {rt : Option FieldType} {As : List Value} {st0 : List Value} {T : Type} {x : Option T} {A : Type} {kf : T → Option A} {res : A} (C : Cx F G cc nL own) (hd : decode cc pc = .ok (.invokestatic index, 3)) (hR : Rm F d) (hdd : d' < d) (hf : b1 x kf = some res) (val : T → Int64) (nxt : T → SX) (cw1 : CwS y bb nl n rt) (hM : ∀ b, x = some b → MetC F.2.1 G y bb nl rt d' S (As) (PostL G (val b) (nxt b))) (hn : As.length = n) (hst : st0 = As.reverse ++ st) (hW : (st.map fun v => v.category).sum ≤ 8) (hL : Cond.methodLink own index y ∈ wsG) (hq : pc + 3 = q) (kk : ∀ b, kf b = some res → At F G Q nL q lv (.long (val b) :: st) (nxt b)) : At F G Q nL pc lv st0 S := by
  obtain ⟨b, hb0, hf⟩ := b1_some hf
  have hM := hM b hb0
  have kk := kk b hf
  obtain ⟨p, l, e, R, s, m, args, below, meth, c, ce, sl⟩ := F
  obtain ⟨hx, hb, hml, hown, hts, hlk, hK, hSt⟩ := C
  subst hq
  intro H locs ls hP hD hS hl
  obtain ⟨hR1, hR2, hR3, hR4⟩ := hR
  dsimp only at hR1 hR2 hR3 hR4 hM
  subst hst
  obtain ⟨w1, w2, w4, w5, w6⟩ := cw1
  refine va_calll (va_runS (As := As) (rest := st) ⟨hx, hb, hml, hown, hts⟩ hM (va_cwS n hts (goodS w1 hL w2 w4) rfl rfl rfl w5 ⟨by show d' + 1 ≤ _; omega, by show 8 + (nl + 11) + 48 * d' ≤ _; omega⟩) ⟨PreC.blind, fun U hU hW => ⟨rfl, by rw [hU]; exact hP, hD, va_K.moved hW.alike hK, by rw [hU]; exact hSt.go hW hS.2.1⟩⟩ rfl hn hl.1 rfl (lv_room hW) hd ⟨hR3, hR4⟩) hS (fun _ _ h => h) (fun _ h => h) (fun r u t H1 locs1 ht hvm hw hB hz1 hk1 hS1 => ?_)
  have hw : r = val b := hw
  subst hw
  obtain ⟨hP1, hD1⟩ := hB
  rw [ht] at hP1
  exact kk H1 locs1 ls hP1 hD1 hS1 hl
theorem a_callSV {F : FX} {G : GX} {Q : State → Prop} {nL pc q : Nat} {lv : List (Nat × Value)} {st : List Value} {S : SX} {cc : ByteArray} {own : String} {index n nl d d' : Nat} {y : MethodName} {bb : ByteArray} {rt : Option FieldType} {As : List Value} {st0 : List Value} {T : Type} {x : Option T} {A : Type} {kf : T → Option A} {res : A} (C : Cx F G cc nL own) (hd : decode cc pc = .ok (.invokestatic index, 3)) (hR : Rm F d) (hdd : d' < d) (hf : b1 x kf = some res) (nxt : T → SX) (cw1 : CwS y bb nl n rt) (hM : ∀ b, x = some b → MetC F.2.1 G y bb nl rt d' S (As) (PostV G (nxt b))) (hn : As.length = n) (hst : st0 = As.reverse ++ st) (hW : (st.map fun v => v.category).sum ≤ 8) (hL : Cond.methodLink own index y ∈ wsG) (hq : pc + 3 = q) (kk : ∀ b, kf b = some res → At F G Q nL q lv (st) (nxt b)) : At F G Q nL pc lv st0 S := by
  obtain ⟨b, hb0, hf⟩ := b1_some hf
  have hM := hM b hb0
  have kk := kk b hf
  obtain ⟨p, l, e, R, s, m, args, below, meth, c, ce, sl⟩ := F
  obtain ⟨hx, hb, hml, hown, hts, hlk, hK, hSt⟩ := C
  subst hq
  intro H locs ls hP hD hS hl
  obtain ⟨hR1, hR2, hR3, hR4⟩ := hR
  dsimp only at hR1 hR2 hR3 hR4 hM
  subst hst
  obtain ⟨w1, w2, w4, w5, w6⟩ := cw1
  refine va_callv (va_runS (As := As) (rest := st) ⟨hx, hb, hml, hown, hts⟩ hM (va_cwS n hts (goodS w1 hL w2 w4) rfl rfl rfl w5 ⟨by show d' + 1 ≤ _; omega, by show 8 + (nl + 11) + 48 * d' ≤ _; omega⟩) ⟨PreC.blind, fun U hU hW => ⟨rfl, by rw [hU]; exact hP, hD, va_K.moved hW.alike hK, by rw [hU]; exact hSt.go hW hS.2.1⟩⟩ rfl hn hl.1 rfl (lv_room hW) hd ⟨hR3, hR4⟩) hS (fun _ _ h => h) (fun _ h => h) (fun u t H1 locs1 ht hvm hw hB hz1 hk1 hS1 => ?_)
  obtain ⟨hP1, hD1⟩ := hB
  rw [ht] at hP1
  exact kk H1 locs1 ls hP1 hD1 hS1 hl
theorem a_callTI {F : FX} {G : GX} {Q : State → Prop} {nL pc q : Nat} {lv : List (Nat × Value)} {st : List Value} {S : SX} {cc : ByteArray} {own : String} {t : Nat} {index n nl d d' : Nat} {y : MethodName} {bb : ByteArray} {rt : Option FieldType} {As : List Value} {st0 : List Value} {T : Type} {x : Option T} {A : Type} {kf : T → Option A} {res : A} (C : Cx F G cc nL own) (hd : decode cc pc = .ok (.invokevirtual index, 3)) (hR : Rm F d) (hdd : d' < d) (hf : b1 x kf = some res) (val : T → Int32) (nxt : T → SX) (ht2 : t < 2) (cw1 : CwV "java/lang/String" y bb nl n rt) (hM : ∀ b, x = some b → MetC F.2.1 G y bb nl rt d' S (.ref (G.2.2.2 (5 + t)) :: As) (PostI G (val b) (nxt b))) (hn : As.length = n) (hst : st0 = As.reverse ++ .ref (G.2.2.2 (5 + t)) :: st) (hW : (st.map fun v => v.category).sum ≤ 8) (hL : Cond.methodLink own index y ∈ wsG) (hq : pc + 3 = q) (kk : ∀ b, kf b = some res → At F G Q nL q lv (.int (val b) :: st) (nxt b)) : At F G Q nL pc lv st0 S := by
  obtain ⟨b, hb0, hf⟩ := b1_some hf
  have hM := hM b hb0
  have kk := kk b hf
  obtain ⟨p, l, e, R, s, m, args, below, meth, c, ce, sl⟩ := F
  obtain ⟨hx, hb, hml, hown, hts, hlk, hK, hSt⟩ := C
  subst hq
  intro H locs ls hP hD hS hl
  obtain ⟨hR1, hR2, hR3, hR4⟩ := hR
  dsimp only at hR1 hR2 hR3 hR4 hM
  subst hst
  obtain ⟨w1, w2, w3, w4, w5, w6⟩ := cw1
  refine va_calli (va_runV (As := As) (rest := st) ⟨hx, hb, hml, hown, hts⟩ hM (cwV n hts (goodV w1 hL w2 w3 w4) rfl rfl rfl w5 ⟨by show d' + 1 ≤ _; omega, by show 8 + (nl + 11) + 48 * d' ≤ _; omega⟩) ⟨PreC.blind, vk_recv hSt.2.2.2.2.2.2.1 ht2 hS, fun U hU hW => ⟨rfl, by rw [hU]; exact hP, hD, va_K.moved hW.alike hK, by rw [hU]; exact hSt.go hW hS.2.1⟩⟩ rfl hn hl.1 rfl (lv_room hW) hd ⟨hR3, hR4⟩) hS (fun _ _ h => h) (fun _ h => h) (fun r u t H1 locs1 ht hvm hw hB hz1 hk1 hS1 => ?_)
  have hw : r = val b := hw
  subst hw
  obtain ⟨hP1, hD1⟩ := hB
  rw [ht] at hP1
  exact kk H1 locs1 ls hP1 hD1 hS1 hl
theorem nfw7 : nativeFrameWords "java/lang/System" "arraycopy" 5 = 7 := by decide
theorem a_copyN {F : FX} {G : GX} {Q : State → Prop} {nL pc q : Nat} {lv : List (Nat × Value)} {st : List Value} {S : SX} {cc : ByteArray} {own : String} {index d k0 k1 N0 N1 : Nat} {f0 f1 : Nat → Int32} {sp dp n : Int32} {T : Type} {mk : T → SX} {z : T} {B : Type} {f : T → Option B} {r : B} (C : Cx F G cc nL own) (hd : decode cc pc = .ok (.invokestatic index, 3)) (hR : Rm F d) (hd1 : 2 ≤ d) (hf : cpk sp dp n N0 N1 (nm z f) = some r) (hW : (st.map fun v => v.category).sum ≤ 8) (hL : Cond.methodLink own index arraycopyName ∈ wsG) (hk0 : k0 < 58) (hk1 : k1 < 58) (hc0 : cellE G S k0 = .inl (G.2.2.1 1, N0, .inl f0)) (hc1 : cellE G S k1 = .inl (G.2.2.1 1, N1, .inl f1)) (h2 : cellE G (mk z) k1 = .inl (G.2.2.1 1, N1, .inl (va_cpy f0 f1 sp.toNatClampNeg dp.toNatClampNeg n.toNatClampNeg))) (h3 : ∀ i, i ≠ k1 → cellE G (mk z) i = cellE G S i) (hq : pc + 3 = q) (kk : ∀ z, f z = some r → At F G Q nL q lv st (mk z)) : At F G Q nL pc lv (.int n :: .int dp :: .ref (G.2.1 k1) :: .int sp :: .ref (G.2.1 k0) :: st) S := by
  obtain ⟨p, l, e, R, s, m, args, below, meth, c, ce, sl⟩ := F
  obtain ⟨hx, hb, hml, hown, hts, hlk, hK, hSt⟩ := C
  subst hq
  intro H locs ls hP hD hS hl
  obtain ⟨hR1, hR2, hR3, hR4⟩ := hR
  dsimp only at hR1 hR2 hR3 hR4
  obtain ⟨⟨g1, g2, g3, g4, g5⟩, hf⟩ := cpk_some hf
  refine va_copyi hx hb (by rw [hml]; exact hl.1.symm) hown (hts _ hL) (hts _ k_709) (hts _ k_708) (hts _ k_17) hK hP hD hS k0 k1 1 1 (cw_at hk0 hc0) (cw_at hk1 hc1) rfl rfl rfl g1 g2 g3 g4 g5 (fun _ _ => rfl) (by omega) (by rw [nfw7]; omega) hd (fun H1 locs1 hP1 hD1 hS1 => ?_)
  rw [cw_set' hk1 h3 h2] at hP1 hD1
  exact kk z hf H1 locs1 ls hP1 hD1 hS1 hl
theorem a_strval {F : FX} {G : GX} {Q : State → Prop} {nL pc q : Nat} {lv : List (Nat × Value)} {st : List Value} {S : SX} {cc : ByteArray} {own : String} {index t : Nat} (C : Cx F G cc nL own) (hd : decode cc pc = .ok (.getfield index, 3)) (ht : t < 2) (hL : Cond.fieldLink own index "java/lang/String" "value" "[B" ∈ wsG) (hq : pc + 3 = q) (kk : At F G Q nL q lv (.ref (G.2.2.2 (7 + t)) :: st) S) : At F G Q nL pc lv (.ref (G.2.2.2 (5 + t)) :: st) S := by
  obtain ⟨p, l, e, R, s, m, args, below, meth, c, ce, sl⟩ := F
  obtain ⟨hx, hb, hml, hown, hts, hlk, hK, hSt⟩ := C
  subst hq
  intro H locs ls hP hD hS hl
  exact vk_getf hx hb (hSt.2.2.2.2.2.2.1.1 t ht).2.2.1 hS hown (hts _ hL) (fun _ h9 => h9) hd (kk H locs ls hP hD hS hl)
theorem a_strcod {F : FX} {G : GX} {Q : State → Prop} {nL pc q : Nat} {lv : List (Nat × Value)} {st : List Value} {S : SX} {cc : ByteArray} {own : String} {index t : Nat} (C : Cx F G cc nL own) (hd : decode cc pc = .ok (.getfield index, 3)) (ht : t < 2) (hL : Cond.fieldLink own index "java/lang/String" "coder" "B" ∈ wsG) (hq : pc + 3 = q) (kk : At F G Q nL q lv (.int 0 :: st) S) : At F G Q nL pc lv (.ref (G.2.2.2 (5 + t)) :: st) S := by
  obtain ⟨p, l, e, R, s, m, args, below, meth, c, ce, sl⟩ := F
  obtain ⟨hx, hb, hml, hown, hts, hlk, hK, hSt⟩ := C
  subst hq
  intro H locs ls hP hD hS hl
  exact vk_getf hx hb (hSt.2.2.2.2.2.2.1.1 t ht).2.1 hS hown (hts _ hL) (fun _ h9 => h9) hd (kk H locs ls hP hD hS hl)
theorem a_getsCS {F : FX} {G : GX} {Q : State → Prop} {nL pc q : Nat} {lv : List (Nat × Value)} {st : List Value} {S : SX} {cc : ByteArray} {own : String} {index : Nat} (C : Cx F G cc nL own) (hd : decode cc pc = .ok (.getstatic index, 3)) (hL : Cond.fieldLink own index "java/lang/String" "COMPACT_STRINGS" "Z" ∈ wsG) (hq : pc + 3 = q) (kk : At F G Q nL q lv (.int 1 :: st) S) : At F G Q nL pc lv st S := by
  obtain ⟨p, l, e, R, s, m, args, below, meth, c, ce, sl⟩ := F
  obtain ⟨hx, hb, hml, hown, hts, hlk, hK, hSt⟩ := C
  subst hq
  intro H locs ls hP hD hS hl
  exact va_gets hx hb hSt.2.2.2.2.2.1 hS hown (hts _ hL) (fun _ h9 => h9) hd (kk H locs ls hP hD hS hl)
theorem tx4 {t : Nat} (ht : t < 2) : txl.getD t 0 = 4 := by rcases (show t = 0 ∨ t = 1 by omega) with rfl | rfl <;> rfl
def txv (t i : Nat) : Int32 := (txb.getD t []).getD i 0
theorem a_strlen {F : FX} {G : GX} {Q : State → Prop} {nL pc q : Nat} {lv : List (Nat × Value)} {st : List Value} {S : SX} {cc : ByteArray} {own : String} {t : Nat} (C : Cx F G cc nL own) (hd : decode cc pc = .ok (.arraylength, 1)) (ht : t < 2) (hq : pc + 1 = q) (kk : At F G Q nL q lv (.int 4 :: st) S) : At F G Q nL pc lv (.ref (G.2.2.2 (7 + t)) :: st) S := by
  obtain ⟨p, l, e, R, s, m, args, below, meth, c, ce, sl⟩ := F
  obtain ⟨hx, hb, hml, hown, hts, hlk, hK, hSt⟩ := C
  subst hq
  intro H locs ls hP hD hS hl
  exact va_tlen hx hb (hSt.2.2.2.2.2.2.1.1 t ht).2.2.2 hS (by rw [tx4 ht]; rfl) hd (kk H locs ls hP hD hS hl)
theorem a_strld {F : FX} {G : GX} {Q : State → Prop} {nL pc q : Nat} {lv : List (Nat × Value)} {st : List Value} {S : SX} {cc : ByteArray} {own : String} {t : Nat} {i : Int32} {B : Type} {a : Option B} {r : B} (C : Cx F G cc nL own) (hd : decode cc pc = .ok (.baload, 1)) (hf : ix i 4 a = some r) (ht : t < 2) (hq : pc + 1 = q) (kk : a = some r → At F G Q nL q lv (.int (txv t i.toNatClampNeg) :: st) S) : At F G Q nL pc lv (.int i :: .ref (G.2.2.2 (7 + t)) :: st) S := by
  obtain ⟨p, l, e, R, s, m, args, below, meth, c, ce, sl⟩ := F
  obtain ⟨hx, hb, hml, hown, hts, hlk, hK, hSt⟩ := C
  subst hq
  intro H locs ls hP hD hS hl
  obtain ⟨hin, hf⟩ := ix_some hf
  exact va_tb hx hb (hSt.2.2.2.2.2.2.1.1 t ht).2.2.2 hS (by rw [tx4 ht]; exact hin) rfl hd (kk hf H locs ls hP hD hS hl)
theorem b_ldcS0 {F : FX} {G : GX} {Q : State → Prop} {nL pc q : Nat} {lv : List (Nat × Value)} {st : List Value} {S : SX} {cc : ByteArray} (C : Cx F G cc nL RX5) (hd : decode cc pc = .ok (.ldc 26, 2)) (hq : pc + 2 = q) (kk : At F G Q nL q lv (.ref (G.2.2.2 (5 + 0)) :: st) S) : At F G Q nL pc lv st S := by
  obtain ⟨p, l, e, R, s, m, args, below, meth, c, ce, sl⟩ := F
  obtain ⟨hx, hb, hml, hown, hts, hlk, hK, hSt⟩ := C
  subst hq
  intro H locs ls hP hD hS hl
  exact va_ldcS hx hb hown hSt.2.2.2.2.2.2.2.1 hd (kk H locs ls hP hD hS hl)
theorem b_ldcS1 {F : FX} {G : GX} {Q : State → Prop} {nL pc q : Nat} {lv : List (Nat × Value)} {st : List Value} {S : SX} {cc : ByteArray} (C : Cx F G cc nL RX5) (hd : decode cc pc = .ok (.ldc 32, 2)) (hq : pc + 2 = q) (kk : At F G Q nL q lv (.ref (G.2.2.2 (5 + 1)) :: st) S) : At F G Q nL pc lv st S := by
  obtain ⟨p, l, e, R, s, m, args, below, meth, c, ce, sl⟩ := F
  obtain ⟨hx, hb, hml, hown, hts, hlk, hK, hSt⟩ := C
  subst hq
  intro H locs ls hP hD hS hl
  exact va_ldcS hx hb hown hSt.2.2.2.2.2.2.2.2 hd (kk H locs ls hP hD hS hl)
/-! cells told by a kind -/
def isBal (b : Nat) : Prop := b = 18 ∨ b = 20 ∨ b = 21 ∨ b = 24 ∨ b = 25 ∨ b = 27 ∨ b = 28
def isSh (k : Nat) : Prop := k = 30 ∨ k = 32 ∨ k = 34 ∨ k = 36
def isWh (k : Nat) : Prop := k = 1 ∨ k = 7
theorem isBal.lt {b : Nat} (h : isBal b) : b < 58 := by unfold isBal at h; omega
theorem isSh.lt {b : Nat} (h : isSh b) : b < 58 := by unfold isSh at h; omega
theorem isSh.lt1 {b : Nat} (h : isSh b) : b + 1 < 58 := by unfold isSh at h; omega
theorem isWh.lt {b : Nat} (h : isWh b) : b < 58 := by unfold isWh at h; omega
theorem isWh.lt5 {b i : Nat} (h : isWh b) (hi : i ≤ 5) : b + i < 58 := by unfold isWh at h; omega
theorem isBal.at {b : Nat} (h : isBal b) (G : GX) (s : MM) (r : SR) : cellE G (s, r) b = .inr (2, [.int (s b 0), .int (s b 1), .int (s b 2), .int (s b 3)]) := by
  rcases h with rfl | rfl | rfl | rfl | rfl | rfl | rfl <;> rfl
theorem isSh.at {k : Nat} (h : isSh k) (G : GX) (s : MM) (r : SR) : cellE G (s, r) k = .inr (3, [.ref (G.2.1 (k + 1)), .int (s k 1), .int (s k 2), .int (s k 3)]) := by
  rcases h with rfl | rfl | rfl | rfl <;> rfl
theorem isSh.items {k : Nat} (h : isSh k) (G : GX) (s : MM) (r : SR) : cellE G (s, r) (k + 1) = .inl (G.2.2.1 1, 24, .inl (s (k + 1))) := by
  rcases h with rfl | rfl | rfl | rfl <;> rfl
theorem isWh.at {k : Nat} (h : isWh k) (G : GX) (s : MM) (r : SR) : cellE G (s, r) k = .inr (6, [.ref (G.2.1 (k + 1)), .ref (G.2.1 (k + 2)), .ref (G.2.1 (k + 3)), .ref (G.2.1 (k + 4)), .ref (G.2.1 (k + 5)), .int (s k 5), .int (s k 6), .int (s k 7)]) := by
  rcases h with rfl | rfl <;> rfl
theorem isWh.arr {k i : Nat} (h : isWh k) (h1 : 1 ≤ i) (h2 : i ≤ 4) (G : GX) (s : MM) (r : SR) : cellE G (s, r) (k + i) = .inl (G.2.2.1 1, 10, .inl (s (k + i))) := by
  rcases (show i = 1 ∨ i = 2 ∨ i = 3 ∨ i = 4 by omega) with rfl | rfl | rfl | rfl <;> rcases h with rfl | rfl <;> rfl
theorem isWh.sand {k : Nat} (h : isWh k) (G : GX) (s : MM) (r : SR) : cellE G (s, r) (k + 5) = .inl (G.2.2.1 1, 12, .inl (s (k + 5))) := by
  rcases h with rfl | rfl <;> rfl
theorem isBal.put {b : Nat} (h : isBal b) {j : Nat} (hj : j < 4) (G : GX) (s : MM) (r : SR) (v : Int32) : cellE G (st1 s b j v, r) b = .inr (2, [Value.int (s b 0), .int (s b 1), .int (s b 2), .int (s b 3)].set j (.int v)) := by
  rw [h.at]
  rcases (show j = 0 ∨ j = 1 ∨ j = 2 ∨ j = 3 by omega) with rfl | rfl | rfl | rfl <;> simp [st1, stA, upd]
theorem isSh.put {k : Nat} (h : isSh k) {j : Nat} (hj : j < 4) (hj0 : 0 < j) (G : GX) (s : MM) (r : SR) (v : Int32) : cellE G (st1 s k j v, r) k = .inr (3, [Value.ref (G.2.1 (k + 1)), .int (s k 1), .int (s k 2), .int (s k 3)].set j (.int v)) := by
  rw [h.at]
  rcases (show j = 1 ∨ j = 2 ∨ j = 3 by omega) with rfl | rfl | rfl <;> simp [st1, stA, upd]
theorem isSh.itput {k : Nat} (h : isSh k) (G : GX) (s : MM) (r : SR) (f : Nat → Int32) : cellE G (stA s (k + 1) f, r) (k + 1) = .inl (G.2.2.1 1, 24, .inl f) := by
  rw [h.items]
  simp [stA]
theorem isWh.put {k : Nat} (h : isWh k) {j : Nat} (hj : j < 8) (hj0 : 5 ≤ j) (G : GX) (s : MM) (r : SR) (v : Int32) : cellE G (st1 s k j v, r) k = .inr (6, [Value.ref (G.2.1 (k + 1)), .ref (G.2.1 (k + 2)), .ref (G.2.1 (k + 3)), .ref (G.2.1 (k + 4)), .ref (G.2.1 (k + 5)), .int (s k 5), .int (s k 6), .int (s k 7)].set j (.int v)) := by
  rw [h.at]
  rcases (show j = 5 ∨ j = 6 ∨ j = 7 by omega) with rfl | rfl | rfl <;> simp [st1, stA, upd]
theorem isWh.arrput {k i : Nat} (h : isWh k) (h1 : 1 ≤ i) (h2 : i ≤ 4) (G : GX) (s : MM) (r : SR) (f : Nat → Int32) : cellE G (stA s (k + i) f, r) (k + i) = .inl (G.2.2.1 1, 10, .inl f) := by
  rw [h.arr h1 h2]
  simp [stA]
theorem isWh.sandput {k : Nat} (h : isWh k) (G : GX) (s : MM) (r : SR) (f : Nat → Int32) : cellE G (stA s (k + 5) f, r) (k + 5) = .inl (G.2.2.1 1, 12, .inl f) := by
  rw [h.sand]
  simp [stA]
theorem isSh_of {i : Int32} (h : vp_in i 4) : isSh (30 + 2 * i.toNatClampNeg) := by
  obtain ⟨j, hj, rfl⟩ := vp_in_of h (by decide)
  rw [nI_clamp (by omega)]
  unfold isSh
  omega
end
