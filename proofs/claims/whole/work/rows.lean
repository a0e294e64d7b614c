section
-- ===== PART A: goes FIRST, ahead of the names: the tables' words, and 'selects' of the private methods out of them =====
/-- a private method of a class that the tables say can be made, by its rows of tables_1 -/
def lw_okq (q : MethodName × Nat) : Prop := (q.1.cls ≠ "java/lang/invoke/MethodHandle" ∧ q.1.cls ≠ "java/lang/invoke/VarHandle") ∧ Cond.instantiable q.1.cls q.2 ∈ tables_1 ∧ Cond.privateMethod q.1 ∈ tables_1 ∧ Cond.instanceMethod q.1 ∈ tables_1
theorem lw_p0 : lw_okq (⟨"UpperSteps$Parser", "takeToken", "()V"⟩, 6) := ⟨⟨by decide +kernel, by decide +kernel⟩, List.mem_of_getElem? (i := 102) (by decide +kernel), List.mem_of_getElem? (i := 325) (by decide +kernel), List.mem_of_getElem? (i := 326) (by decide +kernel)⟩
theorem lw_p1 : lw_okq (⟨"UpperSteps$Parser", "refuse", "(II)V"⟩, 6) := ⟨⟨by decide +kernel, by decide +kernel⟩, List.mem_of_getElem? (i := 102) (by decide +kernel), List.mem_of_getElem? (i := 336) (by decide +kernel), List.mem_of_getElem? (i := 337) (by decide +kernel)⟩
theorem lw_p2 : lw_okq (⟨"UpperSteps$Parser", "parseBook", "()V"⟩, 6) := ⟨⟨by decide +kernel, by decide +kernel⟩, List.mem_of_getElem? (i := 102) (by decide +kernel), List.mem_of_getElem? (i := 401) (by decide +kernel), List.mem_of_getElem? (i := 402) (by decide +kernel)⟩
theorem lw_p3 : lw_okq (⟨"UpperSteps$Parser", "takeNumber", "(II)I"⟩, 6) := ⟨⟨by decide +kernel, by decide +kernel⟩, List.mem_of_getElem? (i := 102) (by decide +kernel), List.mem_of_getElem? (i := 405) (by decide +kernel), List.mem_of_getElem? (i := 406) (by decide +kernel)⟩
theorem lw_p4 : lw_okq (⟨"UpperSteps$Parser", "bookTold", "(I)I"⟩, 6) := ⟨⟨by decide +kernel, by decide +kernel⟩, List.mem_of_getElem? (i := 102) (by decide +kernel), List.mem_of_getElem? (i := 414) (by decide +kernel), List.mem_of_getElem? (i := 415) (by decide +kernel)⟩
theorem lw_p5 : lw_okq (⟨"UpperSteps$Parser", "takeStop", "()V"⟩, 6) := ⟨⟨by decide +kernel, by decide +kernel⟩, List.mem_of_getElem? (i := 102) (by decide +kernel), List.mem_of_getElem? (i := 418) (by decide +kernel), List.mem_of_getElem? (i := 419) (by decide +kernel)⟩
theorem lw_p6 : lw_okq (⟨"UpperSteps$Parser", "parseReader", "(I)V"⟩, 6) := ⟨⟨by decide +kernel, by decide +kernel⟩, List.mem_of_getElem? (i := 102) (by decide +kernel), List.mem_of_getElem? (i := 427) (by decide +kernel), List.mem_of_getElem? (i := 428) (by decide +kernel)⟩
theorem lw_p7 : lw_okq (⟨"UpperSteps$Parser", "parseSteps", "()V"⟩, 6) := ⟨⟨by decide +kernel, by decide +kernel⟩, List.mem_of_getElem? (i := 102) (by decide +kernel), List.mem_of_getElem? (i := 439) (by decide +kernel), List.mem_of_getElem? (i := 440) (by decide +kernel)⟩
theorem lw_p8 : lw_okq (⟨"UpperSteps$Parser", "namesMissingBook", "()Z"⟩, 6) := ⟨⟨by decide +kernel, by decide +kernel⟩, List.mem_of_getElem? (i := 102) (by decide +kernel), List.mem_of_getElem? (i := 447) (by decide +kernel), List.mem_of_getElem? (i := 448) (by decide +kernel)⟩
theorem lw_p9 : lw_okq (⟨"UpperSteps", "beginTrial", "()V"⟩, 12) := ⟨⟨by decide +kernel, by decide +kernel⟩, List.mem_of_getElem? (i := 19) (by decide +kernel), List.mem_of_getElem? (i := 564) (by decide +kernel), List.mem_of_getElem? (i := 565) (by decide +kernel)⟩
theorem lw_p10 : lw_okq (⟨"UpperSteps", "daysTillAllDone", "(I)I"⟩, 12) := ⟨⟨by decide +kernel, by decide +kernel⟩, List.mem_of_getElem? (i := 19) (by decide +kernel), List.mem_of_getElem? (i := 586) (by decide +kernel), List.mem_of_getElem? (i := 587) (by decide +kernel)⟩
theorem lw_p11 : lw_okq (⟨"UpperSteps", "trialMinutes", "()I"⟩, 12) := ⟨⟨by decide +kernel, by decide +kernel⟩, List.mem_of_getElem? (i := 19) (by decide +kernel), List.mem_of_getElem? (i := 591) (by decide +kernel), List.mem_of_getElem? (i := 592) (by decide +kernel)⟩
theorem lw_p12 : lw_okq (⟨"UpperSteps", "findOrder", "()I"⟩, 12) := ⟨⟨by decide +kernel, by decide +kernel⟩, List.mem_of_getElem? (i := 19) (by decide +kernel), List.mem_of_getElem? (i := 620) (by decide +kernel), List.mem_of_getElem? (i := 621) (by decide +kernel)⟩
theorem lw_p13 : lw_okq (⟨"UpperSteps$Sightings", "lastBehind", "()I"⟩, 4) := ⟨⟨by decide +kernel, by decide +kernel⟩, List.mem_of_getElem? (i := 162) (by decide +kernel), List.mem_of_getElem? (i := 715) (by decide +kernel), List.mem_of_getElem? (i := 716) (by decide +kernel)⟩
theorem lw_p14 : lw_okq (⟨"UpperSteps", "heightsAsSeen", "(I)I"⟩, 12) := ⟨⟨by decide +kernel, by decide +kernel⟩, List.mem_of_getElem? (i := 19) (by decide +kernel), List.mem_of_getElem? (i := 725) (by decide +kernel), List.mem_of_getElem? (i := 726) (by decide +kernel)⟩
theorem lw_p15 : lw_okq (⟨"UpperSteps", "imagesTaken", "()I"⟩, 12) := ⟨⟨by decide +kernel, by decide +kernel⟩, List.mem_of_getElem? (i := 19) (by decide +kernel), List.mem_of_getElem? (i := 804) (by decide +kernel), List.mem_of_getElem? (i := 805) (by decide +kernel)⟩
def lw_privs_1 : List (MethodName × Nat) := [(⟨"UpperSteps$Parser", "takeToken", "()V"⟩, 6), (⟨"UpperSteps$Parser", "refuse", "(II)V"⟩, 6), (⟨"UpperSteps$Parser", "parseBook", "()V"⟩, 6), (⟨"UpperSteps$Parser", "takeNumber", "(II)I"⟩, 6), (⟨"UpperSteps$Parser", "bookTold", "(I)I"⟩, 6), (⟨"UpperSteps$Parser", "takeStop", "()V"⟩, 6), (⟨"UpperSteps$Parser", "parseReader", "(I)V"⟩, 6), (⟨"UpperSteps$Parser", "parseSteps", "()V"⟩, 6), (⟨"UpperSteps$Parser", "namesMissingBook", "()Z"⟩, 6), (⟨"UpperSteps", "beginTrial", "()V"⟩, 12), (⟨"UpperSteps", "daysTillAllDone", "(I)I"⟩, 12), (⟨"UpperSteps", "trialMinutes", "()I"⟩, 12), (⟨"UpperSteps", "findOrder", "()I"⟩, 12), (⟨"UpperSteps$Sightings", "lastBehind", "()I"⟩, 4), (⟨"UpperSteps", "heightsAsSeen", "(I)I"⟩, 12), (⟨"UpperSteps", "imagesTaken", "()I"⟩, 12)]
theorem lw_r1 : ∀ q ∈ lw_privs_1, lw_okq q := List.forall_mem_cons.mpr ⟨lw_p0, List.forall_mem_cons.mpr ⟨lw_p1, List.forall_mem_cons.mpr ⟨lw_p2, List.forall_mem_cons.mpr ⟨lw_p3, List.forall_mem_cons.mpr ⟨lw_p4, List.forall_mem_cons.mpr ⟨lw_p5, List.forall_mem_cons.mpr ⟨lw_p6, List.forall_mem_cons.mpr ⟨lw_p7, List.forall_mem_cons.mpr ⟨lw_p8, List.forall_mem_cons.mpr ⟨lw_p9, List.forall_mem_cons.mpr ⟨lw_p10, List.forall_mem_cons.mpr ⟨lw_p11, List.forall_mem_cons.mpr ⟨lw_p12, List.forall_mem_cons.mpr ⟨lw_p13, List.forall_mem_cons.mpr ⟨lw_p14, List.forall_mem_cons.mpr ⟨lw_p15, fun _ h => absurd h List.not_mem_nil⟩⟩⟩⟩⟩⟩⟩⟩⟩⟩⟩⟩⟩⟩⟩⟩
theorem lw_p16 : lw_okq (⟨"UpperStepsModel", "firstDraft", "()V"⟩, 34) := ⟨⟨by decide +kernel, by decide +kernel⟩, List.mem_of_getElem? (i := 811) (by decide +kernel), List.mem_of_getElem? (i := 817) (by decide +kernel), List.mem_of_getElem? (i := 818) (by decide +kernel)⟩
theorem lw_p17 : lw_okq (⟨"UpperStepsModel", "keepDraft", "()V"⟩, 34) := ⟨⟨by decide +kernel, by decide +kernel⟩, List.mem_of_getElem? (i := 811) (by decide +kernel), List.mem_of_getElem? (i := 821) (by decide +kernel), List.mem_of_getElem? (i := 822) (by decide +kernel)⟩
theorem lw_p18 : lw_okq (⟨"UpperStepsModel", "takes", "()V"⟩, 34) := ⟨⟨by decide +kernel, by decide +kernel⟩, List.mem_of_getElem? (i := 811) (by decide +kernel), List.mem_of_getElem? (i := 945) (by decide +kernel), List.mem_of_getElem? (i := 946) (by decide +kernel)⟩
theorem lw_p19 : lw_okq (⟨"UpperStepsModel", "byteAt", "(I)I"⟩, 34) := ⟨⟨by decide +kernel, by decide +kernel⟩, List.mem_of_getElem? (i := 811) (by decide +kernel), List.mem_of_getElem? (i := 949) (by decide +kernel), List.mem_of_getElem? (i := 950) (by decide +kernel)⟩
theorem lw_p20 : lw_okq (⟨"UpperStepsModel", "needs", "(ZI)V"⟩, 34) := ⟨⟨by decide +kernel, by decide +kernel⟩, List.mem_of_getElem? (i := 811) (by decide +kernel), List.mem_of_getElem? (i := 957) (by decide +kernel), List.mem_of_getElem? (i := 958) (by decide +kernel)⟩
theorem lw_p21 : lw_okq (⟨"UpperStepsModel", "readLine", "()V"⟩, 34) := ⟨⟨by decide +kernel, by decide +kernel⟩, List.mem_of_getElem? (i := 811) (by decide +kernel), List.mem_of_getElem? (i := 961) (by decide +kernel), List.mem_of_getElem? (i := 962) (by decide +kernel)⟩
theorem lw_p22 : lw_okq (⟨"UpperStepsModel", "lineNow", "()I"⟩, 34) := ⟨⟨by decide +kernel, by decide +kernel⟩, List.mem_of_getElem? (i := 811) (by decide +kernel), List.mem_of_getElem? (i := 965) (by decide +kernel), List.mem_of_getElem? (i := 966) (by decide +kernel)⟩
theorem lw_p23 : lw_okq (⟨"UpperStepsModel", "is", "(IIIII)Z"⟩, 34) := ⟨⟨by decide +kernel, by decide +kernel⟩, List.mem_of_getElem? (i := 811) (by decide +kernel), List.mem_of_getElem? (i := 969) (by decide +kernel), List.mem_of_getElem? (i := 970) (by decide +kernel)⟩
theorem lw_p24 : lw_okq (⟨"UpperStepsModel", "ends", "(II)Z"⟩, 34) := ⟨⟨by decide +kernel, by decide +kernel⟩, List.mem_of_getElem? (i := 811) (by decide +kernel), List.mem_of_getElem? (i := 973) (by decide +kernel), List.mem_of_getElem? (i := 974) (by decide +kernel)⟩
theorem lw_p25 : lw_okq (⟨"UpperStepsModel", "readLineOf", "(I)V"⟩, 34) := ⟨⟨by decide +kernel, by decide +kernel⟩, List.mem_of_getElem? (i := 811) (by decide +kernel), List.mem_of_getElem? (i := 977) (by decide +kernel), List.mem_of_getElem? (i := 978) (by decide +kernel)⟩
theorem lw_p26 : lw_okq (⟨"UpperStepsModel", "readNumber", "(II)I"⟩, 34) := ⟨⟨by decide +kernel, by decide +kernel⟩, List.mem_of_getElem? (i := 811) (by decide +kernel), List.mem_of_getElem? (i := 981) (by decide +kernel), List.mem_of_getElem? (i := 982) (by decide +kernel)⟩
theorem lw_p27 : lw_okq (⟨"UpperStepsModel", "looked", "(II)I"⟩, 34) := ⟨⟨by decide +kernel, by decide +kernel⟩, List.mem_of_getElem? (i := 811) (by decide +kernel), List.mem_of_getElem? (i := 985) (by decide +kernel), List.mem_of_getElem? (i := 986) (by decide +kernel)⟩
theorem lw_p28 : lw_okq (⟨"UpperStepsModel", "readBook", "()I"⟩, 34) := ⟨⟨by decide +kernel, by decide +kernel⟩, List.mem_of_getElem? (i := 811) (by decide +kernel), List.mem_of_getElem? (i := 989) (by decide +kernel), List.mem_of_getElem? (i := 990) (by decide +kernel)⟩
theorem lw_p29 : lw_okq (⟨"UpperStepsModel", "starts", "()V"⟩, 34) := ⟨⟨by decide +kernel, by decide +kernel⟩, List.mem_of_getElem? (i := 811) (by decide +kernel), List.mem_of_getElem? (i := 1001) (by decide +kernel), List.mem_of_getElem? (i := 1002) (by decide +kernel)⟩
theorem lw_p30 : lw_okq (⟨"UpperStepsModel", "doneNow", "()I"⟩, 34) := ⟨⟨by decide +kernel, by decide +kernel⟩, List.mem_of_getElem? (i := 811) (by decide +kernel), List.mem_of_getElem? (i := 1005) (by decide +kernel), List.mem_of_getElem? (i := 1006) (by decide +kernel)⟩
theorem lw_p31 : lw_okq (⟨"UpperStepsModel", "ofReader", "(II)I"⟩, 34) := ⟨⟨by decide +kernel, by decide +kernel⟩, List.mem_of_getElem? (i := 811) (by decide +kernel), List.mem_of_getElem? (i := 1009) (by decide +kernel), List.mem_of_getElem? (i := 1010) (by decide +kernel)⟩
def lw_privs_2 : List (MethodName × Nat) := [(⟨"UpperStepsModel", "firstDraft", "()V"⟩, 34), (⟨"UpperStepsModel", "keepDraft", "()V"⟩, 34), (⟨"UpperStepsModel", "takes", "()V"⟩, 34), (⟨"UpperStepsModel", "byteAt", "(I)I"⟩, 34), (⟨"UpperStepsModel", "needs", "(ZI)V"⟩, 34), (⟨"UpperStepsModel", "readLine", "()V"⟩, 34), (⟨"UpperStepsModel", "lineNow", "()I"⟩, 34), (⟨"UpperStepsModel", "is", "(IIIII)Z"⟩, 34), (⟨"UpperStepsModel", "ends", "(II)Z"⟩, 34), (⟨"UpperStepsModel", "readLineOf", "(I)V"⟩, 34), (⟨"UpperStepsModel", "readNumber", "(II)I"⟩, 34), (⟨"UpperStepsModel", "looked", "(II)I"⟩, 34), (⟨"UpperStepsModel", "readBook", "()I"⟩, 34), (⟨"UpperStepsModel", "starts", "()V"⟩, 34), (⟨"UpperStepsModel", "doneNow", "()I"⟩, 34), (⟨"UpperStepsModel", "ofReader", "(II)I"⟩, 34)]
theorem lw_r2 : ∀ q ∈ lw_privs_2, lw_okq q := List.forall_mem_cons.mpr ⟨lw_p16, List.forall_mem_cons.mpr ⟨lw_p17, List.forall_mem_cons.mpr ⟨lw_p18, List.forall_mem_cons.mpr ⟨lw_p19, List.forall_mem_cons.mpr ⟨lw_p20, List.forall_mem_cons.mpr ⟨lw_p21, List.forall_mem_cons.mpr ⟨lw_p22, List.forall_mem_cons.mpr ⟨lw_p23, List.forall_mem_cons.mpr ⟨lw_p24, List.forall_mem_cons.mpr ⟨lw_p25, List.forall_mem_cons.mpr ⟨lw_p26, List.forall_mem_cons.mpr ⟨lw_p27, List.forall_mem_cons.mpr ⟨lw_p28, List.forall_mem_cons.mpr ⟨lw_p29, List.forall_mem_cons.mpr ⟨lw_p30, List.forall_mem_cons.mpr ⟨lw_p31, fun _ h => absurd h List.not_mem_nil⟩⟩⟩⟩⟩⟩⟩⟩⟩⟩⟩⟩⟩⟩⟩⟩
theorem lw_p32 : lw_okq (⟨"UpperStepsModel", "isBook", "(I)Z"⟩, 34) := ⟨⟨by decide +kernel, by decide +kernel⟩, List.mem_of_getElem? (i := 811) (by decide +kernel), List.mem_of_getElem? (i := 1020) (by decide +kernel), List.mem_of_getElem? (i := 1021) (by decide +kernel)⟩
theorem lw_p33 : lw_okq (⟨"UpperStepsModel", "had", "(II)Z"⟩, 34) := ⟨⟨by decide +kernel, by decide +kernel⟩, List.mem_of_getElem? (i := 811) (by decide +kernel), List.mem_of_getElem? (i := 1025) (by decide +kernel), List.mem_of_getElem? (i := 1026) (by decide +kernel)⟩
theorem lw_p34 : lw_okq (⟨"UpperStepsModel", "of", "(II)I"⟩, 34) := ⟨⟨by decide +kernel, by decide +kernel⟩, List.mem_of_getElem? (i := 811) (by decide +kernel), List.mem_of_getElem? (i := 1029) (by decide +kernel), List.mem_of_getElem? (i := 1030) (by decide +kernel)⟩
theorem lw_p35 : lw_okq (⟨"UpperStepsModel", "isReader", "(I)Z"⟩, 34) := ⟨⟨by decide +kernel, by decide +kernel⟩, List.mem_of_getElem? (i := 811) (by decide +kernel), List.mem_of_getElem? (i := 1037) (by decide +kernel), List.mem_of_getElem? (i := 1038) (by decide +kernel)⟩
theorem lw_p36 : lw_okq (⟨"UpperStepsModel", "minutesOf", "(II)I"⟩, 34) := ⟨⟨by decide +kernel, by decide +kernel⟩, List.mem_of_getElem? (i := 811) (by decide +kernel), List.mem_of_getElem? (i := 1042) (by decide +kernel), List.mem_of_getElem? (i := 1043) (by decide +kernel)⟩
theorem lw_p37 : lw_okq (⟨"UpperStepsModel", "isBookOrNone", "(I)Z"⟩, 34) := ⟨⟨by decide +kernel, by decide +kernel⟩, List.mem_of_getElem? (i := 811) (by decide +kernel), List.mem_of_getElem? (i := 1061) (by decide +kernel), List.mem_of_getElem? (i := 1062) (by decide +kernel)⟩
theorem lw_p38 : lw_okq (⟨"UpperStepsModel", "becomes", "(II)I"⟩, 34) := ⟨⟨by decide +kernel, by decide +kernel⟩, List.mem_of_getElem? (i := 811) (by decide +kernel), List.mem_of_getElem? (i := 1068) (by decide +kernel), List.mem_of_getElem? (i := 1069) (by decide +kernel)⟩
theorem lw_p39 : lw_okq (⟨"UpperStepsModel", "startsCounting", "()V"⟩, 34) := ⟨⟨by decide +kernel, by decide +kernel⟩, List.mem_of_getElem? (i := 811) (by decide +kernel), List.mem_of_getElem? (i := 1092) (by decide +kernel), List.mem_of_getElem? (i := 1093) (by decide +kernel)⟩
theorem lw_p40 : lw_okq (⟨"UpperStepsModel", "fetches", "(II)V"⟩, 34) := ⟨⟨by decide +kernel, by decide +kernel⟩, List.mem_of_getElem? (i := 811) (by decide +kernel), List.mem_of_getElem? (i := 1096) (by decide +kernel), List.mem_of_getElem? (i := 1097) (by decide +kernel)⟩
theorem lw_p41 : lw_okq (⟨"UpperStepsModel", "becomesOf", "(III)V"⟩, 34) := ⟨⟨by decide +kernel, by decide +kernel⟩, List.mem_of_getElem? (i := 811) (by decide +kernel), List.mem_of_getElem? (i := 1100) (by decide +kernel), List.mem_of_getElem? (i := 1101) (by decide +kernel)⟩
theorem lw_p42 : lw_okq (⟨"UpperStepsModel", "settles", "()V"⟩, 34) := ⟨⟨by decide +kernel, by decide +kernel⟩, List.mem_of_getElem? (i := 811) (by decide +kernel), List.mem_of_getElem? (i := 1104) (by decide +kernel), List.mem_of_getElem? (i := 1105) (by decide +kernel)⟩
theorem lw_p43 : lw_okq (⟨"UpperStepsModel", "daysGo", "(I)V"⟩, 34) := ⟨⟨by decide +kernel, by decide +kernel⟩, List.mem_of_getElem? (i := 811) (by decide +kernel), List.mem_of_getElem? (i := 1113) (by decide +kernel), List.mem_of_getElem? (i := 1114) (by decide +kernel)⟩
theorem lw_p44 : lw_okq (⟨"UpperStepsModel", "dayGoes", "()V"⟩, 34) := ⟨⟨by decide +kernel, by decide +kernel⟩, List.mem_of_getElem? (i := 811) (by decide +kernel), List.mem_of_getElem? (i := 1117) (by decide +kernel), List.mem_of_getElem? (i := 1118) (by decide +kernel)⟩
theorem lw_p45 : lw_okq (⟨"UpperStepsModel", "readerGoes", "(I)V"⟩, 34) := ⟨⟨by decide +kernel, by decide +kernel⟩, List.mem_of_getElem? (i := 811) (by decide +kernel), List.mem_of_getElem? (i := 1121) (by decide +kernel), List.mem_of_getElem? (i := 1122) (by decide +kernel)⟩
theorem lw_p46 : lw_okq (⟨"UpperStepsModel", "daysTo", "(I)I"⟩, 34) := ⟨⟨by decide +kernel, by decide +kernel⟩, List.mem_of_getElem? (i := 811) (by decide +kernel), List.mem_of_getElem? (i := 1144) (by decide +kernel), List.mem_of_getElem? (i := 1145) (by decide +kernel)⟩
theorem lw_p47 : lw_okq (⟨"UpperStepsModel", "findOrder", "()I"⟩, 34) := ⟨⟨by decide +kernel, by decide +kernel⟩, List.mem_of_getElem? (i := 811) (by decide +kernel), List.mem_of_getElem? (i := 1156) (by decide +kernel), List.mem_of_getElem? (i := 1157) (by decide +kernel)⟩
def lw_privs_3 : List (MethodName × Nat) := [(⟨"UpperStepsModel", "isBook", "(I)Z"⟩, 34), (⟨"UpperStepsModel", "had", "(II)Z"⟩, 34), (⟨"UpperStepsModel", "of", "(II)I"⟩, 34), (⟨"UpperStepsModel", "isReader", "(I)Z"⟩, 34), (⟨"UpperStepsModel", "minutesOf", "(II)I"⟩, 34), (⟨"UpperStepsModel", "isBookOrNone", "(I)Z"⟩, 34), (⟨"UpperStepsModel", "becomes", "(II)I"⟩, 34), (⟨"UpperStepsModel", "startsCounting", "()V"⟩, 34), (⟨"UpperStepsModel", "fetches", "(II)V"⟩, 34), (⟨"UpperStepsModel", "becomesOf", "(III)V"⟩, 34), (⟨"UpperStepsModel", "settles", "()V"⟩, 34), (⟨"UpperStepsModel", "daysGo", "(I)V"⟩, 34), (⟨"UpperStepsModel", "dayGoes", "()V"⟩, 34), (⟨"UpperStepsModel", "readerGoes", "(I)V"⟩, 34), (⟨"UpperStepsModel", "daysTo", "(I)I"⟩, 34), (⟨"UpperStepsModel", "findOrder", "()I"⟩, 34)]
theorem lw_r3 : ∀ q ∈ lw_privs_3, lw_okq q := List.forall_mem_cons.mpr ⟨lw_p32, List.forall_mem_cons.mpr ⟨lw_p33, List.forall_mem_cons.mpr ⟨lw_p34, List.forall_mem_cons.mpr ⟨lw_p35, List.forall_mem_cons.mpr ⟨lw_p36, List.forall_mem_cons.mpr ⟨lw_p37, List.forall_mem_cons.mpr ⟨lw_p38, List.forall_mem_cons.mpr ⟨lw_p39, List.forall_mem_cons.mpr ⟨lw_p40, List.forall_mem_cons.mpr ⟨lw_p41, List.forall_mem_cons.mpr ⟨lw_p42, List.forall_mem_cons.mpr ⟨lw_p43, List.forall_mem_cons.mpr ⟨lw_p44, List.forall_mem_cons.mpr ⟨lw_p45, List.forall_mem_cons.mpr ⟨lw_p46, List.forall_mem_cons.mpr ⟨lw_p47, fun _ h => absurd h List.not_mem_nil⟩⟩⟩⟩⟩⟩⟩⟩⟩⟩⟩⟩⟩⟩⟩⟩
theorem lw_p48 : lw_okq (⟨"UpperStepsModel", "isRow", "(I)Z"⟩, 34) := ⟨⟨by decide +kernel, by decide +kernel⟩, List.mem_of_getElem? (i := 811) (by decide +kernel), List.mem_of_getElem? (i := 1161) (by decide +kernel), List.mem_of_getElem? (i := 1162) (by decide +kernel)⟩
theorem lw_p49 : lw_okq (⟨"UpperStepsModel", "minutesByRow", "()I"⟩, 34) := ⟨⟨by decide +kernel, by decide +kernel⟩, List.mem_of_getElem? (i := 811) (by decide +kernel), List.mem_of_getElem? (i := 1165) (by decide +kernel), List.mem_of_getElem? (i := 1166) (by decide +kernel)⟩
theorem lw_p50 : lw_okq (⟨"UpperStepsModel", "findOdds", "(III)V"⟩, 34) := ⟨⟨by decide +kernel, by decide +kernel⟩, List.mem_of_getElem? (i := 811) (by decide +kernel), List.mem_of_getElem? (i := 1200) (by decide +kernel), List.mem_of_getElem? (i := 1201) (by decide +kernel)⟩
theorem lw_p51 : lw_okq (⟨"UpperStepsModel", "isSoWith", "(II)Z"⟩, 34) := ⟨⟨by decide +kernel, by decide +kernel⟩, List.mem_of_getElem? (i := 811) (by decide +kernel), List.mem_of_getElem? (i := 1227) (by decide +kernel), List.mem_of_getElem? (i := 1228) (by decide +kernel)⟩
theorem lw_p52 : lw_okq (⟨"UpperStepsModel", "copies", "(II)V"⟩, 34) := ⟨⟨by decide +kernel, by decide +kernel⟩, List.mem_of_getElem? (i := 811) (by decide +kernel), List.mem_of_getElem? (i := 1248) (by decide +kernel), List.mem_of_getElem? (i := 1249) (by decide +kernel)⟩
def lw_privs_4 : List (MethodName × Nat) := [(⟨"UpperStepsModel", "isRow", "(I)Z"⟩, 34), (⟨"UpperStepsModel", "minutesByRow", "()I"⟩, 34), (⟨"UpperStepsModel", "findOdds", "(III)V"⟩, 34), (⟨"UpperStepsModel", "isSoWith", "(II)Z"⟩, 34), (⟨"UpperStepsModel", "copies", "(II)V"⟩, 34)]
theorem lw_r4 : ∀ q ∈ lw_privs_4, lw_okq q := List.forall_mem_cons.mpr ⟨lw_p48, List.forall_mem_cons.mpr ⟨lw_p49, List.forall_mem_cons.mpr ⟨lw_p50, List.forall_mem_cons.mpr ⟨lw_p51, List.forall_mem_cons.mpr ⟨lw_p52, fun _ h => absurd h List.not_mem_nil⟩⟩⟩⟩⟩
def lw_privs : List (MethodName × Nat) := lw_privs_1 ++ (lw_privs_2 ++ (lw_privs_3 ++ (lw_privs_4)))
def lw_tbl : List Cond := k2_sels lw_privs ++ tables_1
theorem lw_privs_ok : ∀ q ∈ lw_privs, lw_okq q := by
  show ∀ q ∈ lw_privs_1 ++ (lw_privs_2 ++ (lw_privs_3 ++ (lw_privs_4))), lw_okq q
  exact List.forall_mem_append.mpr ⟨lw_r1, List.forall_mem_append.mpr ⟨lw_r2, List.forall_mem_append.mpr ⟨lw_r3, lw_r4⟩⟩⟩
end
section
def RX0 : String := "UpperSteps$House"
def TX0 : u_T := fun k => match k with
  | 0 => ("UpperSteps$House", "books", "I", false)
  | 1 => ("UpperSteps$House", "bay", "[I", true)
  | 2 => ("UpperSteps$House", "height", "[I", true)
  | 3 => ("UpperSteps$House", "leads", "[I", true)
  | 4 => ("UpperSteps$House", "readers", "I", false)
  | 5 => ("UpperSteps$House", "kind", "[I", true)
  | 6 => ("UpperSteps$House", "wants", "[I", true)
  | 7 => ("UpperSteps$House", "bears", "[I", true)
  | 8 => ("UpperSteps$House", "had", "[I", true)
  | 9 => ("UpperSteps$House", "stepsAt", "I", false)
  | 10 => ("UpperSteps$House", "clock", "I", false)
  | 11 => ("UpperSteps$House", "day", "I", false)
  | 12 => ("UpperSteps$House", "fetched", "I", false)
  | _ => ("UpperSteps$House", "vertigos", "I", false)
def tyX0 : Nat → FieldType := fun k => match k with
  | 0 => .int
  | 1 => .array .int
  | 2 => .array .int
  | 3 => .array .int
  | 4 => .int
  | 5 => .array .int
  | 6 => .array .int
  | 7 => .array .int
  | 8 => .array .int
  | 9 => .int
  | 10 => .int
  | 11 => .int
  | 12 => .int
  | _ => .int
abbrev wsX00 : List Cond := u_ws RX0 TX0 14
theorem nmX0 : ∀ a, a < 14 → ∀ b, b < 14 → a ≠ b → (TX0 a).2.1 ≠ (TX0 b).2.1 := by decide +kernel
theorem tyX0_ok : ∀ k, k < 14 → parseFieldDescriptor (TX0 k).2.2.1 = some (tyX0 k) := by decide +kernel
abbrev cX0_init : ByteArray := prog_2_method_1_code
def yX0_init : MethodName := ⟨RX0, "<init>", "()V"⟩
abbrev cX0_clear : ByteArray := prog_2_method_2_code
def yX0_clear : MethodName := ⟨RX0, "clear", "()V"⟩
abbrev cX0_copyFrom : ByteArray := prog_2_method_3_code
def yX0_copyFrom : MethodName := ⟨RX0, "copyFrom", "(LUpperSteps$House;)V"⟩
abbrev cX0_addBook : ByteArray := prog_2_method_4_code
def yX0_addBook : MethodName := ⟨RX0, "addBook", "(III)V"⟩
abbrev cX0_addReader : ByteArray := prog_2_method_5_code
def yX0_addReader : MethodName := ⟨RX0, "addReader", "(III)V"⟩
abbrev cX0_hasBook : ByteArray := prog_2_method_6_code
def yX0_hasBook : MethodName := ⟨RX0, "hasBook", "(I)Z"⟩
abbrev cX0_hasReader : ByteArray := prog_2_method_7_code
def yX0_hasReader : MethodName := ⟨RX0, "hasReader", "(I)Z"⟩
abbrev cX0_isBookOrNone : ByteArray := prog_2_method_8_code
def yX0_isBookOrNone : MethodName := ⟨RX0, "isBookOrNone", "(I)Z"⟩
abbrev cX0_isDone : ByteArray := prog_2_method_9_code
def yX0_isDone : MethodName := ⟨RX0, "isDone", "(I)Z"⟩
abbrev cX0_hasHad : ByteArray := prog_2_method_10_code
def yX0_hasHad : MethodName := ⟨RX0, "hasHad", "(II)Z"⟩
abbrev cX0_whoAreDone : ByteArray := prog_2_method_11_code
def yX0_whoAreDone : MethodName := ⟨RX0, "whoAreDone", "()I"⟩
abbrev cX0_whoHad : ByteArray := prog_2_method_12_code
def yX0_whoHad : MethodName := ⟨RX0, "whoHad", "(I)I"⟩
abbrev cX0_minutesFor : ByteArray := prog_2_method_13_code
def yX0_minutesFor : MethodName := ⟨RX0, "minutesFor", "(II)I"⟩
abbrev cX0_dizzyBy : ByteArray := prog_2_method_14_code
def yX0_dizzyBy : MethodName := ⟨RX0, "dizzyBy", "(II)I"⟩
abbrev cX0_refusalOf : ByteArray := prog_2_method_15_code
def yX0_refusalOf : MethodName := ⟨RX0, "refusalOf", "(II)I"⟩
abbrev cX0_bring : ByteArray := prog_2_method_16_code
def yX0_bring : MethodName := ⟨RX0, "bring", "(II)I"⟩
abbrev cX0_spendDay : ByteArray := prog_2_method_17_code
def yX0_spendDay : MethodName := ⟨RX0, "spendDay", "(I)I"⟩
abbrev cX0_passDay : ByteArray := prog_2_method_18_code
def yX0_passDay : MethodName := ⟨RX0, "passDay", "()V"⟩
abbrev cX0_passDays : ByteArray := prog_2_method_19_code
def yX0_passDays : MethodName := ⟨RX0, "passDays", "(I)V"⟩
abbrev cX0_passDaysTillStill : ByteArray := prog_2_method_20_code
def yX0_passDaysTillStill : MethodName := ⟨RX0, "passDaysTillStill", "(I)V"⟩
abbrev cX0_passDaysOf : ByteArray := prog_2_method_21_code
def yX0_passDaysOf : MethodName := ⟨RX0, "passDaysOf", "(II)V"⟩
abbrev cX0_daysTillDone : ByteArray := prog_2_method_22_code
def yX0_daysTillDone : MethodName := ⟨RX0, "daysTillDone", "(II)I"⟩
abbrev cX0_changePlaces : ByteArray := prog_2_method_23_code
def yX0_changePlaces : MethodName := ⟨RX0, "changePlaces", "(II)V"⟩
def RX1 : String := "UpperSteps$Image"
def TX1 : u_T := fun k => match k with
  | 0 => ("UpperSteps$Image", "taken", "Z", false)
  | 1 => ("UpperSteps$Image", "house", "LUpperSteps$House;", true)
  | _ => ("UpperSteps$Image", "sightings", "LUpperSteps$Sightings;", true)
def tyX1 : Nat → FieldType := fun k => match k with
  | 0 => .boolean
  | 1 => .object "UpperSteps$House"
  | _ => .object "UpperSteps$Sightings"
abbrev wsX10 : List Cond := u_ws RX1 TX1 3
theorem nmX1 : ∀ a, a < 3 → ∀ b, b < 3 → a ≠ b → (TX1 a).2.1 ≠ (TX1 b).2.1 := by decide +kernel
theorem tyX1_ok : ∀ k, k < 3 → parseFieldDescriptor (TX1 k).2.2.1 = some (tyX1 k) := by decide +kernel
abbrev cX1_init : ByteArray := prog_3_method_1_code
def yX1_init : MethodName := ⟨RX1, "<init>", "()V"⟩
def RX2 : String := "UpperSteps$Outlook"
def TX2 : u_T := fun k => match k with
  | 0 => ("UpperSteps$Outlook", "wanted", "[[I", true)
  | _ => ("UpperSteps$Outlook", "parts", "[I", true)
def tyX2 : Nat → FieldType := fun k => match k with
  | 0 => .array (.array .int)
  | _ => .array .int
abbrev wsX20 : List Cond := u_ws RX2 TX2 2
theorem nmX2 : ∀ a, a < 2 → ∀ b, b < 2 → a ≠ b → (TX2 a).2.1 ≠ (TX2 b).2.1 := by decide +kernel
theorem tyX2_ok : ∀ k, k < 2 → parseFieldDescriptor (TX2 k).2.2.1 = some (tyX2 k) := by decide +kernel
abbrev cX2_init : ByteArray := prog_4_method_1_code
def yX2_init : MethodName := ⟨RX2, "<init>", "()V"⟩
abbrev cX2_foresee : ByteArray := prog_4_method_2_code
def yX2_foresee : MethodName := ⟨RX2, "foresee", "(LUpperSteps$House;LUpperSteps$House;II)V"⟩
abbrev cX2_note : ByteArray := prog_4_method_3_code
def yX2_note : MethodName := ⟨RX2, "note", "(LUpperSteps$House;[I)V"⟩
abbrev cX2_mostLeft : ByteArray := prog_4_method_4_code
def yX2_mostLeft : MethodName := ⟨RX2, "mostLeft", "(III)I"⟩
def RX3 : String := "UpperSteps$Parser"
def TX3 : u_T := fun k => match k with
  | 0 => ("UpperSteps$Parser", "faultFound", "I", false)
  | 1 => ("UpperSteps$Parser", "faultPlace", "I", false)
  | 2 => ("UpperSteps$Parser", "lines", "I", false)
  | 3 => ("UpperSteps$Parser", "stepsTold", "Z", false)
  | 4 => ("UpperSteps$Parser", "tape", "LUpperSteps$Tape;", true)
  | _ => ("UpperSteps$Parser", "house", "LUpperSteps$House;", true)
def tyX3 : Nat → FieldType := fun k => match k with
  | 0 => .int
  | 1 => .int
  | 2 => .int
  | 3 => .boolean
  | 4 => .object "UpperSteps$Tape"
  | _ => .object "UpperSteps$House"
abbrev wsX30 : List Cond := u_ws RX3 TX3 6
theorem nmX3 : ∀ a, a < 6 → ∀ b, b < 6 → a ≠ b → (TX3 a).2.1 ≠ (TX3 b).2.1 := by decide +kernel
theorem tyX3_ok : ∀ k, k < 6 → parseFieldDescriptor (TX3 k).2.2.1 = some (tyX3 k) := by decide +kernel
abbrev cX3_init : ByteArray := prog_5_method_1_code
def yX3_init : MethodName := ⟨RX3, "<init>", "()V"⟩
abbrev cX3_begin : ByteArray := prog_5_method_2_code
def yX3_begin : MethodName := ⟨RX3, "begin", "()V"⟩
abbrev cX3_isAtLine : ByteArray := prog_5_method_3_code
def yX3_isAtLine : MethodName := ⟨RX3, "isAtLine", "()Z"⟩
abbrev cX3_finish : ByteArray := prog_5_method_4_code
def yX3_finish : MethodName := ⟨RX3, "finish", "()V"⟩
abbrev cX3_refuse : ByteArray := prog_5_method_5_code
def yX3_refuse : MethodName := ⟨RX3, "refuse", "(II)V"⟩
abbrev cX3_takeToken : ByteArray := prog_5_method_6_code
def yX3_takeToken : MethodName := ⟨RX3, "takeToken", "()V"⟩
abbrev cX3_parseLine : ByteArray := prog_5_method_7_code
def yX3_parseLine : MethodName := ⟨RX3, "parseLine", "()V"⟩
abbrev cX3_parseBook : ByteArray := prog_5_method_8_code
def yX3_parseBook : MethodName := ⟨RX3, "parseBook", "()V"⟩
abbrev cX3_parseReader : ByteArray := prog_5_method_9_code
def yX3_parseReader : MethodName := ⟨RX3, "parseReader", "(I)V"⟩
abbrev cX3_parseSteps : ByteArray := prog_5_method_10_code
def yX3_parseSteps : MethodName := ⟨RX3, "parseSteps", "()V"⟩
abbrev cX3_takeNumber : ByteArray := prog_5_method_11_code
def yX3_takeNumber : MethodName := ⟨RX3, "takeNumber", "(II)I"⟩
abbrev cX3_bookTold : ByteArray := prog_5_method_12_code
def yX3_bookTold : MethodName := ⟨RX3, "bookTold", "(I)I"⟩
abbrev cX3_takeStop : ByteArray := prog_5_method_13_code
def yX3_takeStop : MethodName := ⟨RX3, "takeStop", "()V"⟩
abbrev cX3_namesMissingBook : ByteArray := prog_5_method_14_code
def yX3_namesMissingBook : MethodName := ⟨RX3, "namesMissingBook", "()Z"⟩
def RX4 : String := "UpperSteps$RunningSteps"
def TX4 : u_T := fun k => match k with
  | 0 => ("UpperSteps$RunningSteps", "days", "I", false)
  | 1 => ("UpperSteps$RunningSteps", "whenStill", "[I", true)
  | 2 => ("UpperSteps$RunningSteps", "whenRun", "[I", true)
  | _ => ("UpperSteps$RunningSteps", "other", "LUpperSteps$House;", true)
def tyX4 : Nat → FieldType := fun k => match k with
  | 0 => .int
  | 1 => .array .int
  | 2 => .array .int
  | _ => .object "UpperSteps$House"
abbrev wsX40 : List Cond := u_ws RX4 TX4 4
theorem nmX4 : ∀ a, a < 4 → ∀ b, b < 4 → a ≠ b → (TX4 a).2.1 ≠ (TX4 b).2.1 := by decide +kernel
theorem tyX4_ok : ∀ k, k < 4 → parseFieldDescriptor (TX4 k).2.2.1 = some (tyX4 k) := by decide +kernel
abbrev cX4_init : ByteArray := prog_6_method_1_code
def yX4_init : MethodName := ⟨RX4, "<init>", "()V"⟩
abbrev cX4_foresee : ByteArray := prog_6_method_2_code
def yX4_foresee : MethodName := ⟨RX4, "foresee", "(LUpperSteps$House;LUpperSteps$House;I)V"⟩
abbrev cX4_weightWithin : ByteArray := prog_6_method_3_code
def yX4_weightWithin : MethodName := ⟨RX4, "weightWithin", "(II)J"⟩
abbrev cX4_tenTimesMean : ByteArray := prog_6_method_4_code
def yX4_tenTimesMean : MethodName := ⟨RX4, "tenTimesMean", "(I)J"⟩
def RX5 : String := "UpperSteps$Sheet"
def TX5 : u_T := fun k => match k with
  | 0 => ("UpperSteps$Sheet", "lane", "I", false)
  | 1 => ("UpperSteps$Sheet", "size", "I", false)
  | _ => ("UpperSteps$Sheet", "cells", "[I", true)
def tyX5 : Nat → FieldType := fun k => match k with
  | 0 => .int
  | 1 => .int
  | _ => .array .int
abbrev wsX50 : List Cond := u_ws RX5 TX5 3
theorem nmX5 : ∀ a, a < 3 → ∀ b, b < 3 → a ≠ b → (TX5 a).2.1 ≠ (TX5 b).2.1 := by decide +kernel
theorem tyX5_ok : ∀ k, k < 3 → parseFieldDescriptor (TX5 k).2.2.1 = some (tyX5 k) := by decide +kernel
abbrev cX5_init : ByteArray := prog_7_method_1_code
def yX5_init : MethodName := ⟨RX5, "<init>", "()V"⟩
abbrev cX5_renew : ByteArray := prog_7_method_2_code
def yX5_renew : MethodName := ⟨RX5, "renew", "(II)V"⟩
abbrev cX5_faultAt : ByteArray := prog_7_method_3_code
def yX5_faultAt : MethodName := ⟨RX5, "faultAt", "(II)I"⟩
abbrev cX5_faultOfPair : ByteArray := prog_7_method_4_code
def yX5_faultOfPair : MethodName := ⟨RX5, "faultOfPair", "(II)I"⟩
abbrev cX5_put : ByteArray := prog_7_method_5_code
def yX5_put : MethodName := ⟨RX5, "put", "(II)V"⟩
def RX6 : String := "UpperSteps$Sightings"
def TX6 : u_T := fun k => match k with
  | 0 => ("UpperSteps$Sightings", "size", "I", false)
  | 1 => ("UpperSteps$Sightings", "behind", "[I", true)
  | 2 => ("UpperSteps$Sightings", "who", "[I", true)
  | _ => ("UpperSteps$Sightings", "wanted", "[I", true)
def tyX6 : Nat → FieldType := fun k => match k with
  | 0 => .int
  | 1 => .array .int
  | 2 => .array .int
  | _ => .array .int
abbrev wsX60 : List Cond := u_ws RX6 TX6 4
theorem nmX6 : ∀ a, a < 4 → ∀ b, b < 4 → a ≠ b → (TX6 a).2.1 ≠ (TX6 b).2.1 := by decide +kernel
theorem tyX6_ok : ∀ k, k < 4 → parseFieldDescriptor (TX6 k).2.2.1 = some (tyX6 k) := by decide +kernel
abbrev cX6_init : ByteArray := prog_8_method_1_code
def yX6_init : MethodName := ⟨RX6, "<init>", "()V"⟩
abbrev cX6_put : ByteArray := prog_8_method_2_code
def yX6_put : MethodName := ⟨RX6, "put", "(III)V"⟩
abbrev cX6_copyFrom : ByteArray := prog_8_method_3_code
def yX6_copyFrom : MethodName := ⟨RX6, "copyFrom", "(LUpperSteps$Sightings;)V"⟩
abbrev cX6_agreeWith : ByteArray := prog_8_method_4_code
def yX6_agreeWith : MethodName := ⟨RX6, "agreeWith", "(LUpperSteps$House;)Z"⟩
abbrev cX6_lastBehind : ByteArray := prog_8_method_5_code
def yX6_lastBehind : MethodName := ⟨RX6, "lastBehind", "()I"⟩
def RX7 : String := "UpperSteps$Tape"
def TX7 : u_T := fun k => match k with
  | 0 => ("UpperSteps$Tape", "bytes", "[B", true)
  | 1 => ("UpperSteps$Tape", "length", "I", false)
  | 2 => ("UpperSteps$Tape", "sort", "I", false)
  | 3 => ("UpperSteps$Tape", "from", "I", false)
  | _ => ("UpperSteps$Tape", "behind", "I", false)
def tyX7 : Nat → FieldType := fun k => match k with
  | 0 => .array .byte
  | 1 => .int
  | 2 => .int
  | 3 => .int
  | _ => .int
abbrev wsX70 : List Cond := u_ws RX7 TX7 5
theorem nmX7 : ∀ a, a < 5 → ∀ b, b < 5 → a ≠ b → (TX7 a).2.1 ≠ (TX7 b).2.1 := by decide +kernel
theorem tyX7_ok : ∀ k, k < 5 → parseFieldDescriptor (TX7 k).2.2.1 = some (tyX7 k) := by decide +kernel
abbrev cX7_init : ByteArray := prog_9_method_1_code
def yX7_init : MethodName := ⟨RX7, "<init>", "()V"⟩
abbrev cX7_rewind : ByteArray := prog_9_method_2_code
def yX7_rewind : MethodName := ⟨RX7, "rewind", "()V"⟩
abbrev cX7_advance : ByteArray := prog_9_method_3_code
def yX7_advance : MethodName := ⟨RX7, "advance", "()V"⟩
abbrev cX7_sortOf : ByteArray := prog_9_method_4_code
def yX7_sortOf : MethodName := ⟨RX7, "sortOf", "(I)I"⟩
abbrev cX7_valueOfNumber : ByteArray := prog_9_method_5_code
def yX7_valueOfNumber : MethodName := ⟨RX7, "valueOfNumber", "()I"⟩
abbrev cX7_isWord : ByteArray := prog_9_method_6_code
def yX7_isWord : MethodName := ⟨RX7, "isWord", "(Ljava/lang/String;)Z"⟩
def RX8 : String := "UpperSteps"
def TX8 : u_T := fun k => match k with
  | 0 => ("UpperSteps", "house", "LUpperSteps$House;", true)
  | 1 => ("UpperSteps", "trial", "LUpperSteps$House;", true)
  | 2 => ("UpperSteps", "parser", "LUpperSteps$Parser;", true)
  | 3 => ("UpperSteps", "textFault", "I", false)
  | 4 => ("UpperSteps", "sightings", "LUpperSteps$Sightings;", true)
  | 5 => ("UpperSteps", "images", "[LUpperSteps$Image;", true)
  | 6 => ("UpperSteps", "sheets", "[LUpperSteps$Sheet;", true)
  | 7 => ("UpperSteps", "readFault", "I", false)
  | 8 => ("UpperSteps", "orderTried", "[I", true)
  | 9 => ("UpperSteps", "orderFound", "[I", true)
  | 10 => ("UpperSteps", "running", "LUpperSteps$RunningSteps;", true)
  | _ => ("UpperSteps", "outlook", "LUpperSteps$Outlook;", true)
def tyX8 : Nat → FieldType := fun k => match k with
  | 0 => .object "UpperSteps$House"
  | 1 => .object "UpperSteps$House"
  | 2 => .object "UpperSteps$Parser"
  | 3 => .int
  | 4 => .object "UpperSteps$Sightings"
  | 5 => .array (.object "UpperSteps$Image")
  | 6 => .array (.object "UpperSteps$Sheet")
  | 7 => .int
  | 8 => .array .int
  | 9 => .array .int
  | 10 => .object "UpperSteps$RunningSteps"
  | _ => .object "UpperSteps$Outlook"
abbrev wsX80 : List Cond := u_ws RX8 TX8 12
theorem nmX8 : ∀ a, a < 12 → ∀ b, b < 12 → a ≠ b → (TX8 a).2.1 ≠ (TX8 b).2.1 := by decide +kernel
theorem tyX8_ok : ∀ k, k < 12 → parseFieldDescriptor (TX8 k).2.2.1 = some (tyX8 k) := by decide +kernel
abbrev cX8_init : ByteArray := prog_1_method_1_code
def yX8_init : MethodName := ⟨RX8, "<init>", "()V"⟩
abbrev cX8_feed : ByteArray := prog_1_method_2_code
def yX8_feed : MethodName := ⟨RX8, "feed", "(I)I"⟩
abbrev cX8_end : ByteArray := prog_1_method_3_code
def yX8_end : MethodName := ⟨RX8, "end", "(I)I"⟩
abbrev cX8_text : ByteArray := prog_1_method_4_code
def yX8_text : MethodName := ⟨RX8, "text", "()I"⟩
abbrev cX8_fault : ByteArray := prog_1_method_5_code
def yX8_fault : MethodName := ⟨RX8, "fault", "()I"⟩
abbrev cX8_rule : ByteArray := prog_1_method_6_code
def yX8_rule : MethodName := ⟨RX8, "rule", "(I)I"⟩
abbrev cX8_book : ByteArray := prog_1_method_7_code
def yX8_book : MethodName := ⟨RX8, "book", "(II)I"⟩
abbrev cX8_reader : ByteArray := prog_1_method_8_code
def yX8_reader : MethodName := ⟨RX8, "reader", "(II)I"⟩
abbrev cX8_shelve : ByteArray := prog_1_method_9_code
def yX8_shelve : MethodName := ⟨RX8, "shelve", "(III)I"⟩
abbrev cX8_alter : ByteArray := prog_1_method_10_code
def yX8_alter : MethodName := ⟨RX8, "alter", "(III)I"⟩
abbrev cX8_roll : ByteArray := prog_1_method_11_code
def yX8_roll : MethodName := ⟨RX8, "roll", "(I)I"⟩
abbrev cX8_forgets : ByteArray := prog_1_method_12_code
def yX8_forgets : MethodName := ⟨RX8, "forgets", "(I)I"⟩
abbrev cX8_fetch : ByteArray := prog_1_method_13_code
def yX8_fetch : MethodName := ⟨RX8, "fetch", "(II)I"⟩
abbrev cX8_days : ByteArray := prog_1_method_14_code
def yX8_days : MethodName := ⟨RX8, "days", "(I)I"⟩
abbrev cX8_runs : ByteArray := prog_1_method_15_code
def yX8_runs : MethodName := ⟨RX8, "runs", "(II)I"⟩
abbrev cX8_ahead : ByteArray := prog_1_method_16_code
def yX8_ahead : MethodName := ⟨RX8, "ahead", "(III)I"⟩
abbrev cX8_done : ByteArray := prog_1_method_17_code
def yX8_done : MethodName := ⟨RX8, "done", "(I)I"⟩
abbrev cX8_vertigo : ByteArray := prog_1_method_18_code
def yX8_vertigo : MethodName := ⟨RX8, "vertigo", "(I)I"⟩
abbrev cX8_order : ByteArray := prog_1_method_19_code
def yX8_order : MethodName := ⟨RX8, "order", "(I)I"⟩
abbrev cX8_start : ByteArray := prog_1_method_20_code
def yX8_start : MethodName := ⟨RX8, "start", "(II)I"⟩
abbrev cX8_swap : ByteArray := prog_1_method_21_code
def yX8_swap : MethodName := ⟨RX8, "swap", "(II)I"⟩
abbrev cX8_knee : ByteArray := prog_1_method_22_code
def yX8_knee : MethodName := ⟨RX8, "knee", "(II)I"⟩
abbrev cX8_need : ByteArray := prog_1_method_23_code
def yX8_need : MethodName := ⟨RX8, "need", "(II)I"⟩
abbrev cX8_high : ByteArray := prog_1_method_24_code
def yX8_high : MethodName := ⟨RX8, "high", "(III)I"⟩
abbrev cX8_luck : ByteArray := prog_1_method_25_code
def yX8_luck : MethodName := ⟨RX8, "luck", "(IIII)J"⟩
abbrev cX8_mean : ByteArray := prog_1_method_26_code
def yX8_mean : MethodName := ⟨RX8, "mean", "(III)J"⟩
abbrev cX8_see : ByteArray := prog_1_method_27_code
def yX8_see : MethodName := ⟨RX8, "see", "(III)I"⟩
abbrev cX8_forget : ByteArray := prog_1_method_28_code
def yX8_forget : MethodName := ⟨RX8, "forget", "(I)I"⟩
abbrev cX8_kinds : ByteArray := prog_1_method_29_code
def yX8_kinds : MethodName := ⟨RX8, "kinds", "(I)I"⟩
abbrev cX8_heights : ByteArray := prog_1_method_30_code
def yX8_heights : MethodName := ⟨RX8, "heights", "(I)I"⟩
abbrev cX8_ask : ByteArray := prog_1_method_31_code
def yX8_ask : MethodName := ⟨RX8, "ask", "(II)I"⟩
abbrev cX8_drift : ByteArray := prog_1_method_32_code
def yX8_drift : MethodName := ⟨RX8, "drift", "(III)I"⟩
abbrev cX8_keep : ByteArray := prog_1_method_33_code
def yX8_keep : MethodName := ⟨RX8, "keep", "(I)I"⟩
abbrev cX8_back : ByteArray := prog_1_method_34_code
def yX8_back : MethodName := ⟨RX8, "back", "(I)I"⟩
abbrev cX8_sheet : ByteArray := prog_1_method_35_code
def yX8_sheet : MethodName := ⟨RX8, "sheet", "(III)I"⟩
abbrev cX8_lay : ByteArray := prog_1_method_36_code
def yX8_lay : MethodName := ⟨RX8, "lay", "(III)I"⟩
abbrev cX8_read : ByteArray := prog_1_method_37_code
def yX8_read : MethodName := ⟨RX8, "read", "(IIII)I"⟩
abbrev cX8_torn : ByteArray := prog_1_method_38_code
def yX8_torn : MethodName := ⟨RX8, "torn", "()I"⟩
abbrev cX8_count : ByteArray := prog_1_method_39_code
def yX8_count : MethodName := ⟨RX8, "count", "(I)I"⟩
abbrev cX8_outside : ByteArray := prog_1_method_40_code
def yX8_outside : MethodName := ⟨RX8, "outside", "(III)Z"⟩
abbrev cX8_tellsBookOrNone : ByteArray := prog_1_method_41_code
def yX8_tellsBookOrNone : MethodName := ⟨RX8, "tellsBookOrNone", "(I)Z"⟩
abbrev cX8_bookSaid : ByteArray := prog_1_method_42_code
def yX8_bookSaid : MethodName := ⟨RX8, "bookSaid", "(I)I"⟩
abbrev cX8_replace : ByteArray := prog_1_method_43_code
def yX8_replace : MethodName := ⟨RX8, "replace", "([III)I"⟩
abbrev cX8_sumOf : ByteArray := prog_1_method_44_code
def yX8_sumOf : MethodName := ⟨RX8, "sumOf", "([II)I"⟩
abbrev cX8_partOfFraction : ByteArray := prog_1_method_45_code
def yX8_partOfFraction : MethodName := ⟨RX8, "partOfFraction", "(JJI)J"⟩
abbrev cX8_beginTrial : ByteArray := prog_1_method_46_code
def yX8_beginTrial : MethodName := ⟨RX8, "beginTrial", "()V"⟩
abbrev cX8_trialMinutes : ByteArray := prog_1_method_47_code
def yX8_trialMinutes : MethodName := ⟨RX8, "trialMinutes", "()I"⟩
abbrev cX8_daysTillAllDone : ByteArray := prog_1_method_48_code
def yX8_daysTillAllDone : MethodName := ⟨RX8, "daysTillAllDone", "(I)I"⟩
abbrev cX8_findOrder : ByteArray := prog_1_method_49_code
def yX8_findOrder : MethodName := ⟨RX8, "findOrder", "()I"⟩
abbrev cX8_turnToNextOrder : ByteArray := prog_1_method_50_code
def yX8_turnToNextOrder : MethodName := ⟨RX8, "turnToNextOrder", "([II)Z"⟩
abbrev cX8_exchange : ByteArray := prog_1_method_51_code
def yX8_exchange : MethodName := ⟨RX8, "exchange", "([III)V"⟩
abbrev cX8_heightsAsSeen : ByteArray := prog_1_method_52_code
def yX8_heightsAsSeen : MethodName := ⟨RX8, "heightsAsSeen", "(I)I"⟩
abbrev cX8_imagesTaken : ByteArray := prog_1_method_53_code
def yX8_imagesTaken : MethodName := ⟨RX8, "imagesTaken", "()I"⟩
def RX9 : String := "UpperStepsModel"
def TX9 : u_T := fun k => match k with
  | 0 => ("UpperStepsModel", "st", "[I", true)
  | 1 => ("UpperStepsModel", "now", "[I", true)
  | 2 => ("UpperStepsModel", "isKept", "[Z", true)
  | 3 => ("UpperStepsModel", "books", "I", false)
  | 4 => ("UpperStepsModel", "readers", "I", false)
  | 5 => ("UpperStepsModel", "draft", "[I", true)
  | 6 => ("UpperStepsModel", "dBooks", "I", false)
  | 7 => ("UpperStepsModel", "dReaders", "I", false)
  | 8 => ("UpperStepsModel", "hasSteps", "Z", false)
  | 9 => ("UpperStepsModel", "highest", "I", false)
  | 10 => ("UpperStepsModel", "tape", "[I", true)
  | 11 => ("UpperStepsModel", "taped", "I", false)
  | 12 => ("UpperStepsModel", "pos", "I", false)
  | 13 => ("UpperStepsModel", "begun", "I", false)
  | 14 => ("UpperStepsModel", "sort", "I", false)
  | 15 => ("UpperStepsModel", "value", "I", false)
  | 16 => ("UpperStepsModel", "fault", "I", false)
  | 17 => ("UpperStepsModel", "wrongAt", "I", false)
  | 18 => ("UpperStepsModel", "fetched", "I", false)
  | 19 => ("UpperStepsModel", "minutes", "I", false)
  | 20 => ("UpperStepsModel", "vertigos", "I", false)
  | 21 => ("UpperStepsModel", "vertigoBook", "I", false)
  | 22 => ("UpperStepsModel", "row", "[I", true)
  | 23 => ("UpperStepsModel", "bestRow", "[I", true)
  | 24 => ("UpperStepsModel", "fewSum", "J", false)
  | 25 => ("UpperStepsModel", "minuteSum", "J", false)
  | 26 => ("UpperStepsModel", "allWays", "J", false)
  | 27 => ("UpperStepsModel", "wanted", "[I", true)
  | 28 => ("UpperStepsModel", "byHeight", "[I", true)
  | 29 => ("UpperStepsModel", "lanes", "[I", true)
  | 30 => ("UpperStepsModel", "sizes", "[I", true)
  | 31 => ("UpperStepsModel", "cells", "[I", true)
  | 32 => ("UpperStepsModel", "torn", "I", false)
  | _ => ("UpperStepsModel", "before", "[I", true)
def tyX9 : Nat → FieldType := fun k => match k with
  | 0 => .array .int
  | 1 => .array .int
  | 2 => .array .boolean
  | 3 => .int
  | 4 => .int
  | 5 => .array .int
  | 6 => .int
  | 7 => .int
  | 8 => .boolean
  | 9 => .int
  | 10 => .array .int
  | 11 => .int
  | 12 => .int
  | 13 => .int
  | 14 => .int
  | 15 => .int
  | 16 => .int
  | 17 => .int
  | 18 => .int
  | 19 => .int
  | 20 => .int
  | 21 => .int
  | 22 => .array .int
  | 23 => .array .int
  | 24 => .long
  | 25 => .long
  | 26 => .long
  | 27 => .array .int
  | 28 => .array .int
  | 29 => .array .int
  | 30 => .array .int
  | 31 => .array .int
  | 32 => .int
  | _ => .array .int
abbrev wsX90 : List Cond := u_ws RX9 TX9 34
theorem nmX9 : ∀ a, a < 34 → ∀ b, b < 34 → a ≠ b → (TX9 a).2.1 ≠ (TX9 b).2.1 := by decide +kernel
theorem tyX9_ok : ∀ k, k < 34 → parseFieldDescriptor (TX9 k).2.2.1 = some (tyX9 k) := by decide +kernel
abbrev cX9_init : ByteArray := prog_11_method_1_code
def yX9_init : MethodName := ⟨RX9, "<init>", "()V"⟩
abbrev cX9_in : ByteArray := prog_11_method_3_code
def yX9_in : MethodName := ⟨RX9, "in", "(JJJ)Z"⟩
abbrev cX9_flag : ByteArray := prog_11_method_4_code
def yX9_flag : MethodName := ⟨RX9, "flag", "(Z)I"⟩
abbrev cX9_lesser : ByteArray := prog_11_method_5_code
def yX9_lesser : MethodName := ⟨RX9, "lesser", "(II)I"⟩
abbrev cX9_bitsOf : ByteArray := prog_11_method_6_code
def yX9_bitsOf : MethodName := ⟨RX9, "bitsOf", "(I)I"⟩
abbrev cX9_firstDraft : ByteArray := prog_11_method_7_code
def yX9_firstDraft : MethodName := ⟨RX9, "firstDraft", "()V"⟩
abbrev cX9_keepDraft : ByteArray := prog_11_method_8_code
def yX9_keepDraft : MethodName := ⟨RX9, "keepDraft", "()V"⟩
abbrev cX9_feed : ByteArray := prog_11_method_9_code
def yX9_feed : MethodName := ⟨RX9, "feed", "(I)I"⟩
abbrev cX9_end : ByteArray := prog_11_method_10_code
def yX9_end : MethodName := ⟨RX9, "end", "(I)I"⟩
abbrev cX9_needs : ByteArray := prog_11_method_11_code
def yX9_needs : MethodName := ⟨RX9, "needs", "(ZI)V"⟩
abbrev cX9_byteAt : ByteArray := prog_11_method_12_code
def yX9_byteAt : MethodName := ⟨RX9, "byteAt", "(I)I"⟩
abbrev cX9_is : ByteArray := prog_11_method_13_code
def yX9_is : MethodName := ⟨RX9, "is", "(IIIII)Z"⟩
abbrev cX9_ends : ByteArray := prog_11_method_14_code
def yX9_ends : MethodName := ⟨RX9, "ends", "(II)Z"⟩
abbrev cX9_lineNow : ByteArray := prog_11_method_15_code
def yX9_lineNow : MethodName := ⟨RX9, "lineNow", "()I"⟩
abbrev cX9_takes : ByteArray := prog_11_method_16_code
def yX9_takes : MethodName := ⟨RX9, "takes", "()V"⟩
abbrev cX9_looked : ByteArray := prog_11_method_17_code
def yX9_looked : MethodName := ⟨RX9, "looked", "(II)I"⟩
abbrev cX9_readNumber : ByteArray := prog_11_method_18_code
def yX9_readNumber : MethodName := ⟨RX9, "readNumber", "(II)I"⟩
abbrev cX9_readBook : ByteArray := prog_11_method_19_code
def yX9_readBook : MethodName := ⟨RX9, "readBook", "()I"⟩
abbrev cX9_readLineOf : ByteArray := prog_11_method_20_code
def yX9_readLineOf : MethodName := ⟨RX9, "readLineOf", "(I)V"⟩
abbrev cX9_readLine : ByteArray := prog_11_method_21_code
def yX9_readLine : MethodName := ⟨RX9, "readLine", "()V"⟩
abbrev cX9_text : ByteArray := prog_11_method_22_code
def yX9_text : MethodName := ⟨RX9, "text", "()I"⟩
abbrev cX9_fault : ByteArray := prog_11_method_23_code
def yX9_fault : MethodName := ⟨RX9, "fault", "()I"⟩
abbrev cX9_isBook : ByteArray := prog_11_method_24_code
def yX9_isBook : MethodName := ⟨RX9, "isBook", "(I)Z"⟩
abbrev cX9_isReader : ByteArray := prog_11_method_25_code
def yX9_isReader : MethodName := ⟨RX9, "isReader", "(I)Z"⟩
abbrev cX9_isBay : ByteArray := prog_11_method_26_code
def yX9_isBay : MethodName := ⟨RX9, "isBay", "(I)Z"⟩
abbrev cX9_isPart : ByteArray := prog_11_method_27_code
def yX9_isPart : MethodName := ⟨RX9, "isPart", "(I)Z"⟩
abbrev cX9_starts : ByteArray := prog_11_method_28_code
def yX9_starts : MethodName := ⟨RX9, "starts", "()V"⟩
abbrev cX9_settles : ByteArray := prog_11_method_29_code
def yX9_settles : MethodName := ⟨RX9, "settles", "()V"⟩
abbrev cX9_of : ByteArray := prog_11_method_30_code
def yX9_of : MethodName := ⟨RX9, "of", "(II)I"⟩
abbrev cX9_ofReader : ByteArray := prog_11_method_31_code
def yX9_ofReader : MethodName := ⟨RX9, "ofReader", "(II)I"⟩
abbrev cX9_becomesOf : ByteArray := prog_11_method_32_code
def yX9_becomesOf : MethodName := ⟨RX9, "becomesOf", "(III)V"⟩
abbrev cX9_had : ByteArray := prog_11_method_33_code
def yX9_had : MethodName := ⟨RX9, "had", "(II)Z"⟩
abbrev cX9_climb : ByteArray := prog_11_method_34_code
def yX9_climb : MethodName := ⟨RX9, "climb", "(II)I"⟩
abbrev cX9_dizziness : ByteArray := prog_11_method_35_code
def yX9_dizziness : MethodName := ⟨RX9, "dizziness", "(II)I"⟩
abbrev cX9_minutesOf : ByteArray := prog_11_method_36_code
def yX9_minutesOf : MethodName := ⟨RX9, "minutesOf", "(II)I"⟩
abbrev cX9_startsCounting : ByteArray := prog_11_method_37_code
def yX9_startsCounting : MethodName := ⟨RX9, "startsCounting", "()V"⟩
abbrev cX9_fetches : ByteArray := prog_11_method_38_code
def yX9_fetches : MethodName := ⟨RX9, "fetches", "(II)V"⟩
abbrev cX9_readerGoes : ByteArray := prog_11_method_39_code
def yX9_readerGoes : MethodName := ⟨RX9, "readerGoes", "(I)V"⟩
abbrev cX9_dayGoes : ByteArray := prog_11_method_40_code
def yX9_dayGoes : MethodName := ⟨RX9, "dayGoes", "()V"⟩
abbrev cX9_daysGo : ByteArray := prog_11_method_41_code
def yX9_daysGo : MethodName := ⟨RX9, "daysGo", "(I)V"⟩
abbrev cX9_doneNow : ByteArray := prog_11_method_42_code
def yX9_doneNow : MethodName := ⟨RX9, "doneNow", "()I"⟩
abbrev cX9_rule : ByteArray := prog_11_method_43_code
def yX9_rule : MethodName := ⟨RX9, "rule", "(I)I"⟩
abbrev cX9_book : ByteArray := prog_11_method_44_code
def yX9_book : MethodName := ⟨RX9, "book", "(II)I"⟩
abbrev cX9_reader : ByteArray := prog_11_method_45_code
def yX9_reader : MethodName := ⟨RX9, "reader", "(II)I"⟩
abbrev cX9_becomes : ByteArray := prog_11_method_46_code
def yX9_becomes : MethodName := ⟨RX9, "becomes", "(II)I"⟩
abbrev cX9_isBookOrNone : ByteArray := prog_11_method_47_code
def yX9_isBookOrNone : MethodName := ⟨RX9, "isBookOrNone", "(I)Z"⟩
abbrev cX9_asKept : ByteArray := prog_11_method_48_code
def yX9_asKept : MethodName := ⟨RX9, "asKept", "(I)I"⟩
abbrev cX9_shelve : ByteArray := prog_11_method_49_code
def yX9_shelve : MethodName := ⟨RX9, "shelve", "(III)I"⟩
abbrev cX9_alter : ByteArray := prog_11_method_50_code
def yX9_alter : MethodName := ⟨RX9, "alter", "(III)I"⟩
abbrev cX9_roll : ByteArray := prog_11_method_51_code
def yX9_roll : MethodName := ⟨RX9, "roll", "(I)I"⟩
abbrev cX9_forgets : ByteArray := prog_11_method_52_code
def yX9_forgets : MethodName := ⟨RX9, "forgets", "(I)I"⟩
abbrev cX9_fetch : ByteArray := prog_11_method_53_code
def yX9_fetch : MethodName := ⟨RX9, "fetch", "(II)I"⟩
abbrev cX9_days : ByteArray := prog_11_method_54_code
def yX9_days : MethodName := ⟨RX9, "days", "(I)I"⟩
abbrev cX9_isFar : ByteArray := prog_11_method_55_code
def yX9_isFar : MethodName := ⟨RX9, "isFar", "(I)Z"⟩
abbrev cX9_runs : ByteArray := prog_11_method_56_code
def yX9_runs : MethodName := ⟨RX9, "runs", "(II)I"⟩
abbrev cX9_ahead : ByteArray := prog_11_method_57_code
def yX9_ahead : MethodName := ⟨RX9, "ahead", "(III)I"⟩
abbrev cX9_daysTo : ByteArray := prog_11_method_58_code
def yX9_daysTo : MethodName := ⟨RX9, "daysTo", "(I)I"⟩
abbrev cX9_done : ByteArray := prog_11_method_59_code
def yX9_done : MethodName := ⟨RX9, "done", "(I)I"⟩
abbrev cX9_vertigo : ByteArray := prog_11_method_60_code
def yX9_vertigo : MethodName := ⟨RX9, "vertigo", "(I)I"⟩
abbrev cX9_isRow : ByteArray := prog_11_method_61_code
def yX9_isRow : MethodName := ⟨RX9, "isRow", "(I)Z"⟩
abbrev cX9_minutesByRow : ByteArray := prog_11_method_62_code
def yX9_minutesByRow : MethodName := ⟨RX9, "minutesByRow", "()I"⟩
abbrev cX9_findOrder : ByteArray := prog_11_method_63_code
def yX9_findOrder : MethodName := ⟨RX9, "findOrder", "()I"⟩
abbrev cX9_order : ByteArray := prog_11_method_64_code
def yX9_order : MethodName := ⟨RX9, "order", "(I)I"⟩
abbrev cX9_start : ByteArray := prog_11_method_65_code
def yX9_start : MethodName := ⟨RX9, "start", "(II)I"⟩
abbrev cX9_swap : ByteArray := prog_11_method_66_code
def yX9_swap : MethodName := ⟨RX9, "swap", "(II)I"⟩
abbrev cX9_knee : ByteArray := prog_11_method_67_code
def yX9_knee : MethodName := ⟨RX9, "knee", "(II)I"⟩
abbrev cX9_need : ByteArray := prog_11_method_68_code
def yX9_need : MethodName := ⟨RX9, "need", "(II)I"⟩
abbrev cX9_high : ByteArray := prog_11_method_69_code
def yX9_high : MethodName := ⟨RX9, "high", "(III)I"⟩
abbrev cX9_common : ByteArray := prog_11_method_70_code
def yX9_common : MethodName := ⟨RX9, "common", "(JJ)J"⟩
abbrev cX9_told : ByteArray := prog_11_method_71_code
def yX9_told : MethodName := ⟨RX9, "told", "(JJI)J"⟩
abbrev cX9_findOdds : ByteArray := prog_11_method_72_code
def yX9_findOdds : MethodName := ⟨RX9, "findOdds", "(III)V"⟩
abbrev cX9_luck : ByteArray := prog_11_method_73_code
def yX9_luck : MethodName := ⟨RX9, "luck", "(IIII)J"⟩
abbrev cX9_mean : ByteArray := prog_11_method_74_code
def yX9_mean : MethodName := ⟨RX9, "mean", "(III)J"⟩
abbrev cX9_see : ByteArray := prog_11_method_75_code
def yX9_see : MethodName := ⟨RX9, "see", "(III)I"⟩
abbrev cX9_forget : ByteArray := prog_11_method_76_code
def yX9_forget : MethodName := ⟨RX9, "forget", "(I)I"⟩
abbrev cX9_isSoWith : ByteArray := prog_11_method_77_code
def yX9_isSoWith : MethodName := ⟨RX9, "isSoWith", "(II)Z"⟩
abbrev cX9_kinds : ByteArray := prog_11_method_78_code
def yX9_kinds : MethodName := ⟨RX9, "kinds", "(I)I"⟩
abbrev cX9_heights : ByteArray := prog_11_method_79_code
def yX9_heights : MethodName := ⟨RX9, "heights", "(I)I"⟩
abbrev cX9_ask : ByteArray := prog_11_method_80_code
def yX9_ask : MethodName := ⟨RX9, "ask", "(II)I"⟩
abbrev cX9_drift : ByteArray := prog_11_method_81_code
def yX9_drift : MethodName := ⟨RX9, "drift", "(III)I"⟩
abbrev cX9_copies : ByteArray := prog_11_method_82_code
def yX9_copies : MethodName := ⟨RX9, "copies", "(II)V"⟩
abbrev cX9_keep : ByteArray := prog_11_method_83_code
def yX9_keep : MethodName := ⟨RX9, "keep", "(I)I"⟩
abbrev cX9_back : ByteArray := prog_11_method_84_code
def yX9_back : MethodName := ⟨RX9, "back", "(I)I"⟩
abbrev cX9_isSheet : ByteArray := prog_11_method_85_code
def yX9_isSheet : MethodName := ⟨RX9, "isSheet", "(II)Z"⟩
abbrev cX9_sheet : ByteArray := prog_11_method_86_code
def yX9_sheet : MethodName := ⟨RX9, "sheet", "(III)I"⟩
abbrev cX9_lay : ByteArray := prog_11_method_87_code
def yX9_lay : MethodName := ⟨RX9, "lay", "(III)I"⟩
abbrev cX9_read : ByteArray := prog_11_method_88_code
def yX9_read : MethodName := ⟨RX9, "read", "(IIII)I"⟩
abbrev cX9_torn : ByteArray := prog_11_method_89_code
def yX9_torn : MethodName := ⟨RX9, "torn", "()I"⟩
abbrev cX9_count : ByteArray := prog_11_method_90_code
def yX9_count : MethodName := ⟨RX9, "count", "(I)I"⟩
def RJ6 : String := "java/lang/Integer"
def TJ6 : u_T := fun k => match k with
  | _ => ("", "", "", false)
def tyJ6 : Nat → FieldType := fun k => match k with
  | _ => .int
abbrev wsJ60 : List Cond := u_ws RJ6 TJ6 0
theorem nmJ6 : ∀ a, a < 0 → ∀ b, b < 0 → a ≠ b → (TJ6 a).2.1 ≠ (TJ6 b).2.1 := by decide +kernel
theorem tyJ6_ok : ∀ k, k < 0 → parseFieldDescriptor (TJ6 k).2.2.1 = some (tyJ6 k) := by decide +kernel
abbrev cJ6_bitCount_0f7a4 : ByteArray := prog_12_method_49_code
def yJ6_bitCount_0f7a4 : MethodName := ⟨RJ6, "bitCount", "(I)I"⟩
def RJ9 : String := "java/lang/Math"
def TJ9 : u_T := fun k => match k with
  | _ => ("", "", "", false)
def tyJ9 : Nat → FieldType := fun k => match k with
  | _ => .int
abbrev wsJ90 : List Cond := u_ws RJ9 TJ9 0
theorem nmJ9 : ∀ a, a < 0 → ∀ b, b < 0 → a ≠ b → (TJ9 a).2.1 ≠ (TJ9 b).2.1 := by decide +kernel
theorem tyJ9_ok : ∀ k, k < 0 → parseFieldDescriptor (TJ9 k).2.2.1 = some (tyJ9 k) := by decide +kernel
abbrev cJ9_abs_0f7a4 : ByteArray := prog_13_method_59_code
def yJ9_abs_0f7a4 : MethodName := ⟨RJ9, "abs", "(I)I"⟩
abbrev cJ9_max_7cf53 : ByteArray := prog_13_method_65_code
def yJ9_max_7cf53 : MethodName := ⟨RJ9, "max", "(II)I"⟩
abbrev cJ9_min_7cf53 : ByteArray := prog_13_method_69_code
def yJ9_min_7cf53 : MethodName := ⟨RJ9, "min", "(II)I"⟩
def RJ0 : String := "java/lang/String"
def TJ0 : u_T := fun k => match k with
  | _ => ("", "", "", false)
def tyJ0 : Nat → FieldType := fun k => match k with
  | _ => .int
abbrev wsJ00 : List Cond := u_ws RJ0 TJ0 0
theorem nmJ0 : ∀ a, a < 0 → ∀ b, b < 0 → a ≠ b → (TJ0 a).2.1 ≠ (TJ0 b).2.1 := by decide +kernel
theorem tyJ0_ok : ∀ k, k < 0 → parseFieldDescriptor (TJ0 k).2.2.1 = some (tyJ0 k) := by decide +kernel
abbrev cJ0_length_8abf5 : ByteArray := prog_14_method_54_code
def yJ0_length_8abf5 : MethodName := ⟨RJ0, "length", "()I"⟩
abbrev cJ0_charAt_5068e : ByteArray := prog_14_method_56_code
def yJ0_charAt_5068e : MethodName := ⟨RJ0, "charAt", "(I)C"⟩
abbrev cJ0_coder_7d493 : ByteArray := prog_14_method_152_code
def yJ0_coder_7d493 : MethodName := ⟨RJ0, "coder", "()B"⟩
abbrev cJ0_isLatin1_aae02 : ByteArray := prog_14_method_154_code
def yJ0_isLatin1_aae02 : MethodName := ⟨RJ0, "isLatin1", "()Z"⟩
abbrev cJ0_checkIndex_df160 : ByteArray := prog_14_method_155_code
def yJ0_checkIndex_df160 : MethodName := ⟨RJ0, "checkIndex", "(II)V"⟩
def RJ1 : String := "java/lang/StringLatin1"
def TJ1 : u_T := fun k => match k with
  | _ => ("", "", "", false)
def tyJ1 : Nat → FieldType := fun k => match k with
  | _ => .int
abbrev wsJ10 : List Cond := u_ws RJ1 TJ1 0
theorem nmJ1 : ∀ a, a < 0 → ∀ b, b < 0 → a ≠ b → (TJ1 a).2.1 ≠ (TJ1 b).2.1 := by decide +kernel
theorem tyJ1_ok : ∀ k, k < 0 → parseFieldDescriptor (TJ1 k).2.2.1 = some (tyJ1 k) := by decide +kernel
abbrev cJ1_charAt_3b067 : ByteArray := prog_15_method_2_code
def yJ1_charAt_3b067 : MethodName := ⟨RJ1, "charAt", "([BI)C"⟩
def RJ2 : String := "java/lang/StringUTF16"
def TJ2 : u_T := fun k => match k with
  | _ => ("", "", "", false)
def tyJ2 : Nat → FieldType := fun k => match k with
  | _ => .int
abbrev wsJ20 : List Cond := u_ws RJ2 TJ2 0
theorem nmJ2 : ∀ a, a < 0 → ∀ b, b < 0 → a ≠ b → (TJ2 a).2.1 ≠ (TJ2 b).2.1 := by decide +kernel
theorem tyJ2_ok : ∀ k, k < 0 → parseFieldDescriptor (TJ2 k).2.2.1 = some (tyJ2 k) := by decide +kernel
abbrev cJ2_getChar_3b067 : ByteArray := prog_16_method_5_code
def yJ2_getChar_3b067 : MethodName := ⟨RJ2, "getChar", "([BI)C"⟩
abbrev cJ2_length_9d52b : ByteArray := prog_16_method_6_code
def yJ2_length_9d52b : MethodName := ⟨RJ2, "length", "([B)I"⟩
abbrev cJ2_charAt_3b067 : ByteArray := prog_16_method_83_code
def yJ2_charAt_3b067 : MethodName := ⟨RJ2, "charAt", "([BI)C"⟩
abbrev cJ2_checkIndex_2214a : ByteArray := prog_16_method_91_code
def yJ2_checkIndex_2214a : MethodName := ⟨RJ2, "checkIndex", "(I[B)V"⟩
def RJ10 : String := "java/lang/System"
def TJ10 : u_T := fun k => match k with
  | _ => ("", "", "", false)
def tyJ10 : Nat → FieldType := fun k => match k with
  | _ => .int
abbrev wsJ100 : List Cond := u_ws RJ10 TJ10 0
theorem nmJ10 : ∀ a, a < 0 → ∀ b, b < 0 → a ≠ b → (TJ10 a).2.1 ≠ (TJ10 b).2.1 := by decide +kernel
theorem tyJ10_ok : ∀ k, k < 0 → parseFieldDescriptor (TJ10 k).2.2.1 = some (tyJ10 k) := by decide +kernel
def RJ3 : String := "jdk/internal/util/Preconditions"
def TJ3 : u_T := fun k => match k with
  | _ => ("", "", "", false)
def tyJ3 : Nat → FieldType := fun k => match k with
  | _ => .int
abbrev wsJ30 : List Cond := u_ws RJ3 TJ3 0
theorem nmJ3 : ∀ a, a < 0 → ∀ b, b < 0 → a ≠ b → (TJ3 a).2.1 ≠ (TJ3 b).2.1 := by decide +kernel
theorem tyJ3_ok : ∀ k, k < 0 → parseFieldDescriptor (TJ3 k).2.2.1 = some (tyJ3 k) := by decide +kernel
abbrev cJ3_checkIndex_8e157 : ByteArray := prog_18_method_11_code
def yJ3_checkIndex_8e157 : MethodName := ⟨RJ3, "checkIndex", "(IILjava/util/function/BiFunction;)I"⟩
def RL : String := "UpperStepsLaw"
abbrev cL_law : ByteArray := code
def yL_law : MethodName := ⟨RL, "law", "([I)Z"⟩
abbrev vwCl : List vw_C := [(RX0, TX0, 14), (RX1, TX1, 3), (RX2, TX2, 2), (RX3, TX3, 6), (RX4, TX4, 4), (RX5, TX5, 3), (RX6, TX6, 4), (RX7, TX7, 5), (RX8, TX8, 12), (RX9, TX9, 34)]
abbrev WL : List Cond := lw_tbl.filter goodWord
theorem wlm {w : Cond} (i : Nat) (h : lw_tbl[i]? = some w) (g : goodWord w = true) : w ∈ WL := List.mem_filter.mpr ⟨List.mem_of_getElem? h, g⟩
theorem wl_in {ws : List Cond} (h : ws.all (fun w => decide (w ∈ lw_tbl) && goodWord w) = true) : ∀ w ∈ ws, w ∈ WL := fun w hw => by
  have h1 := List.all_eq_true.mp h w hw
  simp only [Bool.and_eq_true, decide_eq_true_eq] at h1
  exact List.mem_filter.mpr ⟨h1.1, h1.2⟩
set_option maxRecDepth 20000 in
theorem inWX0 : ∀ w ∈ u_ws RX0 TX0 14, w ∈ WL := wl_in (by decide +kernel)
set_option maxRecDepth 20000 in
theorem inWX1 : ∀ w ∈ u_ws RX1 TX1 3, w ∈ WL := wl_in (by decide +kernel)
set_option maxRecDepth 20000 in
theorem inWX2 : ∀ w ∈ u_ws RX2 TX2 2, w ∈ WL := wl_in (by decide +kernel)
set_option maxRecDepth 20000 in
theorem inWX3 : ∀ w ∈ u_ws RX3 TX3 6, w ∈ WL := wl_in (by decide +kernel)
set_option maxRecDepth 20000 in
theorem inWX4 : ∀ w ∈ u_ws RX4 TX4 4, w ∈ WL := wl_in (by decide +kernel)
set_option maxRecDepth 20000 in
theorem inWX5 : ∀ w ∈ u_ws RX5 TX5 3, w ∈ WL := wl_in (by decide +kernel)
set_option maxRecDepth 20000 in
theorem inWX6 : ∀ w ∈ u_ws RX6 TX6 4, w ∈ WL := wl_in (by decide +kernel)
set_option maxRecDepth 20000 in
theorem inWX7 : ∀ w ∈ u_ws RX7 TX7 5, w ∈ WL := wl_in (by decide +kernel)
set_option maxRecDepth 20000 in
theorem inWX8 : ∀ w ∈ u_ws RX8 TX8 12, w ∈ WL := wl_in (by decide +kernel)
set_option maxRecDepth 20000 in
theorem inWX9 : ∀ w ∈ u_ws RX9 TX9 34, w ∈ WL := wl_in (by decide +kernel)
end
section
theorem dX0_init_0 : decode cX0_init 0 = .ok (.aload_n 0, 1) := by decide +kernel
theorem dX0_init_1 : decode cX0_init 1 = .ok (.invokespecial 3, 3) := by decide +kernel
theorem dX0_init_4 : decode cX0_init 4 = .ok (.aload_n 0, 1) := by decide +kernel
theorem dX0_init_5 : decode cX0_init 5 = .ok (.bipush 8, 2) := by decide +kernel
theorem dX0_init_7 : decode cX0_init 7 = .ok (.newarray .int, 2) := by decide +kernel
theorem dX0_init_9 : decode cX0_init 9 = .ok (.putfield 9, 3) := by decide +kernel
theorem dX0_init_12 : decode cX0_init 12 = .ok (.aload_n 0, 1) := by decide +kernel
theorem dX0_init_13 : decode cX0_init 13 = .ok (.bipush 8, 2) := by decide +kernel
theorem dX0_init_15 : decode cX0_init 15 = .ok (.newarray .int, 2) := by decide +kernel
theorem dX0_init_17 : decode cX0_init 17 = .ok (.putfield 15, 3) := by decide +kernel
theorem dX0_init_20 : decode cX0_init 20 = .ok (.aload_n 0, 1) := by decide +kernel
theorem dX0_init_21 : decode cX0_init 21 = .ok (.bipush 8, 2) := by decide +kernel
theorem dX0_init_23 : decode cX0_init 23 = .ok (.newarray .int, 2) := by decide +kernel
theorem dX0_init_25 : decode cX0_init 25 = .ok (.putfield 18, 3) := by decide +kernel
theorem dX0_init_28 : decode cX0_init 28 = .ok (.aload_n 0, 1) := by decide +kernel
theorem dX0_init_29 : decode cX0_init 29 = .ok (.iconst 4, 1) := by decide +kernel
theorem dX0_init_30 : decode cX0_init 30 = .ok (.newarray .int, 2) := by decide +kernel
theorem dX0_init_32 : decode cX0_init 32 = .ok (.putfield 21, 3) := by decide +kernel
theorem dX0_init_35 : decode cX0_init 35 = .ok (.aload_n 0, 1) := by decide +kernel
theorem dX0_init_36 : decode cX0_init 36 = .ok (.iconst 4, 1) := by decide +kernel
theorem dX0_init_37 : decode cX0_init 37 = .ok (.newarray .int, 2) := by decide +kernel
theorem dX0_init_39 : decode cX0_init 39 = .ok (.putfield 24, 3) := by decide +kernel
theorem dX0_init_42 : decode cX0_init 42 = .ok (.aload_n 0, 1) := by decide +kernel
theorem dX0_init_43 : decode cX0_init 43 = .ok (.iconst 4, 1) := by decide +kernel
theorem dX0_init_44 : decode cX0_init 44 = .ok (.newarray .int, 2) := by decide +kernel
theorem dX0_init_46 : decode cX0_init 46 = .ok (.putfield 27, 3) := by decide +kernel
theorem dX0_init_49 : decode cX0_init 49 = .ok (.aload_n 0, 1) := by decide +kernel
theorem dX0_init_50 : decode cX0_init 50 = .ok (.iconst 4, 1) := by decide +kernel
theorem dX0_init_51 : decode cX0_init 51 = .ok (.newarray .int, 2) := by decide +kernel
theorem dX0_init_53 : decode cX0_init 53 = .ok (.putfield 30, 3) := by decide +kernel
theorem dX0_init_56 : decode cX0_init 56 = .ok (.return_, 1) := by decide +kernel
theorem dX0_clear_0 : decode cX0_clear 0 = .ok (.aload_n 0, 1) := by decide +kernel
theorem dX0_clear_1 : decode cX0_clear 1 = .ok (.iconst 0, 1) := by decide +kernel
theorem dX0_clear_2 : decode cX0_clear 2 = .ok (.putfield 33, 3) := by decide +kernel
theorem dX0_clear_5 : decode cX0_clear 5 = .ok (.aload_n 0, 1) := by decide +kernel
theorem dX0_clear_6 : decode cX0_clear 6 = .ok (.iconst 0, 1) := by decide +kernel
theorem dX0_clear_7 : decode cX0_clear 7 = .ok (.putfield 37, 3) := by decide +kernel
theorem dX0_clear_10 : decode cX0_clear 10 = .ok (.aload_n 0, 1) := by decide +kernel
theorem dX0_clear_11 : decode cX0_clear 11 = .ok (.iconst 0, 1) := by decide +kernel
theorem dX0_clear_12 : decode cX0_clear 12 = .ok (.putfield 40, 3) := by decide +kernel
theorem dX0_clear_15 : decode cX0_clear 15 = .ok (.aload_n 0, 1) := by decide +kernel
theorem dX0_clear_16 : decode cX0_clear 16 = .ok (.iconst 0, 1) := by decide +kernel
theorem dX0_clear_17 : decode cX0_clear 17 = .ok (.putfield 43, 3) := by decide +kernel
theorem dX0_clear_20 : decode cX0_clear 20 = .ok (.aload_n 0, 1) := by decide +kernel
theorem dX0_clear_21 : decode cX0_clear 21 = .ok (.iconst 0, 1) := by decide +kernel
theorem dX0_clear_22 : decode cX0_clear 22 = .ok (.putfield 46, 3) := by decide +kernel
theorem dX0_clear_25 : decode cX0_clear 25 = .ok (.aload_n 0, 1) := by decide +kernel
theorem dX0_clear_26 : decode cX0_clear 26 = .ok (.iconst 0, 1) := by decide +kernel
theorem dX0_clear_27 : decode cX0_clear 27 = .ok (.putfield 49, 3) := by decide +kernel
theorem dX0_clear_30 : decode cX0_clear 30 = .ok (.aload_n 0, 1) := by decide +kernel
theorem dX0_clear_31 : decode cX0_clear 31 = .ok (.iconst 0, 1) := by decide +kernel
theorem dX0_clear_32 : decode cX0_clear 32 = .ok (.putfield 52, 3) := by decide +kernel
theorem dX0_clear_35 : decode cX0_clear 35 = .ok (.return_, 1) := by decide +kernel
theorem dX0_copyFrom_0 : decode cX0_copyFrom 0 = .ok (.aload_n 0, 1) := by decide +kernel
theorem dX0_copyFrom_1 : decode cX0_copyFrom 1 = .ok (.aload_n 1, 1) := by decide +kernel
theorem dX0_copyFrom_2 : decode cX0_copyFrom 2 = .ok (.getfield 33, 3) := by decide +kernel
theorem dX0_copyFrom_5 : decode cX0_copyFrom 5 = .ok (.putfield 33, 3) := by decide +kernel
theorem dX0_copyFrom_8 : decode cX0_copyFrom 8 = .ok (.aload_n 1, 1) := by decide +kernel
theorem dX0_copyFrom_9 : decode cX0_copyFrom 9 = .ok (.getfield 9, 3) := by decide +kernel
theorem dX0_copyFrom_12 : decode cX0_copyFrom 12 = .ok (.iconst 0, 1) := by decide +kernel
theorem dX0_copyFrom_13 : decode cX0_copyFrom 13 = .ok (.aload_n 0, 1) := by decide +kernel
theorem dX0_copyFrom_14 : decode cX0_copyFrom 14 = .ok (.getfield 9, 3) := by decide +kernel
theorem dX0_copyFrom_17 : decode cX0_copyFrom 17 = .ok (.iconst 0, 1) := by decide +kernel
theorem dX0_copyFrom_18 : decode cX0_copyFrom 18 = .ok (.bipush 8, 2) := by decide +kernel
theorem dX0_copyFrom_20 : decode cX0_copyFrom 20 = .ok (.invokestatic 55, 3) := by decide +kernel
theorem dX0_copyFrom_23 : decode cX0_copyFrom 23 = .ok (.aload_n 1, 1) := by decide +kernel
theorem dX0_copyFrom_24 : decode cX0_copyFrom 24 = .ok (.getfield 15, 3) := by decide +kernel
theorem dX0_copyFrom_27 : decode cX0_copyFrom 27 = .ok (.iconst 0, 1) := by decide +kernel
theorem dX0_copyFrom_28 : decode cX0_copyFrom 28 = .ok (.aload_n 0, 1) := by decide +kernel
theorem dX0_copyFrom_29 : decode cX0_copyFrom 29 = .ok (.getfield 15, 3) := by decide +kernel
theorem dX0_copyFrom_32 : decode cX0_copyFrom 32 = .ok (.iconst 0, 1) := by decide +kernel
theorem dX0_copyFrom_33 : decode cX0_copyFrom 33 = .ok (.bipush 8, 2) := by decide +kernel
theorem dX0_copyFrom_35 : decode cX0_copyFrom 35 = .ok (.invokestatic 55, 3) := by decide +kernel
theorem dX0_copyFrom_38 : decode cX0_copyFrom 38 = .ok (.aload_n 1, 1) := by decide +kernel
theorem dX0_copyFrom_39 : decode cX0_copyFrom 39 = .ok (.getfield 18, 3) := by decide +kernel
theorem dX0_copyFrom_42 : decode cX0_copyFrom 42 = .ok (.iconst 0, 1) := by decide +kernel
theorem dX0_copyFrom_43 : decode cX0_copyFrom 43 = .ok (.aload_n 0, 1) := by decide +kernel
theorem dX0_copyFrom_44 : decode cX0_copyFrom 44 = .ok (.getfield 18, 3) := by decide +kernel
theorem dX0_copyFrom_47 : decode cX0_copyFrom 47 = .ok (.iconst 0, 1) := by decide +kernel
theorem dX0_copyFrom_48 : decode cX0_copyFrom 48 = .ok (.bipush 8, 2) := by decide +kernel
theorem dX0_copyFrom_50 : decode cX0_copyFrom 50 = .ok (.invokestatic 55, 3) := by decide +kernel
theorem dX0_copyFrom_53 : decode cX0_copyFrom 53 = .ok (.aload_n 0, 1) := by decide +kernel
theorem dX0_copyFrom_54 : decode cX0_copyFrom 54 = .ok (.aload_n 1, 1) := by decide +kernel
theorem dX0_copyFrom_55 : decode cX0_copyFrom 55 = .ok (.getfield 37, 3) := by decide +kernel
theorem dX0_copyFrom_58 : decode cX0_copyFrom 58 = .ok (.putfield 37, 3) := by decide +kernel
theorem dX0_copyFrom_61 : decode cX0_copyFrom 61 = .ok (.aload_n 1, 1) := by decide +kernel
theorem dX0_copyFrom_62 : decode cX0_copyFrom 62 = .ok (.getfield 21, 3) := by decide +kernel
theorem dX0_copyFrom_65 : decode cX0_copyFrom 65 = .ok (.iconst 0, 1) := by decide +kernel
theorem dX0_copyFrom_66 : decode cX0_copyFrom 66 = .ok (.aload_n 0, 1) := by decide +kernel
theorem dX0_copyFrom_67 : decode cX0_copyFrom 67 = .ok (.getfield 21, 3) := by decide +kernel
theorem dX0_copyFrom_70 : decode cX0_copyFrom 70 = .ok (.iconst 0, 1) := by decide +kernel
theorem dX0_copyFrom_71 : decode cX0_copyFrom 71 = .ok (.iconst 4, 1) := by decide +kernel
theorem dX0_copyFrom_72 : decode cX0_copyFrom 72 = .ok (.invokestatic 55, 3) := by decide +kernel
theorem dX0_copyFrom_75 : decode cX0_copyFrom 75 = .ok (.aload_n 1, 1) := by decide +kernel
theorem dX0_copyFrom_76 : decode cX0_copyFrom 76 = .ok (.getfield 24, 3) := by decide +kernel
theorem dX0_copyFrom_79 : decode cX0_copyFrom 79 = .ok (.iconst 0, 1) := by decide +kernel
theorem dX0_copyFrom_80 : decode cX0_copyFrom 80 = .ok (.aload_n 0, 1) := by decide +kernel
theorem dX0_copyFrom_81 : decode cX0_copyFrom 81 = .ok (.getfield 24, 3) := by decide +kernel
theorem dX0_copyFrom_84 : decode cX0_copyFrom 84 = .ok (.iconst 0, 1) := by decide +kernel
theorem dX0_copyFrom_85 : decode cX0_copyFrom 85 = .ok (.iconst 4, 1) := by decide +kernel
theorem dX0_copyFrom_86 : decode cX0_copyFrom 86 = .ok (.invokestatic 55, 3) := by decide +kernel
theorem dX0_copyFrom_89 : decode cX0_copyFrom 89 = .ok (.aload_n 1, 1) := by decide +kernel
theorem dX0_copyFrom_90 : decode cX0_copyFrom 90 = .ok (.getfield 27, 3) := by decide +kernel
theorem dX0_copyFrom_93 : decode cX0_copyFrom 93 = .ok (.iconst 0, 1) := by decide +kernel
theorem dX0_copyFrom_94 : decode cX0_copyFrom 94 = .ok (.aload_n 0, 1) := by decide +kernel
theorem dX0_copyFrom_95 : decode cX0_copyFrom 95 = .ok (.getfield 27, 3) := by decide +kernel
theorem dX0_copyFrom_98 : decode cX0_copyFrom 98 = .ok (.iconst 0, 1) := by decide +kernel
theorem dX0_copyFrom_99 : decode cX0_copyFrom 99 = .ok (.iconst 4, 1) := by decide +kernel
theorem dX0_copyFrom_100 : decode cX0_copyFrom 100 = .ok (.invokestatic 55, 3) := by decide +kernel
theorem dX0_copyFrom_103 : decode cX0_copyFrom 103 = .ok (.aload_n 1, 1) := by decide +kernel
theorem dX0_copyFrom_104 : decode cX0_copyFrom 104 = .ok (.getfield 30, 3) := by decide +kernel
theorem dX0_copyFrom_107 : decode cX0_copyFrom 107 = .ok (.iconst 0, 1) := by decide +kernel
theorem dX0_copyFrom_108 : decode cX0_copyFrom 108 = .ok (.aload_n 0, 1) := by decide +kernel
theorem dX0_copyFrom_109 : decode cX0_copyFrom 109 = .ok (.getfield 30, 3) := by decide +kernel
theorem dX0_copyFrom_112 : decode cX0_copyFrom 112 = .ok (.iconst 0, 1) := by decide +kernel
theorem dX0_copyFrom_113 : decode cX0_copyFrom 113 = .ok (.iconst 4, 1) := by decide +kernel
theorem dX0_copyFrom_114 : decode cX0_copyFrom 114 = .ok (.invokestatic 55, 3) := by decide +kernel
theorem dX0_copyFrom_117 : decode cX0_copyFrom 117 = .ok (.aload_n 0, 1) := by decide +kernel
theorem dX0_copyFrom_118 : decode cX0_copyFrom 118 = .ok (.aload_n 1, 1) := by decide +kernel
theorem dX0_copyFrom_119 : decode cX0_copyFrom 119 = .ok (.getfield 40, 3) := by decide +kernel
theorem dX0_copyFrom_122 : decode cX0_copyFrom 122 = .ok (.putfield 40, 3) := by decide +kernel
theorem dX0_copyFrom_125 : decode cX0_copyFrom 125 = .ok (.aload_n 0, 1) := by decide +kernel
theorem dX0_copyFrom_126 : decode cX0_copyFrom 126 = .ok (.aload_n 1, 1) := by decide +kernel
theorem dX0_copyFrom_127 : decode cX0_copyFrom 127 = .ok (.getfield 43, 3) := by decide +kernel
theorem dX0_copyFrom_130 : decode cX0_copyFrom 130 = .ok (.putfield 43, 3) := by decide +kernel
theorem dX0_copyFrom_133 : decode cX0_copyFrom 133 = .ok (.aload_n 0, 1) := by decide +kernel
theorem dX0_copyFrom_134 : decode cX0_copyFrom 134 = .ok (.aload_n 1, 1) := by decide +kernel
theorem dX0_copyFrom_135 : decode cX0_copyFrom 135 = .ok (.getfield 46, 3) := by decide +kernel
theorem dX0_copyFrom_138 : decode cX0_copyFrom 138 = .ok (.putfield 46, 3) := by decide +kernel
theorem dX0_copyFrom_141 : decode cX0_copyFrom 141 = .ok (.aload_n 0, 1) := by decide +kernel
theorem dX0_copyFrom_142 : decode cX0_copyFrom 142 = .ok (.iconst 0, 1) := by decide +kernel
theorem dX0_copyFrom_143 : decode cX0_copyFrom 143 = .ok (.putfield 49, 3) := by decide +kernel
theorem dX0_copyFrom_146 : decode cX0_copyFrom 146 = .ok (.aload_n 0, 1) := by decide +kernel
theorem dX0_copyFrom_147 : decode cX0_copyFrom 147 = .ok (.iconst 0, 1) := by decide +kernel
theorem dX0_copyFrom_148 : decode cX0_copyFrom 148 = .ok (.putfield 52, 3) := by decide +kernel
theorem dX0_copyFrom_151 : decode cX0_copyFrom 151 = .ok (.return_, 1) := by decide +kernel
theorem dX0_addBook_0 : decode cX0_addBook 0 = .ok (.aload_n 0, 1) := by decide +kernel
theorem dX0_addBook_1 : decode cX0_addBook 1 = .ok (.getfield 33, 3) := by decide +kernel
theorem dX0_addBook_4 : decode cX0_addBook 4 = .ok (.bipush 8, 2) := by decide +kernel
theorem dX0_addBook_6 : decode cX0_addBook 6 = .ok (.if_icmp .ge 43, 3) := by decide +kernel
theorem dX0_addBook_9 : decode cX0_addBook 9 = .ok (.aload_n 0, 1) := by decide +kernel
theorem dX0_addBook_10 : decode cX0_addBook 10 = .ok (.getfield 9, 3) := by decide +kernel
theorem dX0_addBook_13 : decode cX0_addBook 13 = .ok (.aload_n 0, 1) := by decide +kernel
theorem dX0_addBook_14 : decode cX0_addBook 14 = .ok (.getfield 33, 3) := by decide +kernel
theorem dX0_addBook_17 : decode cX0_addBook 17 = .ok (.iload_n 1, 1) := by decide +kernel
theorem dX0_addBook_18 : decode cX0_addBook 18 = .ok (.iastore, 1) := by decide +kernel
theorem dX0_addBook_19 : decode cX0_addBook 19 = .ok (.aload_n 0, 1) := by decide +kernel
theorem dX0_addBook_20 : decode cX0_addBook 20 = .ok (.getfield 15, 3) := by decide +kernel
theorem dX0_addBook_23 : decode cX0_addBook 23 = .ok (.aload_n 0, 1) := by decide +kernel
theorem dX0_addBook_24 : decode cX0_addBook 24 = .ok (.getfield 33, 3) := by decide +kernel
theorem dX0_addBook_27 : decode cX0_addBook 27 = .ok (.iload_n 2, 1) := by decide +kernel
theorem dX0_addBook_28 : decode cX0_addBook 28 = .ok (.iastore, 1) := by decide +kernel
theorem dX0_addBook_29 : decode cX0_addBook 29 = .ok (.aload_n 0, 1) := by decide +kernel
theorem dX0_addBook_30 : decode cX0_addBook 30 = .ok (.getfield 18, 3) := by decide +kernel
theorem dX0_addBook_33 : decode cX0_addBook 33 = .ok (.aload_n 0, 1) := by decide +kernel
theorem dX0_addBook_34 : decode cX0_addBook 34 = .ok (.getfield 33, 3) := by decide +kernel
theorem dX0_addBook_37 : decode cX0_addBook 37 = .ok (.iload_n 3, 1) := by decide +kernel
theorem dX0_addBook_38 : decode cX0_addBook 38 = .ok (.iastore, 1) := by decide +kernel
theorem dX0_addBook_39 : decode cX0_addBook 39 = .ok (.aload_n 0, 1) := by decide +kernel
theorem dX0_addBook_40 : decode cX0_addBook 40 = .ok (.dup, 1) := by decide +kernel
theorem dX0_addBook_41 : decode cX0_addBook 41 = .ok (.getfield 33, 3) := by decide +kernel
theorem dX0_addBook_44 : decode cX0_addBook 44 = .ok (.iconst 1, 1) := by decide +kernel
theorem dX0_addBook_45 : decode cX0_addBook 45 = .ok (.iadd, 1) := by decide +kernel
theorem dX0_addBook_46 : decode cX0_addBook 46 = .ok (.putfield 33, 3) := by decide +kernel
theorem dX0_addBook_49 : decode cX0_addBook 49 = .ok (.return_, 1) := by decide +kernel
theorem dX0_addReader_0 : decode cX0_addReader 0 = .ok (.aload_n 0, 1) := by decide +kernel
theorem dX0_addReader_1 : decode cX0_addReader 1 = .ok (.getfield 37, 3) := by decide +kernel
theorem dX0_addReader_4 : decode cX0_addReader 4 = .ok (.iconst 4, 1) := by decide +kernel
theorem dX0_addReader_5 : decode cX0_addReader 5 = .ok (.if_icmp .ge 53, 3) := by decide +kernel
theorem dX0_addReader_8 : decode cX0_addReader 8 = .ok (.aload_n 0, 1) := by decide +kernel
theorem dX0_addReader_9 : decode cX0_addReader 9 = .ok (.getfield 21, 3) := by decide +kernel
theorem dX0_addReader_12 : decode cX0_addReader 12 = .ok (.aload_n 0, 1) := by decide +kernel
theorem dX0_addReader_13 : decode cX0_addReader 13 = .ok (.getfield 37, 3) := by decide +kernel
theorem dX0_addReader_16 : decode cX0_addReader 16 = .ok (.iload_n 1, 1) := by decide +kernel
theorem dX0_addReader_17 : decode cX0_addReader 17 = .ok (.iastore, 1) := by decide +kernel
theorem dX0_addReader_18 : decode cX0_addReader 18 = .ok (.aload_n 0, 1) := by decide +kernel
theorem dX0_addReader_19 : decode cX0_addReader 19 = .ok (.getfield 24, 3) := by decide +kernel
theorem dX0_addReader_22 : decode cX0_addReader 22 = .ok (.aload_n 0, 1) := by decide +kernel
theorem dX0_addReader_23 : decode cX0_addReader 23 = .ok (.getfield 37, 3) := by decide +kernel
theorem dX0_addReader_26 : decode cX0_addReader 26 = .ok (.iload_n 2, 1) := by decide +kernel
theorem dX0_addReader_27 : decode cX0_addReader 27 = .ok (.iastore, 1) := by decide +kernel
theorem dX0_addReader_28 : decode cX0_addReader 28 = .ok (.aload_n 0, 1) := by decide +kernel
theorem dX0_addReader_29 : decode cX0_addReader 29 = .ok (.getfield 27, 3) := by decide +kernel
theorem dX0_addReader_32 : decode cX0_addReader 32 = .ok (.aload_n 0, 1) := by decide +kernel
theorem dX0_addReader_33 : decode cX0_addReader 33 = .ok (.getfield 37, 3) := by decide +kernel
theorem dX0_addReader_36 : decode cX0_addReader 36 = .ok (.iload_n 3, 1) := by decide +kernel
theorem dX0_addReader_37 : decode cX0_addReader 37 = .ok (.iastore, 1) := by decide +kernel
theorem dX0_addReader_38 : decode cX0_addReader 38 = .ok (.aload_n 0, 1) := by decide +kernel
theorem dX0_addReader_39 : decode cX0_addReader 39 = .ok (.getfield 30, 3) := by decide +kernel
theorem dX0_addReader_42 : decode cX0_addReader 42 = .ok (.aload_n 0, 1) := by decide +kernel
theorem dX0_addReader_43 : decode cX0_addReader 43 = .ok (.getfield 37, 3) := by decide +kernel
theorem dX0_addReader_46 : decode cX0_addReader 46 = .ok (.iconst 0, 1) := by decide +kernel
theorem dX0_addReader_47 : decode cX0_addReader 47 = .ok (.iastore, 1) := by decide +kernel
theorem dX0_addReader_48 : decode cX0_addReader 48 = .ok (.aload_n 0, 1) := by decide +kernel
theorem dX0_addReader_49 : decode cX0_addReader 49 = .ok (.dup, 1) := by decide +kernel
theorem dX0_addReader_50 : decode cX0_addReader 50 = .ok (.getfield 37, 3) := by decide +kernel
theorem dX0_addReader_53 : decode cX0_addReader 53 = .ok (.iconst 1, 1) := by decide +kernel
theorem dX0_addReader_54 : decode cX0_addReader 54 = .ok (.iadd, 1) := by decide +kernel
theorem dX0_addReader_55 : decode cX0_addReader 55 = .ok (.putfield 37, 3) := by decide +kernel
theorem dX0_addReader_58 : decode cX0_addReader 58 = .ok (.return_, 1) := by decide +kernel
theorem dX0_hasBook_0 : decode cX0_hasBook 0 = .ok (.iconst 0, 1) := by decide +kernel
theorem dX0_hasBook_1 : decode cX0_hasBook 1 = .ok (.iload_n 1, 1) := by decide +kernel
theorem dX0_hasBook_2 : decode cX0_hasBook 2 = .ok (.if_icmp .gt 15, 3) := by decide +kernel
theorem dX0_hasBook_5 : decode cX0_hasBook 5 = .ok (.iload_n 1, 1) := by decide +kernel
theorem dX0_hasBook_6 : decode cX0_hasBook 6 = .ok (.aload_n 0, 1) := by decide +kernel
theorem dX0_hasBook_7 : decode cX0_hasBook 7 = .ok (.getfield 33, 3) := by decide +kernel
theorem dX0_hasBook_10 : decode cX0_hasBook 10 = .ok (.if_icmp .ge 7, 3) := by decide +kernel
theorem dX0_hasBook_13 : decode cX0_hasBook 13 = .ok (.iconst 1, 1) := by decide +kernel
theorem dX0_hasBook_14 : decode cX0_hasBook 14 = .ok (.goto 4, 3) := by decide +kernel
theorem dX0_hasBook_17 : decode cX0_hasBook 17 = .ok (.iconst 0, 1) := by decide +kernel
theorem dX0_hasBook_18 : decode cX0_hasBook 18 = .ok (.ireturn, 1) := by decide +kernel
theorem dX0_hasReader_0 : decode cX0_hasReader 0 = .ok (.iconst 0, 1) := by decide +kernel
theorem dX0_hasReader_1 : decode cX0_hasReader 1 = .ok (.iload_n 1, 1) := by decide +kernel
theorem dX0_hasReader_2 : decode cX0_hasReader 2 = .ok (.if_icmp .gt 15, 3) := by decide +kernel
theorem dX0_hasReader_5 : decode cX0_hasReader 5 = .ok (.iload_n 1, 1) := by decide +kernel
theorem dX0_hasReader_6 : decode cX0_hasReader 6 = .ok (.aload_n 0, 1) := by decide +kernel
theorem dX0_hasReader_7 : decode cX0_hasReader 7 = .ok (.getfield 37, 3) := by decide +kernel
theorem dX0_hasReader_10 : decode cX0_hasReader 10 = .ok (.if_icmp .ge 7, 3) := by decide +kernel
theorem dX0_hasReader_13 : decode cX0_hasReader 13 = .ok (.iconst 1, 1) := by decide +kernel
theorem dX0_hasReader_14 : decode cX0_hasReader 14 = .ok (.goto 4, 3) := by decide +kernel
theorem dX0_hasReader_17 : decode cX0_hasReader 17 = .ok (.iconst 0, 1) := by decide +kernel
theorem dX0_hasReader_18 : decode cX0_hasReader 18 = .ok (.ireturn, 1) := by decide +kernel
theorem dX0_isBookOrNone_0 : decode cX0_isBookOrNone 0 = .ok (.iload_n 1, 1) := by decide +kernel
theorem dX0_isBookOrNone_1 : decode cX0_isBookOrNone 1 = .ok (.bipush 9, 2) := by decide +kernel
theorem dX0_isBookOrNone_3 : decode cX0_isBookOrNone 3 = .ok (.if_icmp .eq 11, 3) := by decide +kernel
theorem dX0_isBookOrNone_6 : decode cX0_isBookOrNone 6 = .ok (.aload_n 0, 1) := by decide +kernel
theorem dX0_isBookOrNone_7 : decode cX0_isBookOrNone 7 = .ok (.iload_n 1, 1) := by decide +kernel
theorem dX0_isBookOrNone_8 : decode cX0_isBookOrNone 8 = .ok (.invokevirtual 61, 3) := by decide +kernel
theorem dX0_isBookOrNone_11 : decode cX0_isBookOrNone 11 = .ok (.ifCond .eq 7, 3) := by decide +kernel
theorem dX0_isBookOrNone_14 : decode cX0_isBookOrNone 14 = .ok (.iconst 1, 1) := by decide +kernel
theorem dX0_isBookOrNone_15 : decode cX0_isBookOrNone 15 = .ok (.goto 4, 3) := by decide +kernel
theorem dX0_isBookOrNone_18 : decode cX0_isBookOrNone 18 = .ok (.iconst 0, 1) := by decide +kernel
theorem dX0_isBookOrNone_19 : decode cX0_isBookOrNone 19 = .ok (.ireturn, 1) := by decide +kernel
theorem dX0_isDone_0 : decode cX0_isDone 0 = .ok (.aload_n 0, 1) := by decide +kernel
theorem dX0_isDone_1 : decode cX0_isDone 1 = .ok (.aload_n 0, 1) := by decide +kernel
theorem dX0_isDone_2 : decode cX0_isDone 2 = .ok (.getfield 24, 3) := by decide +kernel
theorem dX0_isDone_5 : decode cX0_isDone 5 = .ok (.iload_n 1, 1) := by decide +kernel
theorem dX0_isDone_6 : decode cX0_isDone 6 = .ok (.iaload, 1) := by decide +kernel
theorem dX0_isDone_7 : decode cX0_isDone 7 = .ok (.invokevirtual 61, 3) := by decide +kernel
theorem dX0_isDone_10 : decode cX0_isDone 10 = .ok (.ifCond .ne 7, 3) := by decide +kernel
theorem dX0_isDone_13 : decode cX0_isDone 13 = .ok (.iconst 1, 1) := by decide +kernel
theorem dX0_isDone_14 : decode cX0_isDone 14 = .ok (.goto 4, 3) := by decide +kernel
theorem dX0_isDone_17 : decode cX0_isDone 17 = .ok (.iconst 0, 1) := by decide +kernel
theorem dX0_isDone_18 : decode cX0_isDone 18 = .ok (.ireturn, 1) := by decide +kernel
theorem dX0_hasHad_0 : decode cX0_hasHad 0 = .ok (.aload_n 0, 1) := by decide +kernel
theorem dX0_hasHad_1 : decode cX0_hasHad 1 = .ok (.getfield 30, 3) := by decide +kernel
theorem dX0_hasHad_4 : decode cX0_hasHad 4 = .ok (.iload_n 1, 1) := by decide +kernel
theorem dX0_hasHad_5 : decode cX0_hasHad 5 = .ok (.iaload, 1) := by decide +kernel
theorem dX0_hasHad_6 : decode cX0_hasHad 6 = .ok (.iload_n 2, 1) := by decide +kernel
theorem dX0_hasHad_7 : decode cX0_hasHad 7 = .ok (.ishr, 1) := by decide +kernel
theorem dX0_hasHad_8 : decode cX0_hasHad 8 = .ok (.iconst 1, 1) := by decide +kernel
theorem dX0_hasHad_9 : decode cX0_hasHad 9 = .ok (.iand, 1) := by decide +kernel
theorem dX0_hasHad_10 : decode cX0_hasHad 10 = .ok (.ifCond .eq 7, 3) := by decide +kernel
theorem dX0_hasHad_13 : decode cX0_hasHad 13 = .ok (.iconst 1, 1) := by decide +kernel
theorem dX0_hasHad_14 : decode cX0_hasHad 14 = .ok (.goto 4, 3) := by decide +kernel
theorem dX0_hasHad_17 : decode cX0_hasHad 17 = .ok (.iconst 0, 1) := by decide +kernel
theorem dX0_hasHad_18 : decode cX0_hasHad 18 = .ok (.ireturn, 1) := by decide +kernel
theorem dX0_whoAreDone_0 : decode cX0_whoAreDone 0 = .ok (.iconst 0, 1) := by decide +kernel
theorem dX0_whoAreDone_1 : decode cX0_whoAreDone 1 = .ok (.istore_n 1, 1) := by decide +kernel
theorem dX0_whoAreDone_2 : decode cX0_whoAreDone 2 = .ok (.iconst 0, 1) := by decide +kernel
theorem dX0_whoAreDone_3 : decode cX0_whoAreDone 3 = .ok (.istore_n 2, 1) := by decide +kernel
theorem dX0_whoAreDone_4 : decode cX0_whoAreDone 4 = .ok (.iload_n 2, 1) := by decide +kernel
theorem dX0_whoAreDone_5 : decode cX0_whoAreDone 5 = .ok (.aload_n 0, 1) := by decide +kernel
theorem dX0_whoAreDone_6 : decode cX0_whoAreDone 6 = .ok (.getfield 37, 3) := by decide +kernel
theorem dX0_whoAreDone_9 : decode cX0_whoAreDone 9 = .ok (.if_icmp .ge 23, 3) := by decide +kernel
theorem dX0_whoAreDone_12 : decode cX0_whoAreDone 12 = .ok (.aload_n 0, 1) := by decide +kernel
theorem dX0_whoAreDone_13 : decode cX0_whoAreDone 13 = .ok (.iload_n 2, 1) := by decide +kernel
theorem dX0_whoAreDone_14 : decode cX0_whoAreDone 14 = .ok (.invokevirtual 65, 3) := by decide +kernel
theorem dX0_whoAreDone_17 : decode cX0_whoAreDone 17 = .ok (.ifCond .eq 9, 3) := by decide +kernel
theorem dX0_whoAreDone_20 : decode cX0_whoAreDone 20 = .ok (.iload_n 1, 1) := by decide +kernel
theorem dX0_whoAreDone_21 : decode cX0_whoAreDone 21 = .ok (.iconst 1, 1) := by decide +kernel
theorem dX0_whoAreDone_22 : decode cX0_whoAreDone 22 = .ok (.iload_n 2, 1) := by decide +kernel
theorem dX0_whoAreDone_23 : decode cX0_whoAreDone 23 = .ok (.ishl, 1) := by decide +kernel
theorem dX0_whoAreDone_24 : decode cX0_whoAreDone 24 = .ok (.ior, 1) := by decide +kernel
theorem dX0_whoAreDone_25 : decode cX0_whoAreDone 25 = .ok (.istore_n 1, 1) := by decide +kernel
theorem dX0_whoAreDone_26 : decode cX0_whoAreDone 26 = .ok (.iinc 2 1, 3) := by decide +kernel
theorem dX0_whoAreDone_29 : decode cX0_whoAreDone 29 = .ok (.goto (-25), 3) := by decide +kernel
theorem dX0_whoAreDone_32 : decode cX0_whoAreDone 32 = .ok (.iload_n 1, 1) := by decide +kernel
theorem dX0_whoAreDone_33 : decode cX0_whoAreDone 33 = .ok (.ireturn, 1) := by decide +kernel
theorem dX0_whoHad_0 : decode cX0_whoHad 0 = .ok (.iconst 0, 1) := by decide +kernel
theorem dX0_whoHad_1 : decode cX0_whoHad 1 = .ok (.istore_n 2, 1) := by decide +kernel
theorem dX0_whoHad_2 : decode cX0_whoHad 2 = .ok (.iconst 0, 1) := by decide +kernel
theorem dX0_whoHad_3 : decode cX0_whoHad 3 = .ok (.istore_n 3, 1) := by decide +kernel
theorem dX0_whoHad_4 : decode cX0_whoHad 4 = .ok (.iload_n 3, 1) := by decide +kernel
theorem dX0_whoHad_5 : decode cX0_whoHad 5 = .ok (.aload_n 0, 1) := by decide +kernel
theorem dX0_whoHad_6 : decode cX0_whoHad 6 = .ok (.getfield 37, 3) := by decide +kernel
theorem dX0_whoHad_9 : decode cX0_whoHad 9 = .ok (.if_icmp .ge 24, 3) := by decide +kernel
theorem dX0_whoHad_12 : decode cX0_whoHad 12 = .ok (.aload_n 0, 1) := by decide +kernel
theorem dX0_whoHad_13 : decode cX0_whoHad 13 = .ok (.iload_n 3, 1) := by decide +kernel
theorem dX0_whoHad_14 : decode cX0_whoHad 14 = .ok (.iload_n 1, 1) := by decide +kernel
theorem dX0_whoHad_15 : decode cX0_whoHad 15 = .ok (.invokevirtual 68, 3) := by decide +kernel
theorem dX0_whoHad_18 : decode cX0_whoHad 18 = .ok (.ifCond .eq 9, 3) := by decide +kernel
theorem dX0_whoHad_21 : decode cX0_whoHad 21 = .ok (.iload_n 2, 1) := by decide +kernel
theorem dX0_whoHad_22 : decode cX0_whoHad 22 = .ok (.iconst 1, 1) := by decide +kernel
theorem dX0_whoHad_23 : decode cX0_whoHad 23 = .ok (.iload_n 3, 1) := by decide +kernel
theorem dX0_whoHad_24 : decode cX0_whoHad 24 = .ok (.ishl, 1) := by decide +kernel
theorem dX0_whoHad_25 : decode cX0_whoHad 25 = .ok (.ior, 1) := by decide +kernel
theorem dX0_whoHad_26 : decode cX0_whoHad 26 = .ok (.istore_n 2, 1) := by decide +kernel
theorem dX0_whoHad_27 : decode cX0_whoHad 27 = .ok (.iinc 3 1, 3) := by decide +kernel
theorem dX0_whoHad_30 : decode cX0_whoHad 30 = .ok (.goto (-26), 3) := by decide +kernel
theorem dX0_whoHad_33 : decode cX0_whoHad 33 = .ok (.iload_n 2, 1) := by decide +kernel
theorem dX0_whoHad_34 : decode cX0_whoHad 34 = .ok (.ireturn, 1) := by decide +kernel
theorem dX0_minutesFor_0 : decode cX0_minutesFor 0 = .ok (.aload_n 0, 1) := by decide +kernel
theorem dX0_minutesFor_1 : decode cX0_minutesFor 1 = .ok (.getfield 15, 3) := by decide +kernel
theorem dX0_minutesFor_4 : decode cX0_minutesFor 4 = .ok (.iload_n 2, 1) := by decide +kernel
theorem dX0_minutesFor_5 : decode cX0_minutesFor 5 = .ok (.iaload, 1) := by decide +kernel
theorem dX0_minutesFor_6 : decode cX0_minutesFor 6 = .ok (.istore_n 3, 1) := by decide +kernel
theorem dX0_minutesFor_7 : decode cX0_minutesFor 7 = .ok (.iconst 2, 1) := by decide +kernel
theorem dX0_minutesFor_8 : decode cX0_minutesFor 8 = .ok (.iload_n 3, 1) := by decide +kernel
theorem dX0_minutesFor_9 : decode cX0_minutesFor 9 = .ok (.imul, 1) := by decide +kernel
theorem dX0_minutesFor_10 : decode cX0_minutesFor 10 = .ok (.istore 4, 2) := by decide +kernel
theorem dX0_minutesFor_12 : decode cX0_minutesFor 12 = .ok (.aload_n 0, 1) := by decide +kernel
theorem dX0_minutesFor_13 : decode cX0_minutesFor 13 = .ok (.getfield 9, 3) := by decide +kernel
theorem dX0_minutesFor_16 : decode cX0_minutesFor 16 = .ok (.iload_n 2, 1) := by decide +kernel
theorem dX0_minutesFor_17 : decode cX0_minutesFor 17 = .ok (.iaload, 1) := by decide +kernel
theorem dX0_minutesFor_18 : decode cX0_minutesFor 18 = .ok (.aload_n 0, 1) := by decide +kernel
theorem dX0_minutesFor_19 : decode cX0_minutesFor 19 = .ok (.getfield 40, 3) := by decide +kernel
theorem dX0_minutesFor_22 : decode cX0_minutesFor 22 = .ok (.isub, 1) := by decide +kernel
theorem dX0_minutesFor_23 : decode cX0_minutesFor 23 = .ok (.invokestatic 72, 3) := by decide +kernel
theorem dX0_minutesFor_26 : decode cX0_minutesFor 26 = .ok (.istore 5, 2) := by decide +kernel
theorem dX0_minutesFor_28 : decode cX0_minutesFor 28 = .ok (.aload_n 0, 1) := by decide +kernel
theorem dX0_minutesFor_29 : decode cX0_minutesFor 29 = .ok (.getfield 21, 3) := by decide +kernel
theorem dX0_minutesFor_32 : decode cX0_minutesFor 32 = .ok (.iload_n 1, 1) := by decide +kernel
theorem dX0_minutesFor_33 : decode cX0_minutesFor 33 = .ok (.iaload, 1) := by decide +kernel
theorem dX0_minutesFor_34 : decode cX0_minutesFor 34 = .ok (.tableswitch 57 1 3 #[26, 34, 45], 26) := by decide +kernel
theorem dX0_minutesFor_60 : decode cX0_minutesFor 60 = .ok (.iload 5, 2) := by decide +kernel
theorem dX0_minutesFor_62 : decode cX0_minutesFor 62 = .ok (.iconst 2, 1) := by decide +kernel
theorem dX0_minutesFor_63 : decode cX0_minutesFor 63 = .ok (.iload 4, 2) := by decide +kernel
theorem dX0_minutesFor_65 : decode cX0_minutesFor 65 = .ok (.imul, 1) := by decide +kernel
theorem dX0_minutesFor_66 : decode cX0_minutesFor 66 = .ok (.iadd, 1) := by decide +kernel
theorem dX0_minutesFor_67 : decode cX0_minutesFor 67 = .ok (.ireturn, 1) := by decide +kernel
theorem dX0_minutesFor_68 : decode cX0_minutesFor 68 = .ok (.iload 5, 2) := by decide +kernel
theorem dX0_minutesFor_70 : decode cX0_minutesFor 70 = .ok (.iconst 2, 1) := by decide +kernel
theorem dX0_minutesFor_71 : decode cX0_minutesFor 71 = .ok (.iload_n 3, 1) := by decide +kernel
theorem dX0_minutesFor_72 : decode cX0_minutesFor 72 = .ok (.iconst 1, 1) := by decide +kernel
theorem dX0_minutesFor_73 : decode cX0_minutesFor 73 = .ok (.iadd, 1) := by decide +kernel
theorem dX0_minutesFor_74 : decode cX0_minutesFor 74 = .ok (.iconst 2, 1) := by decide +kernel
theorem dX0_minutesFor_75 : decode cX0_minutesFor 75 = .ok (.idiv, 1) := by decide +kernel
theorem dX0_minutesFor_76 : decode cX0_minutesFor 76 = .ok (.imul, 1) := by decide +kernel
theorem dX0_minutesFor_77 : decode cX0_minutesFor 77 = .ok (.iadd, 1) := by decide +kernel
theorem dX0_minutesFor_78 : decode cX0_minutesFor 78 = .ok (.ireturn, 1) := by decide +kernel
theorem dX0_minutesFor_79 : decode cX0_minutesFor 79 = .ok (.iload 5, 2) := by decide +kernel
theorem dX0_minutesFor_81 : decode cX0_minutesFor 81 = .ok (.iconst 2, 1) := by decide +kernel
theorem dX0_minutesFor_82 : decode cX0_minutesFor 82 = .ok (.iload 4, 2) := by decide +kernel
theorem dX0_minutesFor_84 : decode cX0_minutesFor 84 = .ok (.iconst 2, 1) := by decide +kernel
theorem dX0_minutesFor_85 : decode cX0_minutesFor 85 = .ok (.idiv, 1) := by decide +kernel
theorem dX0_minutesFor_86 : decode cX0_minutesFor 86 = .ok (.iconst 1, 1) := by decide +kernel
theorem dX0_minutesFor_87 : decode cX0_minutesFor 87 = .ok (.iadd, 1) := by decide +kernel
theorem dX0_minutesFor_88 : decode cX0_minutesFor 88 = .ok (.imul, 1) := by decide +kernel
theorem dX0_minutesFor_89 : decode cX0_minutesFor 89 = .ok (.iadd, 1) := by decide +kernel
theorem dX0_minutesFor_90 : decode cX0_minutesFor 90 = .ok (.ireturn, 1) := by decide +kernel
theorem dX0_minutesFor_91 : decode cX0_minutesFor 91 = .ok (.iload 5, 2) := by decide +kernel
theorem dX0_minutesFor_93 : decode cX0_minutesFor 93 = .ok (.iconst 2, 1) := by decide +kernel
theorem dX0_minutesFor_94 : decode cX0_minutesFor 94 = .ok (.iload_n 3, 1) := by decide +kernel
theorem dX0_minutesFor_95 : decode cX0_minutesFor 95 = .ok (.imul, 1) := by decide +kernel
theorem dX0_minutesFor_96 : decode cX0_minutesFor 96 = .ok (.iadd, 1) := by decide +kernel
theorem dX0_minutesFor_97 : decode cX0_minutesFor 97 = .ok (.ireturn, 1) := by decide +kernel
theorem dX0_dizzyBy_0 : decode cX0_dizzyBy 0 = .ok (.aload_n 0, 1) := by decide +kernel
theorem dX0_dizzyBy_1 : decode cX0_dizzyBy 1 = .ok (.getfield 15, 3) := by decide +kernel
theorem dX0_dizzyBy_4 : decode cX0_dizzyBy 4 = .ok (.iload_n 2, 1) := by decide +kernel
theorem dX0_dizzyBy_5 : decode cX0_dizzyBy 5 = .ok (.iaload, 1) := by decide +kernel
theorem dX0_dizzyBy_6 : decode cX0_dizzyBy 6 = .ok (.istore_n 3, 1) := by decide +kernel
theorem dX0_dizzyBy_7 : decode cX0_dizzyBy 7 = .ok (.iload_n 3, 1) := by decide +kernel
theorem dX0_dizzyBy_8 : decode cX0_dizzyBy 8 = .ok (.iconst 0, 1) := by decide +kernel
theorem dX0_dizzyBy_9 : decode cX0_dizzyBy 9 = .ok (.iload_n 3, 1) := by decide +kernel
theorem dX0_dizzyBy_10 : decode cX0_dizzyBy 10 = .ok (.iconst 5, 1) := by decide +kernel
theorem dX0_dizzyBy_11 : decode cX0_dizzyBy 11 = .ok (.isub, 1) := by decide +kernel
theorem dX0_dizzyBy_12 : decode cX0_dizzyBy 12 = .ok (.invokestatic 78, 3) := by decide +kernel
theorem dX0_dizzyBy_15 : decode cX0_dizzyBy 15 = .ok (.iadd, 1) := by decide +kernel
theorem dX0_dizzyBy_16 : decode cX0_dizzyBy 16 = .ok (.istore 4, 2) := by decide +kernel
theorem dX0_dizzyBy_18 : decode cX0_dizzyBy 18 = .ok (.aload_n 0, 1) := by decide +kernel
theorem dX0_dizzyBy_19 : decode cX0_dizzyBy 19 = .ok (.getfield 21, 3) := by decide +kernel
theorem dX0_dizzyBy_22 : decode cX0_dizzyBy 22 = .ok (.iload_n 1, 1) := by decide +kernel
theorem dX0_dizzyBy_23 : decode cX0_dizzyBy 23 = .ok (.iaload, 1) := by decide +kernel
theorem dX0_dizzyBy_24 : decode cX0_dizzyBy 24 = .ok (.tableswitch 40 1 3 #[28, 31, 35], 28) := by decide +kernel
theorem dX0_dizzyBy_52 : decode cX0_dizzyBy 52 = .ok (.iload 4, 2) := by decide +kernel
theorem dX0_dizzyBy_54 : decode cX0_dizzyBy 54 = .ok (.ireturn, 1) := by decide +kernel
theorem dX0_dizzyBy_55 : decode cX0_dizzyBy 55 = .ok (.iconst 2, 1) := by decide +kernel
theorem dX0_dizzyBy_56 : decode cX0_dizzyBy 56 = .ok (.iload_n 3, 1) := by decide +kernel
theorem dX0_dizzyBy_57 : decode cX0_dizzyBy 57 = .ok (.imul, 1) := by decide +kernel
theorem dX0_dizzyBy_58 : decode cX0_dizzyBy 58 = .ok (.ireturn, 1) := by decide +kernel
theorem dX0_dizzyBy_59 : decode cX0_dizzyBy 59 = .ok (.iload 4, 2) := by decide +kernel
theorem dX0_dizzyBy_61 : decode cX0_dizzyBy 61 = .ok (.iconst 3, 1) := by decide +kernel
theorem dX0_dizzyBy_62 : decode cX0_dizzyBy 62 = .ok (.idiv, 1) := by decide +kernel
theorem dX0_dizzyBy_63 : decode cX0_dizzyBy 63 = .ok (.ireturn, 1) := by decide +kernel
theorem dX0_dizzyBy_64 : decode cX0_dizzyBy 64 = .ok (.iload_n 3, 1) := by decide +kernel
theorem dX0_dizzyBy_65 : decode cX0_dizzyBy 65 = .ok (.ireturn, 1) := by decide +kernel
theorem dX0_refusalOf_0 : decode cX0_refusalOf 0 = .ok (.aload_n 0, 1) := by decide +kernel
theorem dX0_refusalOf_1 : decode cX0_refusalOf 1 = .ok (.iload_n 1, 1) := by decide +kernel
theorem dX0_refusalOf_2 : decode cX0_refusalOf 2 = .ok (.invokevirtual 82, 3) := by decide +kernel
theorem dX0_refusalOf_5 : decode cX0_refusalOf 5 = .ok (.ifCond .eq 11, 3) := by decide +kernel
theorem dX0_refusalOf_8 : decode cX0_refusalOf 8 = .ok (.aload_n 0, 1) := by decide +kernel
theorem dX0_refusalOf_9 : decode cX0_refusalOf 9 = .ok (.iload_n 2, 1) := by decide +kernel
theorem dX0_refusalOf_10 : decode cX0_refusalOf 10 = .ok (.invokevirtual 61, 3) := by decide +kernel
theorem dX0_refusalOf_13 : decode cX0_refusalOf 13 = .ok (.ifCond .ne 5, 3) := by decide +kernel
theorem dX0_refusalOf_16 : decode cX0_refusalOf 16 = .ok (.iconst (-1), 1) := by decide +kernel
theorem dX0_refusalOf_17 : decode cX0_refusalOf 17 = .ok (.ireturn, 1) := by decide +kernel
theorem dX0_refusalOf_18 : decode cX0_refusalOf 18 = .ok (.aload_n 0, 1) := by decide +kernel
theorem dX0_refusalOf_19 : decode cX0_refusalOf 19 = .ok (.iload_n 1, 1) := by decide +kernel
theorem dX0_refusalOf_20 : decode cX0_refusalOf 20 = .ok (.iload_n 2, 1) := by decide +kernel
theorem dX0_refusalOf_21 : decode cX0_refusalOf 21 = .ok (.invokevirtual 68, 3) := by decide +kernel
theorem dX0_refusalOf_24 : decode cX0_refusalOf 24 = .ok (.ifCond .eq 6, 3) := by decide +kernel
theorem dX0_refusalOf_27 : decode cX0_refusalOf 27 = .ok (.bipush (-2), 2) := by decide +kernel
theorem dX0_refusalOf_29 : decode cX0_refusalOf 29 = .ok (.ireturn, 1) := by decide +kernel
theorem dX0_refusalOf_30 : decode cX0_refusalOf 30 = .ok (.aload_n 0, 1) := by decide +kernel
theorem dX0_refusalOf_31 : decode cX0_refusalOf 31 = .ok (.getfield 43, 3) := by decide +kernel
theorem dX0_refusalOf_34 : decode cX0_refusalOf 34 = .ok (.aload_n 0, 1) := by decide +kernel
theorem dX0_refusalOf_35 : decode cX0_refusalOf 35 = .ok (.iload_n 1, 1) := by decide +kernel
theorem dX0_refusalOf_36 : decode cX0_refusalOf 36 = .ok (.iload_n 2, 1) := by decide +kernel
theorem dX0_refusalOf_37 : decode cX0_refusalOf 37 = .ok (.invokevirtual 85, 3) := by decide +kernel
theorem dX0_refusalOf_40 : decode cX0_refusalOf 40 = .ok (.iadd, 1) := by decide +kernel
theorem dX0_refusalOf_41 : decode cX0_refusalOf 41 = .ok (.sipush 9999, 3) := by decide +kernel
theorem dX0_refusalOf_44 : decode cX0_refusalOf 44 = .ok (.if_icmp .le 8, 3) := by decide +kernel
theorem dX0_refusalOf_47 : decode cX0_refusalOf 47 = .ok (.bipush (-3), 2) := by decide +kernel
theorem dX0_refusalOf_49 : decode cX0_refusalOf 49 = .ok (.goto 4, 3) := by decide +kernel
theorem dX0_refusalOf_52 : decode cX0_refusalOf 52 = .ok (.iconst 0, 1) := by decide +kernel
theorem dX0_refusalOf_53 : decode cX0_refusalOf 53 = .ok (.ireturn, 1) := by decide +kernel
theorem dX0_bring_0 : decode cX0_bring 0 = .ok (.aload_n 0, 1) := by decide +kernel
theorem dX0_bring_1 : decode cX0_bring 1 = .ok (.iload_n 1, 1) := by decide +kernel
theorem dX0_bring_2 : decode cX0_bring 2 = .ok (.iload_n 2, 1) := by decide +kernel
theorem dX0_bring_3 : decode cX0_bring 3 = .ok (.invokevirtual 85, 3) := by decide +kernel
theorem dX0_bring_6 : decode cX0_bring 6 = .ok (.istore_n 3, 1) := by decide +kernel
theorem dX0_bring_7 : decode cX0_bring 7 = .ok (.aload_n 0, 1) := by decide +kernel
theorem dX0_bring_8 : decode cX0_bring 8 = .ok (.dup, 1) := by decide +kernel
theorem dX0_bring_9 : decode cX0_bring 9 = .ok (.getfield 43, 3) := by decide +kernel
theorem dX0_bring_12 : decode cX0_bring 12 = .ok (.iload_n 3, 1) := by decide +kernel
theorem dX0_bring_13 : decode cX0_bring 13 = .ok (.iadd, 1) := by decide +kernel
theorem dX0_bring_14 : decode cX0_bring 14 = .ok (.putfield 43, 3) := by decide +kernel
theorem dX0_bring_17 : decode cX0_bring 17 = .ok (.aload_n 0, 1) := by decide +kernel
theorem dX0_bring_18 : decode cX0_bring 18 = .ok (.aload_n 0, 1) := by decide +kernel
theorem dX0_bring_19 : decode cX0_bring 19 = .ok (.getfield 9, 3) := by decide +kernel
theorem dX0_bring_22 : decode cX0_bring 22 = .ok (.iload_n 2, 1) := by decide +kernel
theorem dX0_bring_23 : decode cX0_bring 23 = .ok (.iaload, 1) := by decide +kernel
theorem dX0_bring_24 : decode cX0_bring 24 = .ok (.putfield 40, 3) := by decide +kernel
theorem dX0_bring_27 : decode cX0_bring 27 = .ok (.aload_n 0, 1) := by decide +kernel
theorem dX0_bring_28 : decode cX0_bring 28 = .ok (.getfield 30, 3) := by decide +kernel
theorem dX0_bring_31 : decode cX0_bring 31 = .ok (.iload_n 1, 1) := by decide +kernel
theorem dX0_bring_32 : decode cX0_bring 32 = .ok (.dup2, 1) := by decide +kernel
theorem dX0_bring_33 : decode cX0_bring 33 = .ok (.iaload, 1) := by decide +kernel
theorem dX0_bring_34 : decode cX0_bring 34 = .ok (.iconst 1, 1) := by decide +kernel
theorem dX0_bring_35 : decode cX0_bring 35 = .ok (.iload_n 2, 1) := by decide +kernel
theorem dX0_bring_36 : decode cX0_bring 36 = .ok (.ishl, 1) := by decide +kernel
theorem dX0_bring_37 : decode cX0_bring 37 = .ok (.ior, 1) := by decide +kernel
theorem dX0_bring_38 : decode cX0_bring 38 = .ok (.iastore, 1) := by decide +kernel
theorem dX0_bring_39 : decode cX0_bring 39 = .ok (.aload_n 0, 1) := by decide +kernel
theorem dX0_bring_40 : decode cX0_bring 40 = .ok (.dup, 1) := by decide +kernel
theorem dX0_bring_41 : decode cX0_bring 41 = .ok (.getfield 49, 3) := by decide +kernel
theorem dX0_bring_44 : decode cX0_bring 44 = .ok (.iconst 1, 1) := by decide +kernel
theorem dX0_bring_45 : decode cX0_bring 45 = .ok (.iadd, 1) := by decide +kernel
theorem dX0_bring_46 : decode cX0_bring 46 = .ok (.putfield 49, 3) := by decide +kernel
theorem dX0_bring_49 : decode cX0_bring 49 = .ok (.iload_n 3, 1) := by decide +kernel
theorem dX0_bring_50 : decode cX0_bring 50 = .ok (.ireturn, 1) := by decide +kernel
theorem dX0_spendDay_0 : decode cX0_spendDay 0 = .ok (.iconst 0, 1) := by decide +kernel
theorem dX0_spendDay_1 : decode cX0_spendDay 1 = .ok (.istore_n 2, 1) := by decide +kernel
theorem dX0_spendDay_2 : decode cX0_spendDay 2 = .ok (.iconst 0, 1) := by decide +kernel
theorem dX0_spendDay_3 : decode cX0_spendDay 3 = .ok (.istore_n 3, 1) := by decide +kernel
theorem dX0_spendDay_4 : decode cX0_spendDay 4 = .ok (.iload_n 3, 1) := by decide +kernel
theorem dX0_spendDay_5 : decode cX0_spendDay 5 = .ok (.bipush 8, 2) := by decide +kernel
theorem dX0_spendDay_7 : decode cX0_spendDay 7 = .ok (.if_icmp .gt 107, 3) := by decide +kernel
theorem dX0_spendDay_10 : decode cX0_spendDay 10 = .ok (.aload_n 0, 1) := by decide +kernel
theorem dX0_spendDay_11 : decode cX0_spendDay 11 = .ok (.iload_n 1, 1) := by decide +kernel
theorem dX0_spendDay_12 : decode cX0_spendDay 12 = .ok (.invokevirtual 65, 3) := by decide +kernel
theorem dX0_spendDay_15 : decode cX0_spendDay 15 = .ok (.ifCond .ne 99, 3) := by decide +kernel
theorem dX0_spendDay_18 : decode cX0_spendDay 18 = .ok (.aload_n 0, 1) := by decide +kernel
theorem dX0_spendDay_19 : decode cX0_spendDay 19 = .ok (.getfield 24, 3) := by decide +kernel
theorem dX0_spendDay_22 : decode cX0_spendDay 22 = .ok (.iload_n 1, 1) := by decide +kernel
theorem dX0_spendDay_23 : decode cX0_spendDay 23 = .ok (.iaload, 1) := by decide +kernel
theorem dX0_spendDay_24 : decode cX0_spendDay 24 = .ok (.istore 4, 2) := by decide +kernel
theorem dX0_spendDay_26 : decode cX0_spendDay 26 = .ok (.aload_n 0, 1) := by decide +kernel
theorem dX0_spendDay_27 : decode cX0_spendDay 27 = .ok (.iload_n 1, 1) := by decide +kernel
theorem dX0_spendDay_28 : decode cX0_spendDay 28 = .ok (.iload 4, 2) := by decide +kernel
theorem dX0_spendDay_30 : decode cX0_spendDay 30 = .ok (.invokevirtual 88, 3) := by decide +kernel
theorem dX0_spendDay_33 : decode cX0_spendDay 33 = .ok (.istore 5, 2) := by decide +kernel
theorem dX0_spendDay_35 : decode cX0_spendDay 35 = .ok (.aload_n 0, 1) := by decide +kernel
theorem dX0_spendDay_36 : decode cX0_spendDay 36 = .ok (.iload_n 1, 1) := by decide +kernel
theorem dX0_spendDay_37 : decode cX0_spendDay 37 = .ok (.iload 4, 2) := by decide +kernel
theorem dX0_spendDay_39 : decode cX0_spendDay 39 = .ok (.invokevirtual 68, 3) := by decide +kernel
theorem dX0_spendDay_42 : decode cX0_spendDay 42 = .ok (.ifCond .eq 14, 3) := by decide +kernel
theorem dX0_spendDay_45 : decode cX0_spendDay 45 = .ok (.aload_n 0, 1) := by decide +kernel
theorem dX0_spendDay_46 : decode cX0_spendDay 46 = .ok (.getfield 24, 3) := by decide +kernel
theorem dX0_spendDay_49 : decode cX0_spendDay 49 = .ok (.iload_n 1, 1) := by decide +kernel
theorem dX0_spendDay_50 : decode cX0_spendDay 50 = .ok (.bipush (-4), 2) := by decide +kernel
theorem dX0_spendDay_52 : decode cX0_spendDay 52 = .ok (.iastore, 1) := by decide +kernel
theorem dX0_spendDay_53 : decode cX0_spendDay 53 = .ok (.goto 55, 3) := by decide +kernel
theorem dX0_spendDay_56 : decode cX0_spendDay 56 = .ok (.iload_n 2, 1) := by decide +kernel
theorem dX0_spendDay_57 : decode cX0_spendDay 57 = .ok (.iload 5, 2) := by decide +kernel
theorem dX0_spendDay_59 : decode cX0_spendDay 59 = .ok (.iadd, 1) := by decide +kernel
theorem dX0_spendDay_60 : decode cX0_spendDay 60 = .ok (.aload_n 0, 1) := by decide +kernel
theorem dX0_spendDay_61 : decode cX0_spendDay 61 = .ok (.getfield 27, 3) := by decide +kernel
theorem dX0_spendDay_64 : decode cX0_spendDay 64 = .ok (.iload_n 1, 1) := by decide +kernel
theorem dX0_spendDay_65 : decode cX0_spendDay 65 = .ok (.iaload, 1) := by decide +kernel
theorem dX0_spendDay_66 : decode cX0_spendDay 66 = .ok (.if_icmp .le 16, 3) := by decide +kernel
theorem dX0_spendDay_69 : decode cX0_spendDay 69 = .ok (.aload_n 0, 1) := by decide +kernel
theorem dX0_spendDay_70 : decode cX0_spendDay 70 = .ok (.dup, 1) := by decide +kernel
theorem dX0_spendDay_71 : decode cX0_spendDay 71 = .ok (.getfield 52, 3) := by decide +kernel
theorem dX0_spendDay_74 : decode cX0_spendDay 74 = .ok (.iconst 1, 1) := by decide +kernel
theorem dX0_spendDay_75 : decode cX0_spendDay 75 = .ok (.iadd, 1) := by decide +kernel
theorem dX0_spendDay_76 : decode cX0_spendDay 76 = .ok (.putfield 52, 3) := by decide +kernel
theorem dX0_spendDay_79 : decode cX0_spendDay 79 = .ok (.iload 4, 2) := by decide +kernel
theorem dX0_spendDay_81 : decode cX0_spendDay 81 = .ok (.ireturn, 1) := by decide +kernel
theorem dX0_spendDay_82 : decode cX0_spendDay 82 = .ok (.aload_n 0, 1) := by decide +kernel
theorem dX0_spendDay_83 : decode cX0_spendDay 83 = .ok (.iload_n 1, 1) := by decide +kernel
theorem dX0_spendDay_84 : decode cX0_spendDay 84 = .ok (.iload 4, 2) := by decide +kernel
theorem dX0_spendDay_86 : decode cX0_spendDay 86 = .ok (.invokevirtual 91, 3) := by decide +kernel
theorem dX0_spendDay_89 : decode cX0_spendDay 89 = .ok (.pop, 1) := by decide +kernel
theorem dX0_spendDay_90 : decode cX0_spendDay 90 = .ok (.iload_n 2, 1) := by decide +kernel
theorem dX0_spendDay_91 : decode cX0_spendDay 91 = .ok (.iload 5, 2) := by decide +kernel
theorem dX0_spendDay_93 : decode cX0_spendDay 93 = .ok (.iadd, 1) := by decide +kernel
theorem dX0_spendDay_94 : decode cX0_spendDay 94 = .ok (.istore_n 2, 1) := by decide +kernel
theorem dX0_spendDay_95 : decode cX0_spendDay 95 = .ok (.aload_n 0, 1) := by decide +kernel
theorem dX0_spendDay_96 : decode cX0_spendDay 96 = .ok (.getfield 24, 3) := by decide +kernel
theorem dX0_spendDay_99 : decode cX0_spendDay 99 = .ok (.iload_n 1, 1) := by decide +kernel
theorem dX0_spendDay_100 : decode cX0_spendDay 100 = .ok (.aload_n 0, 1) := by decide +kernel
theorem dX0_spendDay_101 : decode cX0_spendDay 101 = .ok (.getfield 18, 3) := by decide +kernel
theorem dX0_spendDay_104 : decode cX0_spendDay 104 = .ok (.iload 4, 2) := by decide +kernel
theorem dX0_spendDay_106 : decode cX0_spendDay 106 = .ok (.iaload, 1) := by decide +kernel
theorem dX0_spendDay_107 : decode cX0_spendDay 107 = .ok (.iastore, 1) := by decide +kernel
theorem dX0_spendDay_108 : decode cX0_spendDay 108 = .ok (.iinc 3 1, 3) := by decide +kernel
theorem dX0_spendDay_111 : decode cX0_spendDay 111 = .ok (.goto (-107), 3) := by decide +kernel
theorem dX0_spendDay_114 : decode cX0_spendDay 114 = .ok (.bipush (-4), 2) := by decide +kernel
theorem dX0_spendDay_116 : decode cX0_spendDay 116 = .ok (.ireturn, 1) := by decide +kernel
theorem dX0_passDay_0 : decode cX0_passDay 0 = .ok (.iconst 0, 1) := by decide +kernel
theorem dX0_passDay_1 : decode cX0_passDay 1 = .ok (.istore_n 1, 1) := by decide +kernel
theorem dX0_passDay_2 : decode cX0_passDay 2 = .ok (.iload_n 1, 1) := by decide +kernel
theorem dX0_passDay_3 : decode cX0_passDay 3 = .ok (.aload_n 0, 1) := by decide +kernel
theorem dX0_passDay_4 : decode cX0_passDay 4 = .ok (.getfield 37, 3) := by decide +kernel
theorem dX0_passDay_7 : decode cX0_passDay 7 = .ok (.if_icmp .ge 15, 3) := by decide +kernel
theorem dX0_passDay_10 : decode cX0_passDay 10 = .ok (.aload_n 0, 1) := by decide +kernel
theorem dX0_passDay_11 : decode cX0_passDay 11 = .ok (.iload_n 1, 1) := by decide +kernel
theorem dX0_passDay_12 : decode cX0_passDay 12 = .ok (.invokevirtual 94, 3) := by decide +kernel
theorem dX0_passDay_15 : decode cX0_passDay 15 = .ok (.pop, 1) := by decide +kernel
theorem dX0_passDay_16 : decode cX0_passDay 16 = .ok (.iinc 1 1, 3) := by decide +kernel
theorem dX0_passDay_19 : decode cX0_passDay 19 = .ok (.goto (-17), 3) := by decide +kernel
theorem dX0_passDay_22 : decode cX0_passDay 22 = .ok (.aload_n 0, 1) := by decide +kernel
theorem dX0_passDay_23 : decode cX0_passDay 23 = .ok (.dup, 1) := by decide +kernel
theorem dX0_passDay_24 : decode cX0_passDay 24 = .ok (.getfield 46, 3) := by decide +kernel
theorem dX0_passDay_27 : decode cX0_passDay 27 = .ok (.iconst 1, 1) := by decide +kernel
theorem dX0_passDay_28 : decode cX0_passDay 28 = .ok (.iadd, 1) := by decide +kernel
theorem dX0_passDay_29 : decode cX0_passDay 29 = .ok (.putfield 46, 3) := by decide +kernel
theorem dX0_passDay_32 : decode cX0_passDay 32 = .ok (.return_, 1) := by decide +kernel
theorem dX0_passDays_0 : decode cX0_passDays 0 = .ok (.iconst 0, 1) := by decide +kernel
theorem dX0_passDays_1 : decode cX0_passDays 1 = .ok (.istore_n 2, 1) := by decide +kernel
theorem dX0_passDays_2 : decode cX0_passDays 2 = .ok (.iload_n 2, 1) := by decide +kernel
theorem dX0_passDays_3 : decode cX0_passDays 3 = .ok (.iload_n 1, 1) := by decide +kernel
theorem dX0_passDays_4 : decode cX0_passDays 4 = .ok (.if_icmp .ge 13, 3) := by decide +kernel
theorem dX0_passDays_7 : decode cX0_passDays 7 = .ok (.aload_n 0, 1) := by decide +kernel
theorem dX0_passDays_8 : decode cX0_passDays 8 = .ok (.invokevirtual 97, 3) := by decide +kernel
theorem dX0_passDays_11 : decode cX0_passDays 11 = .ok (.iinc 2 1, 3) := by decide +kernel
theorem dX0_passDays_14 : decode cX0_passDays 14 = .ok (.goto (-12), 3) := by decide +kernel
theorem dX0_passDays_17 : decode cX0_passDays 17 = .ok (.return_, 1) := by decide +kernel
theorem dX0_passDaysTillStill_0 : decode cX0_passDaysTillStill 0 = .ok (.iconst (-1), 1) := by decide +kernel
theorem dX0_passDaysTillStill_1 : decode cX0_passDaysTillStill 1 = .ok (.istore_n 2, 1) := by decide +kernel
theorem dX0_passDaysTillStill_2 : decode cX0_passDaysTillStill 2 = .ok (.iconst 0, 1) := by decide +kernel
theorem dX0_passDaysTillStill_3 : decode cX0_passDaysTillStill 3 = .ok (.istore_n 3, 1) := by decide +kernel
theorem dX0_passDaysTillStill_4 : decode cX0_passDaysTillStill 4 = .ok (.iload_n 3, 1) := by decide +kernel
theorem dX0_passDaysTillStill_5 : decode cX0_passDaysTillStill 5 = .ok (.iload_n 1, 1) := by decide +kernel
theorem dX0_passDaysTillStill_6 : decode cX0_passDaysTillStill 6 = .ok (.if_icmp .ge 26, 3) := by decide +kernel
theorem dX0_passDaysTillStill_9 : decode cX0_passDaysTillStill 9 = .ok (.aload_n 0, 1) := by decide +kernel
theorem dX0_passDaysTillStill_10 : decode cX0_passDaysTillStill 10 = .ok (.getfield 49, 3) := by decide +kernel
theorem dX0_passDaysTillStill_13 : decode cX0_passDaysTillStill 13 = .ok (.iload_n 2, 1) := by decide +kernel
theorem dX0_passDaysTillStill_14 : decode cX0_passDaysTillStill 14 = .ok (.if_icmp .le 18, 3) := by decide +kernel
theorem dX0_passDaysTillStill_17 : decode cX0_passDaysTillStill 17 = .ok (.aload_n 0, 1) := by decide +kernel
theorem dX0_passDaysTillStill_18 : decode cX0_passDaysTillStill 18 = .ok (.getfield 49, 3) := by decide +kernel
theorem dX0_passDaysTillStill_21 : decode cX0_passDaysTillStill 21 = .ok (.istore_n 2, 1) := by decide +kernel
theorem dX0_passDaysTillStill_22 : decode cX0_passDaysTillStill 22 = .ok (.aload_n 0, 1) := by decide +kernel
theorem dX0_passDaysTillStill_23 : decode cX0_passDaysTillStill 23 = .ok (.invokevirtual 97, 3) := by decide +kernel
theorem dX0_passDaysTillStill_26 : decode cX0_passDaysTillStill 26 = .ok (.iinc 3 1, 3) := by decide +kernel
theorem dX0_passDaysTillStill_29 : decode cX0_passDaysTillStill 29 = .ok (.goto (-25), 3) := by decide +kernel
theorem dX0_passDaysTillStill_32 : decode cX0_passDaysTillStill 32 = .ok (.return_, 1) := by decide +kernel
theorem dX0_passDaysOf_0 : decode cX0_passDaysOf 0 = .ok (.iconst (-1), 1) := by decide +kernel
theorem dX0_passDaysOf_1 : decode cX0_passDaysOf 1 = .ok (.istore_n 3, 1) := by decide +kernel
theorem dX0_passDaysOf_2 : decode cX0_passDaysOf 2 = .ok (.iconst 0, 1) := by decide +kernel
theorem dX0_passDaysOf_3 : decode cX0_passDaysOf 3 = .ok (.istore 4, 2) := by decide +kernel
theorem dX0_passDaysOf_5 : decode cX0_passDaysOf 5 = .ok (.iload 4, 2) := by decide +kernel
theorem dX0_passDaysOf_7 : decode cX0_passDaysOf 7 = .ok (.iload_n 2, 1) := by decide +kernel
theorem dX0_passDaysOf_8 : decode cX0_passDaysOf 8 = .ok (.if_icmp .ge 28, 3) := by decide +kernel
theorem dX0_passDaysOf_11 : decode cX0_passDaysOf 11 = .ok (.aload_n 0, 1) := by decide +kernel
theorem dX0_passDaysOf_12 : decode cX0_passDaysOf 12 = .ok (.getfield 49, 3) := by decide +kernel
theorem dX0_passDaysOf_15 : decode cX0_passDaysOf 15 = .ok (.iload_n 3, 1) := by decide +kernel
theorem dX0_passDaysOf_16 : decode cX0_passDaysOf 16 = .ok (.if_icmp .le 20, 3) := by decide +kernel
theorem dX0_passDaysOf_19 : decode cX0_passDaysOf 19 = .ok (.aload_n 0, 1) := by decide +kernel
theorem dX0_passDaysOf_20 : decode cX0_passDaysOf 20 = .ok (.getfield 49, 3) := by decide +kernel
theorem dX0_passDaysOf_23 : decode cX0_passDaysOf 23 = .ok (.istore_n 3, 1) := by decide +kernel
theorem dX0_passDaysOf_24 : decode cX0_passDaysOf 24 = .ok (.aload_n 0, 1) := by decide +kernel
theorem dX0_passDaysOf_25 : decode cX0_passDaysOf 25 = .ok (.iload_n 1, 1) := by decide +kernel
theorem dX0_passDaysOf_26 : decode cX0_passDaysOf 26 = .ok (.invokevirtual 94, 3) := by decide +kernel
theorem dX0_passDaysOf_29 : decode cX0_passDaysOf 29 = .ok (.pop, 1) := by decide +kernel
theorem dX0_passDaysOf_30 : decode cX0_passDaysOf 30 = .ok (.iinc 4 1, 3) := by decide +kernel
theorem dX0_passDaysOf_33 : decode cX0_passDaysOf 33 = .ok (.goto (-28), 3) := by decide +kernel
theorem dX0_passDaysOf_36 : decode cX0_passDaysOf 36 = .ok (.return_, 1) := by decide +kernel
theorem dX0_daysTillDone_0 : decode cX0_daysTillDone 0 = .ok (.iconst 0, 1) := by decide +kernel
theorem dX0_daysTillDone_1 : decode cX0_daysTillDone 1 = .ok (.istore_n 3, 1) := by decide +kernel
theorem dX0_daysTillDone_2 : decode cX0_daysTillDone 2 = .ok (.iconst 0, 1) := by decide +kernel
theorem dX0_daysTillDone_3 : decode cX0_daysTillDone 3 = .ok (.istore 4, 2) := by decide +kernel
theorem dX0_daysTillDone_5 : decode cX0_daysTillDone 5 = .ok (.iload 4, 2) := by decide +kernel
theorem dX0_daysTillDone_7 : decode cX0_daysTillDone 7 = .ok (.iload_n 2, 1) := by decide +kernel
theorem dX0_daysTillDone_8 : decode cX0_daysTillDone 8 = .ok (.if_icmp .gt 55, 3) := by decide +kernel
theorem dX0_daysTillDone_11 : decode cX0_daysTillDone 11 = .ok (.iload_n 3, 1) := by decide +kernel
theorem dX0_daysTillDone_12 : decode cX0_daysTillDone 12 = .ok (.ifCond .ne 51, 3) := by decide +kernel
theorem dX0_daysTillDone_15 : decode cX0_daysTillDone 15 = .ok (.aload_n 0, 1) := by decide +kernel
theorem dX0_daysTillDone_16 : decode cX0_daysTillDone 16 = .ok (.iload_n 1, 1) := by decide +kernel
theorem dX0_daysTillDone_17 : decode cX0_daysTillDone 17 = .ok (.invokevirtual 65, 3) := by decide +kernel
theorem dX0_daysTillDone_20 : decode cX0_daysTillDone 20 = .ok (.ifCond .eq 6, 3) := by decide +kernel
theorem dX0_daysTillDone_23 : decode cX0_daysTillDone 23 = .ok (.iload 4, 2) := by decide +kernel
theorem dX0_daysTillDone_25 : decode cX0_daysTillDone 25 = .ok (.ireturn, 1) := by decide +kernel
theorem dX0_daysTillDone_26 : decode cX0_daysTillDone 26 = .ok (.aload_n 0, 1) := by decide +kernel
theorem dX0_daysTillDone_27 : decode cX0_daysTillDone 27 = .ok (.getfield 49, 3) := by decide +kernel
theorem dX0_daysTillDone_30 : decode cX0_daysTillDone 30 = .ok (.istore 5, 2) := by decide +kernel
theorem dX0_daysTillDone_32 : decode cX0_daysTillDone 32 = .ok (.aload_n 0, 1) := by decide +kernel
theorem dX0_daysTillDone_33 : decode cX0_daysTillDone 33 = .ok (.iload_n 1, 1) := by decide +kernel
theorem dX0_daysTillDone_34 : decode cX0_daysTillDone 34 = .ok (.invokevirtual 94, 3) := by decide +kernel
theorem dX0_daysTillDone_37 : decode cX0_daysTillDone 37 = .ok (.bipush (-4), 2) := by decide +kernel
theorem dX0_daysTillDone_39 : decode cX0_daysTillDone 39 = .ok (.if_icmp .eq 16, 3) := by decide +kernel
theorem dX0_daysTillDone_42 : decode cX0_daysTillDone 42 = .ok (.aload_n 0, 1) := by decide +kernel
theorem dX0_daysTillDone_43 : decode cX0_daysTillDone 43 = .ok (.getfield 49, 3) := by decide +kernel
theorem dX0_daysTillDone_46 : decode cX0_daysTillDone 46 = .ok (.iload 5, 2) := by decide +kernel
theorem dX0_daysTillDone_48 : decode cX0_daysTillDone 48 = .ok (.if_icmp .ne 7, 3) := by decide +kernel
theorem dX0_daysTillDone_51 : decode cX0_daysTillDone 51 = .ok (.iconst 1, 1) := by decide +kernel
theorem dX0_daysTillDone_52 : decode cX0_daysTillDone 52 = .ok (.goto 4, 3) := by decide +kernel
theorem dX0_daysTillDone_55 : decode cX0_daysTillDone 55 = .ok (.iconst 0, 1) := by decide +kernel
theorem dX0_daysTillDone_56 : decode cX0_daysTillDone 56 = .ok (.istore_n 3, 1) := by decide +kernel
theorem dX0_daysTillDone_57 : decode cX0_daysTillDone 57 = .ok (.iinc 4 1, 3) := by decide +kernel
theorem dX0_daysTillDone_60 : decode cX0_daysTillDone 60 = .ok (.goto (-55), 3) := by decide +kernel
theorem dX0_daysTillDone_63 : decode cX0_daysTillDone 63 = .ok (.bipush (-4), 2) := by decide +kernel
theorem dX0_daysTillDone_65 : decode cX0_daysTillDone 65 = .ok (.ireturn, 1) := by decide +kernel
theorem dX0_changePlaces_0 : decode cX0_changePlaces 0 = .ok (.aload_n 0, 1) := by decide +kernel
theorem dX0_changePlaces_1 : decode cX0_changePlaces 1 = .ok (.getfield 9, 3) := by decide +kernel
theorem dX0_changePlaces_4 : decode cX0_changePlaces 4 = .ok (.iload_n 1, 1) := by decide +kernel
theorem dX0_changePlaces_5 : decode cX0_changePlaces 5 = .ok (.iload_n 2, 1) := by decide +kernel
theorem dX0_changePlaces_6 : decode cX0_changePlaces 6 = .ok (.invokestatic 100, 3) := by decide +kernel
theorem dX0_changePlaces_9 : decode cX0_changePlaces 9 = .ok (.aload_n 0, 1) := by decide +kernel
theorem dX0_changePlaces_10 : decode cX0_changePlaces 10 = .ok (.getfield 15, 3) := by decide +kernel
theorem dX0_changePlaces_13 : decode cX0_changePlaces 13 = .ok (.iload_n 1, 1) := by decide +kernel
theorem dX0_changePlaces_14 : decode cX0_changePlaces 14 = .ok (.iload_n 2, 1) := by decide +kernel
theorem dX0_changePlaces_15 : decode cX0_changePlaces 15 = .ok (.invokestatic 100, 3) := by decide +kernel
theorem dX0_changePlaces_18 : decode cX0_changePlaces 18 = .ok (.return_, 1) := by decide +kernel
theorem dX1_init_0 : decode cX1_init 0 = .ok (.aload_n 0, 1) := by decide +kernel
theorem dX1_init_1 : decode cX1_init 1 = .ok (.invokespecial 1, 3) := by decide +kernel
theorem dX1_init_4 : decode cX1_init 4 = .ok (.aload_n 0, 1) := by decide +kernel
theorem dX1_init_5 : decode cX1_init 5 = .ok (.new 7, 3) := by decide +kernel
theorem dX1_init_8 : decode cX1_init 8 = .ok (.dup, 1) := by decide +kernel
theorem dX1_init_9 : decode cX1_init 9 = .ok (.invokespecial 9, 3) := by decide +kernel
theorem dX1_init_12 : decode cX1_init 12 = .ok (.putfield 10, 3) := by decide +kernel
theorem dX1_init_15 : decode cX1_init 15 = .ok (.aload_n 0, 1) := by decide +kernel
theorem dX1_init_16 : decode cX1_init 16 = .ok (.new 16, 3) := by decide +kernel
theorem dX1_init_19 : decode cX1_init 19 = .ok (.dup, 1) := by decide +kernel
theorem dX1_init_20 : decode cX1_init 20 = .ok (.invokespecial 18, 3) := by decide +kernel
theorem dX1_init_23 : decode cX1_init 23 = .ok (.putfield 19, 3) := by decide +kernel
theorem dX1_init_26 : decode cX1_init 26 = .ok (.return_, 1) := by decide +kernel
theorem dX2_init_0 : decode cX2_init 0 = .ok (.aload_n 0, 1) := by decide +kernel
theorem dX2_init_1 : decode cX2_init 1 = .ok (.invokespecial 3, 3) := by decide +kernel
theorem dX2_init_4 : decode cX2_init 4 = .ok (.aload_n 0, 1) := by decide +kernel
theorem dX2_init_5 : decode cX2_init 5 = .ok (.bipush 10, 2) := by decide +kernel
theorem dX2_init_7 : decode cX2_init 7 = .ok (.bipush 84, 2) := by decide +kernel
theorem dX2_init_9 : decode cX2_init 9 = .ok (.multianewarray 9 2, 4) := by decide +kernel
theorem dX2_init_13 : decode cX2_init 13 = .ok (.putfield 11, 3) := by decide +kernel
theorem dX2_init_16 : decode cX2_init 16 = .ok (.aload_n 0, 1) := by decide +kernel
theorem dX2_init_17 : decode cX2_init 17 = .ok (.bipush 9, 2) := by decide +kernel
theorem dX2_init_19 : decode cX2_init 19 = .ok (.newarray .int, 2) := by decide +kernel
theorem dX2_init_21 : decode cX2_init 21 = .ok (.putfield 16, 3) := by decide +kernel
theorem dX2_init_24 : decode cX2_init 24 = .ok (.return_, 1) := by decide +kernel
theorem dX2_foresee_0 : decode cX2_foresee 0 = .ok (.iconst 0, 1) := by decide +kernel
theorem dX2_foresee_1 : decode cX2_foresee 1 = .ok (.istore 5, 2) := by decide +kernel
theorem dX2_foresee_3 : decode cX2_foresee 3 = .ok (.iload 5, 2) := by decide +kernel
theorem dX2_foresee_5 : decode cX2_foresee 5 = .ok (.bipush 9, 2) := by decide +kernel
theorem dX2_foresee_7 : decode cX2_foresee 7 = .ok (.if_icmp .gt 43, 3) := by decide +kernel
theorem dX2_foresee_10 : decode cX2_foresee 10 = .ok (.iload 4, 2) := by decide +kernel
theorem dX2_foresee_12 : decode cX2_foresee 12 = .ok (.iload 5, 2) := by decide +kernel
theorem dX2_foresee_14 : decode cX2_foresee 14 = .ok (.ishr, 1) := by decide +kernel
theorem dX2_foresee_15 : decode cX2_foresee 15 = .ok (.iconst 1, 1) := by decide +kernel
theorem dX2_foresee_16 : decode cX2_foresee 16 = .ok (.iand, 1) := by decide +kernel
theorem dX2_foresee_17 : decode cX2_foresee 17 = .ok (.ifCond .eq 27, 3) := by decide +kernel
theorem dX2_foresee_20 : decode cX2_foresee 20 = .ok (.aload_n 2, 1) := by decide +kernel
theorem dX2_foresee_21 : decode cX2_foresee 21 = .ok (.aload_n 1, 1) := by decide +kernel
theorem dX2_foresee_22 : decode cX2_foresee 22 = .ok (.invokevirtual 20, 3) := by decide +kernel
theorem dX2_foresee_25 : decode cX2_foresee 25 = .ok (.aload_n 2, 1) := by decide +kernel
theorem dX2_foresee_26 : decode cX2_foresee 26 = .ok (.getfield 26, 3) := by decide +kernel
theorem dX2_foresee_29 : decode cX2_foresee 29 = .ok (.iload_n 3, 1) := by decide +kernel
theorem dX2_foresee_30 : decode cX2_foresee 30 = .ok (.iload 5, 2) := by decide +kernel
theorem dX2_foresee_32 : decode cX2_foresee 32 = .ok (.iastore, 1) := by decide +kernel
theorem dX2_foresee_33 : decode cX2_foresee 33 = .ok (.aload_n 2, 1) := by decide +kernel
theorem dX2_foresee_34 : decode cX2_foresee 34 = .ok (.aload_n 0, 1) := by decide +kernel
theorem dX2_foresee_35 : decode cX2_foresee 35 = .ok (.getfield 11, 3) := by decide +kernel
theorem dX2_foresee_38 : decode cX2_foresee 38 = .ok (.iload 5, 2) := by decide +kernel
theorem dX2_foresee_40 : decode cX2_foresee 40 = .ok (.aaload, 1) := by decide +kernel
theorem dX2_foresee_41 : decode cX2_foresee 41 = .ok (.invokestatic 29, 3) := by decide +kernel
theorem dX2_foresee_44 : decode cX2_foresee 44 = .ok (.iinc 5 1, 3) := by decide +kernel
theorem dX2_foresee_47 : decode cX2_foresee 47 = .ok (.goto (-44), 3) := by decide +kernel
theorem dX2_foresee_50 : decode cX2_foresee 50 = .ok (.return_, 1) := by decide +kernel
theorem dX2_note_0 : decode cX2_note 0 = .ok (.iconst 0, 1) := by decide +kernel
theorem dX2_note_1 : decode cX2_note 1 = .ok (.istore_n 2, 1) := by decide +kernel
theorem dX2_note_2 : decode cX2_note 2 = .ok (.iload_n 2, 1) := by decide +kernel
theorem dX2_note_3 : decode cX2_note 3 = .ok (.bipush 20, 2) := by decide +kernel
theorem dX2_note_5 : decode cX2_note 5 = .ok (.if_icmp .gt 55, 3) := by decide +kernel
theorem dX2_note_8 : decode cX2_note 8 = .ok (.iconst 0, 1) := by decide +kernel
theorem dX2_note_9 : decode cX2_note 9 = .ok (.istore_n 3, 1) := by decide +kernel
theorem dX2_note_10 : decode cX2_note 10 = .ok (.iload_n 3, 1) := by decide +kernel
theorem dX2_note_11 : decode cX2_note 11 = .ok (.aload_n 0, 1) := by decide +kernel
theorem dX2_note_12 : decode cX2_note 12 = .ok (.getfield 33, 3) := by decide +kernel
theorem dX2_note_15 : decode cX2_note 15 = .ok (.if_icmp .ge 35, 3) := by decide +kernel
theorem dX2_note_18 : decode cX2_note 18 = .ok (.aload_n 1, 1) := by decide +kernel
theorem dX2_note_19 : decode cX2_note 19 = .ok (.iload_n 2, 1) := by decide +kernel
theorem dX2_note_20 : decode cX2_note 20 = .ok (.iconst 4, 1) := by decide +kernel
theorem dX2_note_21 : decode cX2_note 21 = .ok (.imul, 1) := by decide +kernel
theorem dX2_note_22 : decode cX2_note 22 = .ok (.iload_n 3, 1) := by decide +kernel
theorem dX2_note_23 : decode cX2_note 23 = .ok (.iadd, 1) := by decide +kernel
theorem dX2_note_24 : decode cX2_note 24 = .ok (.aload_n 0, 1) := by decide +kernel
theorem dX2_note_25 : decode cX2_note 25 = .ok (.iload_n 3, 1) := by decide +kernel
theorem dX2_note_26 : decode cX2_note 26 = .ok (.invokevirtual 37, 3) := by decide +kernel
theorem dX2_note_29 : decode cX2_note 29 = .ok (.ifCond .eq 8, 3) := by decide +kernel
theorem dX2_note_32 : decode cX2_note 32 = .ok (.bipush 8, 2) := by decide +kernel
theorem dX2_note_34 : decode cX2_note 34 = .ok (.goto 9, 3) := by decide +kernel
theorem dX2_note_37 : decode cX2_note 37 = .ok (.aload_n 0, 1) := by decide +kernel
theorem dX2_note_38 : decode cX2_note 38 = .ok (.getfield 41, 3) := by decide +kernel
theorem dX2_note_41 : decode cX2_note 41 = .ok (.iload_n 3, 1) := by decide +kernel
theorem dX2_note_42 : decode cX2_note 42 = .ok (.iaload, 1) := by decide +kernel
theorem dX2_note_43 : decode cX2_note 43 = .ok (.iastore, 1) := by decide +kernel
theorem dX2_note_44 : decode cX2_note 44 = .ok (.iinc 3 1, 3) := by decide +kernel
theorem dX2_note_47 : decode cX2_note 47 = .ok (.goto (-37), 3) := by decide +kernel
theorem dX2_note_50 : decode cX2_note 50 = .ok (.aload_n 0, 1) := by decide +kernel
theorem dX2_note_51 : decode cX2_note 51 = .ok (.invokevirtual 44, 3) := by decide +kernel
theorem dX2_note_54 : decode cX2_note 54 = .ok (.iinc 2 1, 3) := by decide +kernel
theorem dX2_note_57 : decode cX2_note 57 = .ok (.goto (-55), 3) := by decide +kernel
theorem dX2_note_60 : decode cX2_note 60 = .ok (.return_, 1) := by decide +kernel
theorem dX2_mostLeft_0 : decode cX2_mostLeft 0 = .ok (.iconst 0, 1) := by decide +kernel
theorem dX2_mostLeft_1 : decode cX2_mostLeft 1 = .ok (.istore 4, 2) := by decide +kernel
theorem dX2_mostLeft_3 : decode cX2_mostLeft 3 = .ok (.iload 4, 2) := by decide +kernel
theorem dX2_mostLeft_5 : decode cX2_mostLeft 5 = .ok (.bipush 8, 2) := by decide +kernel
theorem dX2_mostLeft_7 : decode cX2_mostLeft 7 = .ok (.if_icmp .gt 17, 3) := by decide +kernel
theorem dX2_mostLeft_10 : decode cX2_mostLeft 10 = .ok (.aload_n 0, 1) := by decide +kernel
theorem dX2_mostLeft_11 : decode cX2_mostLeft 11 = .ok (.getfield 16, 3) := by decide +kernel
theorem dX2_mostLeft_14 : decode cX2_mostLeft 14 = .ok (.iload 4, 2) := by decide +kernel
theorem dX2_mostLeft_16 : decode cX2_mostLeft 16 = .ok (.iconst 0, 1) := by decide +kernel
theorem dX2_mostLeft_17 : decode cX2_mostLeft 17 = .ok (.iastore, 1) := by decide +kernel
theorem dX2_mostLeft_18 : decode cX2_mostLeft 18 = .ok (.iinc 4 1, 3) := by decide +kernel
theorem dX2_mostLeft_21 : decode cX2_mostLeft 21 = .ok (.goto (-18), 3) := by decide +kernel
theorem dX2_mostLeft_24 : decode cX2_mostLeft 24 = .ok (.iconst 0, 1) := by decide +kernel
theorem dX2_mostLeft_25 : decode cX2_mostLeft 25 = .ok (.istore 4, 2) := by decide +kernel
theorem dX2_mostLeft_27 : decode cX2_mostLeft 27 = .ok (.iconst 0, 1) := by decide +kernel
theorem dX2_mostLeft_28 : decode cX2_mostLeft 28 = .ok (.istore 5, 2) := by decide +kernel
theorem dX2_mostLeft_30 : decode cX2_mostLeft 30 = .ok (.iload 5, 2) := by decide +kernel
theorem dX2_mostLeft_32 : decode cX2_mostLeft 32 = .ok (.bipush 9, 2) := by decide +kernel
theorem dX2_mostLeft_34 : decode cX2_mostLeft 34 = .ok (.if_icmp .gt 58, 3) := by decide +kernel
theorem dX2_mostLeft_37 : decode cX2_mostLeft 37 = .ok (.iload_n 1, 1) := by decide +kernel
theorem dX2_mostLeft_38 : decode cX2_mostLeft 38 = .ok (.iload 5, 2) := by decide +kernel
theorem dX2_mostLeft_40 : decode cX2_mostLeft 40 = .ok (.ishr, 1) := by decide +kernel
theorem dX2_mostLeft_41 : decode cX2_mostLeft 41 = .ok (.iconst 1, 1) := by decide +kernel
theorem dX2_mostLeft_42 : decode cX2_mostLeft 42 = .ok (.iand, 1) := by decide +kernel
theorem dX2_mostLeft_43 : decode cX2_mostLeft 43 = .ok (.ifCond .eq 43, 3) := by decide +kernel
theorem dX2_mostLeft_46 : decode cX2_mostLeft 46 = .ok (.aload_n 0, 1) := by decide +kernel
theorem dX2_mostLeft_47 : decode cX2_mostLeft 47 = .ok (.getfield 11, 3) := by decide +kernel
theorem dX2_mostLeft_50 : decode cX2_mostLeft 50 = .ok (.iload 5, 2) := by decide +kernel
theorem dX2_mostLeft_52 : decode cX2_mostLeft 52 = .ok (.aaload, 1) := by decide +kernel
theorem dX2_mostLeft_53 : decode cX2_mostLeft 53 = .ok (.iload_n 2, 1) := by decide +kernel
theorem dX2_mostLeft_54 : decode cX2_mostLeft 54 = .ok (.iconst 4, 1) := by decide +kernel
theorem dX2_mostLeft_55 : decode cX2_mostLeft 55 = .ok (.imul, 1) := by decide +kernel
theorem dX2_mostLeft_56 : decode cX2_mostLeft 56 = .ok (.iload_n 3, 1) := by decide +kernel
theorem dX2_mostLeft_57 : decode cX2_mostLeft 57 = .ok (.iadd, 1) := by decide +kernel
theorem dX2_mostLeft_58 : decode cX2_mostLeft 58 = .ok (.iaload, 1) := by decide +kernel
theorem dX2_mostLeft_59 : decode cX2_mostLeft 59 = .ok (.istore 6, 2) := by decide +kernel
theorem dX2_mostLeft_61 : decode cX2_mostLeft 61 = .ok (.aload_n 0, 1) := by decide +kernel
theorem dX2_mostLeft_62 : decode cX2_mostLeft 62 = .ok (.getfield 16, 3) := by decide +kernel
theorem dX2_mostLeft_65 : decode cX2_mostLeft 65 = .ok (.iload 6, 2) := by decide +kernel
theorem dX2_mostLeft_67 : decode cX2_mostLeft 67 = .ok (.dup2, 1) := by decide +kernel
theorem dX2_mostLeft_68 : decode cX2_mostLeft 68 = .ok (.iaload, 1) := by decide +kernel
theorem dX2_mostLeft_69 : decode cX2_mostLeft 69 = .ok (.iconst 1, 1) := by decide +kernel
theorem dX2_mostLeft_70 : decode cX2_mostLeft 70 = .ok (.iadd, 1) := by decide +kernel
theorem dX2_mostLeft_71 : decode cX2_mostLeft 71 = .ok (.iastore, 1) := by decide +kernel
theorem dX2_mostLeft_72 : decode cX2_mostLeft 72 = .ok (.iload 4, 2) := by decide +kernel
theorem dX2_mostLeft_74 : decode cX2_mostLeft 74 = .ok (.aload_n 0, 1) := by decide +kernel
theorem dX2_mostLeft_75 : decode cX2_mostLeft 75 = .ok (.getfield 16, 3) := by decide +kernel
theorem dX2_mostLeft_78 : decode cX2_mostLeft 78 = .ok (.iload 6, 2) := by decide +kernel
theorem dX2_mostLeft_80 : decode cX2_mostLeft 80 = .ok (.iaload, 1) := by decide +kernel
theorem dX2_mostLeft_81 : decode cX2_mostLeft 81 = .ok (.invokestatic 47, 3) := by decide +kernel
theorem dX2_mostLeft_84 : decode cX2_mostLeft 84 = .ok (.istore 4, 2) := by decide +kernel
theorem dX2_mostLeft_86 : decode cX2_mostLeft 86 = .ok (.iinc 5 1, 3) := by decide +kernel
theorem dX2_mostLeft_89 : decode cX2_mostLeft 89 = .ok (.goto (-59), 3) := by decide +kernel
theorem dX2_mostLeft_92 : decode cX2_mostLeft 92 = .ok (.iload 4, 2) := by decide +kernel
theorem dX2_mostLeft_94 : decode cX2_mostLeft 94 = .ok (.ireturn, 1) := by decide +kernel
theorem dX3_init_0 : decode cX3_init 0 = .ok (.aload_n 0, 1) := by decide +kernel
theorem dX3_init_1 : decode cX3_init 1 = .ok (.invokespecial 3, 3) := by decide +kernel
theorem dX3_init_4 : decode cX3_init 4 = .ok (.aload_n 0, 1) := by decide +kernel
theorem dX3_init_5 : decode cX3_init 5 = .ok (.new 9, 3) := by decide +kernel
theorem dX3_init_8 : decode cX3_init 8 = .ok (.dup, 1) := by decide +kernel
theorem dX3_init_9 : decode cX3_init 9 = .ok (.invokespecial 11, 3) := by decide +kernel
theorem dX3_init_12 : decode cX3_init 12 = .ok (.putfield 12, 3) := by decide +kernel
theorem dX3_init_15 : decode cX3_init 15 = .ok (.aload_n 0, 1) := by decide +kernel
theorem dX3_init_16 : decode cX3_init 16 = .ok (.new 18, 3) := by decide +kernel
theorem dX3_init_19 : decode cX3_init 19 = .ok (.dup, 1) := by decide +kernel
theorem dX3_init_20 : decode cX3_init 20 = .ok (.invokespecial 20, 3) := by decide +kernel
theorem dX3_init_23 : decode cX3_init 23 = .ok (.putfield 21, 3) := by decide +kernel
theorem dX3_init_26 : decode cX3_init 26 = .ok (.return_, 1) := by decide +kernel
theorem dX3_begin_0 : decode cX3_begin 0 = .ok (.aload_n 0, 1) := by decide +kernel
theorem dX3_begin_1 : decode cX3_begin 1 = .ok (.iconst 0, 1) := by decide +kernel
theorem dX3_begin_2 : decode cX3_begin 2 = .ok (.putfield 25, 3) := by decide +kernel
theorem dX3_begin_5 : decode cX3_begin 5 = .ok (.aload_n 0, 1) := by decide +kernel
theorem dX3_begin_6 : decode cX3_begin 6 = .ok (.iconst 0, 1) := by decide +kernel
theorem dX3_begin_7 : decode cX3_begin 7 = .ok (.putfield 29, 3) := by decide +kernel
theorem dX3_begin_10 : decode cX3_begin 10 = .ok (.aload_n 0, 1) := by decide +kernel
theorem dX3_begin_11 : decode cX3_begin 11 = .ok (.iconst 0, 1) := by decide +kernel
theorem dX3_begin_12 : decode cX3_begin 12 = .ok (.putfield 32, 3) := by decide +kernel
theorem dX3_begin_15 : decode cX3_begin 15 = .ok (.aload_n 0, 1) := by decide +kernel
theorem dX3_begin_16 : decode cX3_begin 16 = .ok (.iconst 0, 1) := by decide +kernel
theorem dX3_begin_17 : decode cX3_begin 17 = .ok (.putfield 35, 3) := by decide +kernel
theorem dX3_begin_20 : decode cX3_begin 20 = .ok (.aload_n 0, 1) := by decide +kernel
theorem dX3_begin_21 : decode cX3_begin 21 = .ok (.getfield 12, 3) := by decide +kernel
theorem dX3_begin_24 : decode cX3_begin 24 = .ok (.invokevirtual 39, 3) := by decide +kernel
theorem dX3_begin_27 : decode cX3_begin 27 = .ok (.aload_n 0, 1) := by decide +kernel
theorem dX3_begin_28 : decode cX3_begin 28 = .ok (.getfield 21, 3) := by decide +kernel
theorem dX3_begin_31 : decode cX3_begin 31 = .ok (.invokevirtual 42, 3) := by decide +kernel
theorem dX3_begin_34 : decode cX3_begin 34 = .ok (.aload_n 0, 1) := by decide +kernel
theorem dX3_begin_35 : decode cX3_begin 35 = .ok (.invokevirtual 45, 3) := by decide +kernel
theorem dX3_begin_38 : decode cX3_begin 38 = .ok (.return_, 1) := by decide +kernel
theorem dX3_isAtLine_0 : decode cX3_isAtLine 0 = .ok (.aload_n 0, 1) := by decide +kernel
theorem dX3_isAtLine_1 : decode cX3_isAtLine 1 = .ok (.getfield 25, 3) := by decide +kernel
theorem dX3_isAtLine_4 : decode cX3_isAtLine 4 = .ok (.ifCond .ne 17, 3) := by decide +kernel
theorem dX3_isAtLine_7 : decode cX3_isAtLine 7 = .ok (.aload_n 0, 1) := by decide +kernel
theorem dX3_isAtLine_8 : decode cX3_isAtLine 8 = .ok (.getfield 12, 3) := by decide +kernel
theorem dX3_isAtLine_11 : decode cX3_isAtLine 11 = .ok (.getfield 48, 3) := by decide +kernel
theorem dX3_isAtLine_14 : decode cX3_isAtLine 14 = .ok (.ifCond .eq 7, 3) := by decide +kernel
theorem dX3_isAtLine_17 : decode cX3_isAtLine 17 = .ok (.iconst 1, 1) := by decide +kernel
theorem dX3_isAtLine_18 : decode cX3_isAtLine 18 = .ok (.goto 4, 3) := by decide +kernel
theorem dX3_isAtLine_21 : decode cX3_isAtLine 21 = .ok (.iconst 0, 1) := by decide +kernel
theorem dX3_isAtLine_22 : decode cX3_isAtLine 22 = .ok (.ireturn, 1) := by decide +kernel
theorem dX3_finish_0 : decode cX3_finish 0 = .ok (.aload_n 0, 1) := by decide +kernel
theorem dX3_finish_1 : decode cX3_finish 1 = .ok (.invokevirtual 51, 3) := by decide +kernel
theorem dX3_finish_4 : decode cX3_finish 4 = .ok (.ifCond .eq 16, 3) := by decide +kernel
theorem dX3_finish_7 : decode cX3_finish 7 = .ok (.aload_n 0, 1) := by decide +kernel
theorem dX3_finish_8 : decode cX3_finish 8 = .ok (.bipush 6, 2) := by decide +kernel
theorem dX3_finish_10 : decode cX3_finish 10 = .ok (.aload_n 0, 1) := by decide +kernel
theorem dX3_finish_11 : decode cX3_finish 11 = .ok (.getfield 12, 3) := by decide +kernel
theorem dX3_finish_14 : decode cX3_finish 14 = .ok (.getfield 55, 3) := by decide +kernel
theorem dX3_finish_17 : decode cX3_finish 17 = .ok (.invokevirtual 58, 3) := by decide +kernel
theorem dX3_finish_20 : decode cX3_finish 20 = .ok (.return_, 1) := by decide +kernel
theorem dX3_refuse_0 : decode cX3_refuse 0 = .ok (.aload_n 0, 1) := by decide +kernel
theorem dX3_refuse_1 : decode cX3_refuse 1 = .ok (.getfield 25, 3) := by decide +kernel
theorem dX3_refuse_4 : decode cX3_refuse 4 = .ok (.ifCond .ne 13, 3) := by decide +kernel
theorem dX3_refuse_7 : decode cX3_refuse 7 = .ok (.aload_n 0, 1) := by decide +kernel
theorem dX3_refuse_8 : decode cX3_refuse 8 = .ok (.iload_n 1, 1) := by decide +kernel
theorem dX3_refuse_9 : decode cX3_refuse 9 = .ok (.putfield 25, 3) := by decide +kernel
theorem dX3_refuse_12 : decode cX3_refuse 12 = .ok (.aload_n 0, 1) := by decide +kernel
theorem dX3_refuse_13 : decode cX3_refuse 13 = .ok (.iload_n 2, 1) := by decide +kernel
theorem dX3_refuse_14 : decode cX3_refuse 14 = .ok (.putfield 29, 3) := by decide +kernel
theorem dX3_refuse_17 : decode cX3_refuse 17 = .ok (.return_, 1) := by decide +kernel
theorem dX3_takeToken_0 : decode cX3_takeToken 0 = .ok (.aload_n 0, 1) := by decide +kernel
theorem dX3_takeToken_1 : decode cX3_takeToken 1 = .ok (.getfield 25, 3) := by decide +kernel
theorem dX3_takeToken_4 : decode cX3_takeToken 4 = .ok (.ifCond .ne 33, 3) := by decide +kernel
theorem dX3_takeToken_7 : decode cX3_takeToken 7 = .ok (.aload_n 0, 1) := by decide +kernel
theorem dX3_takeToken_8 : decode cX3_takeToken 8 = .ok (.getfield 12, 3) := by decide +kernel
theorem dX3_takeToken_11 : decode cX3_takeToken 11 = .ok (.invokevirtual 62, 3) := by decide +kernel
theorem dX3_takeToken_14 : decode cX3_takeToken 14 = .ok (.aload_n 0, 1) := by decide +kernel
theorem dX3_takeToken_15 : decode cX3_takeToken 15 = .ok (.getfield 12, 3) := by decide +kernel
theorem dX3_takeToken_18 : decode cX3_takeToken 18 = .ok (.getfield 48, 3) := by decide +kernel
theorem dX3_takeToken_21 : decode cX3_takeToken 21 = .ok (.iconst 4, 1) := by decide +kernel
theorem dX3_takeToken_22 : decode cX3_takeToken 22 = .ok (.if_icmp .ne 15, 3) := by decide +kernel
theorem dX3_takeToken_25 : decode cX3_takeToken 25 = .ok (.aload_n 0, 1) := by decide +kernel
theorem dX3_takeToken_26 : decode cX3_takeToken 26 = .ok (.iconst 1, 1) := by decide +kernel
theorem dX3_takeToken_27 : decode cX3_takeToken 27 = .ok (.aload_n 0, 1) := by decide +kernel
theorem dX3_takeToken_28 : decode cX3_takeToken 28 = .ok (.getfield 12, 3) := by decide +kernel
theorem dX3_takeToken_31 : decode cX3_takeToken 31 = .ok (.getfield 65, 3) := by decide +kernel
theorem dX3_takeToken_34 : decode cX3_takeToken 34 = .ok (.invokevirtual 58, 3) := by decide +kernel
theorem dX3_takeToken_37 : decode cX3_takeToken 37 = .ok (.return_, 1) := by decide +kernel
theorem dX3_parseLine_0 : decode cX3_parseLine 0 = .ok (.aload_n 0, 1) := by decide +kernel
theorem dX3_parseLine_1 : decode cX3_parseLine 1 = .ok (.getfield 12, 3) := by decide +kernel
theorem dX3_parseLine_4 : decode cX3_parseLine 4 = .ok (.ldc 68, 2) := by decide +kernel
theorem dX3_parseLine_6 : decode cX3_parseLine 6 = .ok (.invokevirtual 70, 3) := by decide +kernel
theorem dX3_parseLine_9 : decode cX3_parseLine 9 = .ok (.ifCond .eq 10, 3) := by decide +kernel
theorem dX3_parseLine_12 : decode cX3_parseLine 12 = .ok (.aload_n 0, 1) := by decide +kernel
theorem dX3_parseLine_13 : decode cX3_parseLine 13 = .ok (.invokevirtual 74, 3) := by decide +kernel
theorem dX3_parseLine_16 : decode cX3_parseLine 16 = .ok (.goto 114, 3) := by decide +kernel
theorem dX3_parseLine_19 : decode cX3_parseLine 19 = .ok (.aload_n 0, 1) := by decide +kernel
theorem dX3_parseLine_20 : decode cX3_parseLine 20 = .ok (.getfield 12, 3) := by decide +kernel
theorem dX3_parseLine_23 : decode cX3_parseLine 23 = .ok (.ldc 77, 2) := by decide +kernel
theorem dX3_parseLine_25 : decode cX3_parseLine 25 = .ok (.invokevirtual 70, 3) := by decide +kernel
theorem dX3_parseLine_28 : decode cX3_parseLine 28 = .ok (.ifCond .eq 11, 3) := by decide +kernel
theorem dX3_parseLine_31 : decode cX3_parseLine 31 = .ok (.aload_n 0, 1) := by decide +kernel
theorem dX3_parseLine_32 : decode cX3_parseLine 32 = .ok (.iconst 0, 1) := by decide +kernel
theorem dX3_parseLine_33 : decode cX3_parseLine 33 = .ok (.invokevirtual 79, 3) := by decide +kernel
theorem dX3_parseLine_36 : decode cX3_parseLine 36 = .ok (.goto 94, 3) := by decide +kernel
theorem dX3_parseLine_39 : decode cX3_parseLine 39 = .ok (.aload_n 0, 1) := by decide +kernel
theorem dX3_parseLine_40 : decode cX3_parseLine 40 = .ok (.getfield 12, 3) := by decide +kernel
theorem dX3_parseLine_43 : decode cX3_parseLine 43 = .ok (.ldc 83, 2) := by decide +kernel
theorem dX3_parseLine_45 : decode cX3_parseLine 45 = .ok (.invokevirtual 70, 3) := by decide +kernel
theorem dX3_parseLine_48 : decode cX3_parseLine 48 = .ok (.ifCond .eq 11, 3) := by decide +kernel
theorem dX3_parseLine_51 : decode cX3_parseLine 51 = .ok (.aload_n 0, 1) := by decide +kernel
theorem dX3_parseLine_52 : decode cX3_parseLine 52 = .ok (.iconst 1, 1) := by decide +kernel
theorem dX3_parseLine_53 : decode cX3_parseLine 53 = .ok (.invokevirtual 79, 3) := by decide +kernel
theorem dX3_parseLine_56 : decode cX3_parseLine 56 = .ok (.goto 74, 3) := by decide +kernel
theorem dX3_parseLine_59 : decode cX3_parseLine 59 = .ok (.aload_n 0, 1) := by decide +kernel
theorem dX3_parseLine_60 : decode cX3_parseLine 60 = .ok (.getfield 12, 3) := by decide +kernel
theorem dX3_parseLine_63 : decode cX3_parseLine 63 = .ok (.ldc 85, 2) := by decide +kernel
theorem dX3_parseLine_65 : decode cX3_parseLine 65 = .ok (.invokevirtual 70, 3) := by decide +kernel
theorem dX3_parseLine_68 : decode cX3_parseLine 68 = .ok (.ifCond .eq 11, 3) := by decide +kernel
theorem dX3_parseLine_71 : decode cX3_parseLine 71 = .ok (.aload_n 0, 1) := by decide +kernel
theorem dX3_parseLine_72 : decode cX3_parseLine 72 = .ok (.iconst 2, 1) := by decide +kernel
theorem dX3_parseLine_73 : decode cX3_parseLine 73 = .ok (.invokevirtual 79, 3) := by decide +kernel
theorem dX3_parseLine_76 : decode cX3_parseLine 76 = .ok (.goto 54, 3) := by decide +kernel
theorem dX3_parseLine_79 : decode cX3_parseLine 79 = .ok (.aload_n 0, 1) := by decide +kernel
theorem dX3_parseLine_80 : decode cX3_parseLine 80 = .ok (.getfield 12, 3) := by decide +kernel
theorem dX3_parseLine_83 : decode cX3_parseLine 83 = .ok (.ldc 87, 2) := by decide +kernel
theorem dX3_parseLine_85 : decode cX3_parseLine 85 = .ok (.invokevirtual 70, 3) := by decide +kernel
theorem dX3_parseLine_88 : decode cX3_parseLine 88 = .ok (.ifCond .eq 11, 3) := by decide +kernel
theorem dX3_parseLine_91 : decode cX3_parseLine 91 = .ok (.aload_n 0, 1) := by decide +kernel
theorem dX3_parseLine_92 : decode cX3_parseLine 92 = .ok (.iconst 3, 1) := by decide +kernel
theorem dX3_parseLine_93 : decode cX3_parseLine 93 = .ok (.invokevirtual 79, 3) := by decide +kernel
theorem dX3_parseLine_96 : decode cX3_parseLine 96 = .ok (.goto 34, 3) := by decide +kernel
theorem dX3_parseLine_99 : decode cX3_parseLine 99 = .ok (.aload_n 0, 1) := by decide +kernel
theorem dX3_parseLine_100 : decode cX3_parseLine 100 = .ok (.getfield 12, 3) := by decide +kernel
theorem dX3_parseLine_103 : decode cX3_parseLine 103 = .ok (.ldc 89, 2) := by decide +kernel
theorem dX3_parseLine_105 : decode cX3_parseLine 105 = .ok (.invokevirtual 70, 3) := by decide +kernel
theorem dX3_parseLine_108 : decode cX3_parseLine 108 = .ok (.ifCond .eq 10, 3) := by decide +kernel
theorem dX3_parseLine_111 : decode cX3_parseLine 111 = .ok (.aload_n 0, 1) := by decide +kernel
theorem dX3_parseLine_112 : decode cX3_parseLine 112 = .ok (.invokevirtual 91, 3) := by decide +kernel
theorem dX3_parseLine_115 : decode cX3_parseLine 115 = .ok (.goto 15, 3) := by decide +kernel
theorem dX3_parseLine_118 : decode cX3_parseLine 118 = .ok (.aload_n 0, 1) := by decide +kernel
theorem dX3_parseLine_119 : decode cX3_parseLine 119 = .ok (.iconst 2, 1) := by decide +kernel
theorem dX3_parseLine_120 : decode cX3_parseLine 120 = .ok (.aload_n 0, 1) := by decide +kernel
theorem dX3_parseLine_121 : decode cX3_parseLine 121 = .ok (.getfield 12, 3) := by decide +kernel
theorem dX3_parseLine_124 : decode cX3_parseLine 124 = .ok (.getfield 65, 3) := by decide +kernel
theorem dX3_parseLine_127 : decode cX3_parseLine 127 = .ok (.invokevirtual 58, 3) := by decide +kernel
theorem dX3_parseLine_130 : decode cX3_parseLine 130 = .ok (.aload_n 0, 1) := by decide +kernel
theorem dX3_parseLine_131 : decode cX3_parseLine 131 = .ok (.dup, 1) := by decide +kernel
theorem dX3_parseLine_132 : decode cX3_parseLine 132 = .ok (.getfield 32, 3) := by decide +kernel
theorem dX3_parseLine_135 : decode cX3_parseLine 135 = .ok (.iconst 1, 1) := by decide +kernel
theorem dX3_parseLine_136 : decode cX3_parseLine 136 = .ok (.iadd, 1) := by decide +kernel
theorem dX3_parseLine_137 : decode cX3_parseLine 137 = .ok (.putfield 32, 3) := by decide +kernel
theorem dX3_parseLine_140 : decode cX3_parseLine 140 = .ok (.aload_n 0, 1) := by decide +kernel
theorem dX3_parseLine_141 : decode cX3_parseLine 141 = .ok (.invokevirtual 45, 3) := by decide +kernel
theorem dX3_parseLine_144 : decode cX3_parseLine 144 = .ok (.return_, 1) := by decide +kernel
theorem dX3_parseBook_0 : decode cX3_parseBook 0 = .ok (.aload_n 0, 1) := by decide +kernel
theorem dX3_parseBook_1 : decode cX3_parseBook 1 = .ok (.getfield 21, 3) := by decide +kernel
theorem dX3_parseBook_4 : decode cX3_parseBook 4 = .ok (.getfield 94, 3) := by decide +kernel
theorem dX3_parseBook_7 : decode cX3_parseBook 7 = .ok (.bipush 8, 2) := by decide +kernel
theorem dX3_parseBook_9 : decode cX3_parseBook 9 = .ok (.if_icmp .lt 15, 3) := by decide +kernel
theorem dX3_parseBook_12 : decode cX3_parseBook 12 = .ok (.aload_n 0, 1) := by decide +kernel
theorem dX3_parseBook_13 : decode cX3_parseBook 13 = .ok (.iconst 5, 1) := by decide +kernel
theorem dX3_parseBook_14 : decode cX3_parseBook 14 = .ok (.aload_n 0, 1) := by decide +kernel
theorem dX3_parseBook_15 : decode cX3_parseBook 15 = .ok (.getfield 12, 3) := by decide +kernel
theorem dX3_parseBook_18 : decode cX3_parseBook 18 = .ok (.getfield 65, 3) := by decide +kernel
theorem dX3_parseBook_21 : decode cX3_parseBook 21 = .ok (.invokevirtual 58, 3) := by decide +kernel
theorem dX3_parseBook_24 : decode cX3_parseBook 24 = .ok (.aload_n 0, 1) := by decide +kernel
theorem dX3_parseBook_25 : decode cX3_parseBook 25 = .ok (.iconst 0, 1) := by decide +kernel
theorem dX3_parseBook_26 : decode cX3_parseBook 26 = .ok (.bipush 7, 2) := by decide +kernel
theorem dX3_parseBook_28 : decode cX3_parseBook 28 = .ok (.invokevirtual 97, 3) := by decide +kernel
theorem dX3_parseBook_31 : decode cX3_parseBook 31 = .ok (.istore_n 1, 1) := by decide +kernel
theorem dX3_parseBook_32 : decode cX3_parseBook 32 = .ok (.aload_n 0, 1) := by decide +kernel
theorem dX3_parseBook_33 : decode cX3_parseBook 33 = .ok (.iconst 0, 1) := by decide +kernel
theorem dX3_parseBook_34 : decode cX3_parseBook 34 = .ok (.bipush 9, 2) := by decide +kernel
theorem dX3_parseBook_36 : decode cX3_parseBook 36 = .ok (.invokevirtual 97, 3) := by decide +kernel
theorem dX3_parseBook_39 : decode cX3_parseBook 39 = .ok (.istore_n 2, 1) := by decide +kernel
theorem dX3_parseBook_40 : decode cX3_parseBook 40 = .ok (.aload_n 0, 1) := by decide +kernel
theorem dX3_parseBook_41 : decode cX3_parseBook 41 = .ok (.aload_n 0, 1) := by decide +kernel
theorem dX3_parseBook_42 : decode cX3_parseBook 42 = .ok (.iconst 0, 1) := by decide +kernel
theorem dX3_parseBook_43 : decode cX3_parseBook 43 = .ok (.bipush 9, 2) := by decide +kernel
theorem dX3_parseBook_45 : decode cX3_parseBook 45 = .ok (.invokevirtual 97, 3) := by decide +kernel
theorem dX3_parseBook_48 : decode cX3_parseBook 48 = .ok (.invokevirtual 101, 3) := by decide +kernel
theorem dX3_parseBook_51 : decode cX3_parseBook 51 = .ok (.istore_n 3, 1) := by decide +kernel
theorem dX3_parseBook_52 : decode cX3_parseBook 52 = .ok (.aload_n 0, 1) := by decide +kernel
theorem dX3_parseBook_53 : decode cX3_parseBook 53 = .ok (.invokevirtual 105, 3) := by decide +kernel
theorem dX3_parseBook_56 : decode cX3_parseBook 56 = .ok (.aload_n 0, 1) := by decide +kernel
theorem dX3_parseBook_57 : decode cX3_parseBook 57 = .ok (.getfield 21, 3) := by decide +kernel
theorem dX3_parseBook_60 : decode cX3_parseBook 60 = .ok (.iload_n 1, 1) := by decide +kernel
theorem dX3_parseBook_61 : decode cX3_parseBook 61 = .ok (.iload_n 2, 1) := by decide +kernel
theorem dX3_parseBook_62 : decode cX3_parseBook 62 = .ok (.iload_n 3, 1) := by decide +kernel
theorem dX3_parseBook_63 : decode cX3_parseBook 63 = .ok (.invokevirtual 108, 3) := by decide +kernel
theorem dX3_parseBook_66 : decode cX3_parseBook 66 = .ok (.return_, 1) := by decide +kernel
theorem dX3_parseReader_0 : decode cX3_parseReader 0 = .ok (.aload_n 0, 1) := by decide +kernel
theorem dX3_parseReader_1 : decode cX3_parseReader 1 = .ok (.getfield 21, 3) := by decide +kernel
theorem dX3_parseReader_4 : decode cX3_parseReader 4 = .ok (.getfield 112, 3) := by decide +kernel
theorem dX3_parseReader_7 : decode cX3_parseReader 7 = .ok (.iconst 4, 1) := by decide +kernel
theorem dX3_parseReader_8 : decode cX3_parseReader 8 = .ok (.if_icmp .lt 15, 3) := by decide +kernel
theorem dX3_parseReader_11 : decode cX3_parseReader 11 = .ok (.aload_n 0, 1) := by decide +kernel
theorem dX3_parseReader_12 : decode cX3_parseReader 12 = .ok (.iconst 5, 1) := by decide +kernel
theorem dX3_parseReader_13 : decode cX3_parseReader 13 = .ok (.aload_n 0, 1) := by decide +kernel
theorem dX3_parseReader_14 : decode cX3_parseReader 14 = .ok (.getfield 12, 3) := by decide +kernel
theorem dX3_parseReader_17 : decode cX3_parseReader 17 = .ok (.getfield 65, 3) := by decide +kernel
theorem dX3_parseReader_20 : decode cX3_parseReader 20 = .ok (.invokevirtual 58, 3) := by decide +kernel
theorem dX3_parseReader_23 : decode cX3_parseReader 23 = .ok (.aload_n 0, 1) := by decide +kernel
theorem dX3_parseReader_24 : decode cX3_parseReader 24 = .ok (.aload_n 0, 1) := by decide +kernel
theorem dX3_parseReader_25 : decode cX3_parseReader 25 = .ok (.iconst 0, 1) := by decide +kernel
theorem dX3_parseReader_26 : decode cX3_parseReader 26 = .ok (.bipush 9, 2) := by decide +kernel
theorem dX3_parseReader_28 : decode cX3_parseReader 28 = .ok (.invokevirtual 97, 3) := by decide +kernel
theorem dX3_parseReader_31 : decode cX3_parseReader 31 = .ok (.invokevirtual 101, 3) := by decide +kernel
theorem dX3_parseReader_34 : decode cX3_parseReader 34 = .ok (.istore_n 2, 1) := by decide +kernel
theorem dX3_parseReader_35 : decode cX3_parseReader 35 = .ok (.aload_n 0, 1) := by decide +kernel
theorem dX3_parseReader_36 : decode cX3_parseReader 36 = .ok (.iconst 1, 1) := by decide +kernel
theorem dX3_parseReader_37 : decode cX3_parseReader 37 = .ok (.bipush 99, 2) := by decide +kernel
theorem dX3_parseReader_39 : decode cX3_parseReader 39 = .ok (.invokevirtual 97, 3) := by decide +kernel
theorem dX3_parseReader_42 : decode cX3_parseReader 42 = .ok (.istore_n 3, 1) := by decide +kernel
theorem dX3_parseReader_43 : decode cX3_parseReader 43 = .ok (.aload_n 0, 1) := by decide +kernel
theorem dX3_parseReader_44 : decode cX3_parseReader 44 = .ok (.invokevirtual 105, 3) := by decide +kernel
theorem dX3_parseReader_47 : decode cX3_parseReader 47 = .ok (.aload_n 0, 1) := by decide +kernel
theorem dX3_parseReader_48 : decode cX3_parseReader 48 = .ok (.getfield 21, 3) := by decide +kernel
theorem dX3_parseReader_51 : decode cX3_parseReader 51 = .ok (.iload_n 1, 1) := by decide +kernel
theorem dX3_parseReader_52 : decode cX3_parseReader 52 = .ok (.iload_n 2, 1) := by decide +kernel
theorem dX3_parseReader_53 : decode cX3_parseReader 53 = .ok (.iload_n 3, 1) := by decide +kernel
theorem dX3_parseReader_54 : decode cX3_parseReader 54 = .ok (.invokevirtual 115, 3) := by decide +kernel
theorem dX3_parseReader_57 : decode cX3_parseReader 57 = .ok (.return_, 1) := by decide +kernel
theorem dX3_parseSteps_0 : decode cX3_parseSteps 0 = .ok (.aload_n 0, 1) := by decide +kernel
theorem dX3_parseSteps_1 : decode cX3_parseSteps 1 = .ok (.getfield 35, 3) := by decide +kernel
theorem dX3_parseSteps_4 : decode cX3_parseSteps 4 = .ok (.ifCond .eq 15, 3) := by decide +kernel
theorem dX3_parseSteps_7 : decode cX3_parseSteps 7 = .ok (.aload_n 0, 1) := by decide +kernel
theorem dX3_parseSteps_8 : decode cX3_parseSteps 8 = .ok (.iconst 4, 1) := by decide +kernel
theorem dX3_parseSteps_9 : decode cX3_parseSteps 9 = .ok (.aload_n 0, 1) := by decide +kernel
theorem dX3_parseSteps_10 : decode cX3_parseSteps 10 = .ok (.getfield 12, 3) := by decide +kernel
theorem dX3_parseSteps_13 : decode cX3_parseSteps 13 = .ok (.getfield 65, 3) := by decide +kernel
theorem dX3_parseSteps_16 : decode cX3_parseSteps 16 = .ok (.invokevirtual 58, 3) := by decide +kernel
theorem dX3_parseSteps_19 : decode cX3_parseSteps 19 = .ok (.aload_n 0, 1) := by decide +kernel
theorem dX3_parseSteps_20 : decode cX3_parseSteps 20 = .ok (.iconst 1, 1) := by decide +kernel
theorem dX3_parseSteps_21 : decode cX3_parseSteps 21 = .ok (.putfield 35, 3) := by decide +kernel
theorem dX3_parseSteps_24 : decode cX3_parseSteps 24 = .ok (.aload_n 0, 1) := by decide +kernel
theorem dX3_parseSteps_25 : decode cX3_parseSteps 25 = .ok (.getfield 21, 3) := by decide +kernel
theorem dX3_parseSteps_28 : decode cX3_parseSteps 28 = .ok (.aload_n 0, 1) := by decide +kernel
theorem dX3_parseSteps_29 : decode cX3_parseSteps 29 = .ok (.iconst 0, 1) := by decide +kernel
theorem dX3_parseSteps_30 : decode cX3_parseSteps 30 = .ok (.bipush 7, 2) := by decide +kernel
theorem dX3_parseSteps_32 : decode cX3_parseSteps 32 = .ok (.invokevirtual 97, 3) := by decide +kernel
theorem dX3_parseSteps_35 : decode cX3_parseSteps 35 = .ok (.putfield 118, 3) := by decide +kernel
theorem dX3_parseSteps_38 : decode cX3_parseSteps 38 = .ok (.aload_n 0, 1) := by decide +kernel
theorem dX3_parseSteps_39 : decode cX3_parseSteps 39 = .ok (.invokevirtual 105, 3) := by decide +kernel
theorem dX3_parseSteps_42 : decode cX3_parseSteps 42 = .ok (.return_, 1) := by decide +kernel
theorem dX3_takeNumber_0 : decode cX3_takeNumber 0 = .ok (.aload_n 0, 1) := by decide +kernel
theorem dX3_takeNumber_1 : decode cX3_takeNumber 1 = .ok (.invokevirtual 45, 3) := by decide +kernel
theorem dX3_takeNumber_4 : decode cX3_takeNumber 4 = .ok (.aload_n 0, 1) := by decide +kernel
theorem dX3_takeNumber_5 : decode cX3_takeNumber 5 = .ok (.getfield 25, 3) := by decide +kernel
theorem dX3_takeNumber_8 : decode cX3_takeNumber 8 = .ok (.ifCond .eq 5, 3) := by decide +kernel
theorem dX3_takeNumber_11 : decode cX3_takeNumber 11 = .ok (.iload_n 1, 1) := by decide +kernel
theorem dX3_takeNumber_12 : decode cX3_takeNumber 12 = .ok (.ireturn, 1) := by decide +kernel
theorem dX3_takeNumber_13 : decode cX3_takeNumber 13 = .ok (.aload_n 0, 1) := by decide +kernel
theorem dX3_takeNumber_14 : decode cX3_takeNumber 14 = .ok (.getfield 12, 3) := by decide +kernel
theorem dX3_takeNumber_17 : decode cX3_takeNumber 17 = .ok (.getfield 48, 3) := by decide +kernel
theorem dX3_takeNumber_20 : decode cX3_takeNumber 20 = .ok (.iconst 2, 1) := by decide +kernel
theorem dX3_takeNumber_21 : decode cX3_takeNumber 21 = .ok (.if_icmp .eq 17, 3) := by decide +kernel
theorem dX3_takeNumber_24 : decode cX3_takeNumber 24 = .ok (.aload_n 0, 1) := by decide +kernel
theorem dX3_takeNumber_25 : decode cX3_takeNumber 25 = .ok (.iconst 2, 1) := by decide +kernel
theorem dX3_takeNumber_26 : decode cX3_takeNumber 26 = .ok (.aload_n 0, 1) := by decide +kernel
theorem dX3_takeNumber_27 : decode cX3_takeNumber 27 = .ok (.getfield 12, 3) := by decide +kernel
theorem dX3_takeNumber_30 : decode cX3_takeNumber 30 = .ok (.getfield 65, 3) := by decide +kernel
theorem dX3_takeNumber_33 : decode cX3_takeNumber 33 = .ok (.invokevirtual 58, 3) := by decide +kernel
theorem dX3_takeNumber_36 : decode cX3_takeNumber 36 = .ok (.iload_n 1, 1) := by decide +kernel
theorem dX3_takeNumber_37 : decode cX3_takeNumber 37 = .ok (.ireturn, 1) := by decide +kernel
theorem dX3_takeNumber_38 : decode cX3_takeNumber 38 = .ok (.aload_n 0, 1) := by decide +kernel
theorem dX3_takeNumber_39 : decode cX3_takeNumber 39 = .ok (.getfield 12, 3) := by decide +kernel
theorem dX3_takeNumber_42 : decode cX3_takeNumber 42 = .ok (.invokevirtual 121, 3) := by decide +kernel
theorem dX3_takeNumber_45 : decode cX3_takeNumber 45 = .ok (.istore_n 3, 1) := by decide +kernel
theorem dX3_takeNumber_46 : decode cX3_takeNumber 46 = .ok (.iload_n 3, 1) := by decide +kernel
theorem dX3_takeNumber_47 : decode cX3_takeNumber 47 = .ok (.iload_n 1, 1) := by decide +kernel
theorem dX3_takeNumber_48 : decode cX3_takeNumber 48 = .ok (.iload_n 2, 1) := by decide +kernel
theorem dX3_takeNumber_49 : decode cX3_takeNumber 49 = .ok (.invokestatic 125, 3) := by decide +kernel
theorem dX3_takeNumber_52 : decode cX3_takeNumber 52 = .ok (.ifCond .eq 17, 3) := by decide +kernel
theorem dX3_takeNumber_55 : decode cX3_takeNumber 55 = .ok (.aload_n 0, 1) := by decide +kernel
theorem dX3_takeNumber_56 : decode cX3_takeNumber 56 = .ok (.iconst 3, 1) := by decide +kernel
theorem dX3_takeNumber_57 : decode cX3_takeNumber 57 = .ok (.aload_n 0, 1) := by decide +kernel
theorem dX3_takeNumber_58 : decode cX3_takeNumber 58 = .ok (.getfield 12, 3) := by decide +kernel
theorem dX3_takeNumber_61 : decode cX3_takeNumber 61 = .ok (.getfield 65, 3) := by decide +kernel
theorem dX3_takeNumber_64 : decode cX3_takeNumber 64 = .ok (.invokevirtual 58, 3) := by decide +kernel
theorem dX3_takeNumber_67 : decode cX3_takeNumber 67 = .ok (.iload_n 1, 1) := by decide +kernel
theorem dX3_takeNumber_68 : decode cX3_takeNumber 68 = .ok (.ireturn, 1) := by decide +kernel
theorem dX3_takeNumber_69 : decode cX3_takeNumber 69 = .ok (.iload_n 3, 1) := by decide +kernel
theorem dX3_takeNumber_70 : decode cX3_takeNumber 70 = .ok (.ireturn, 1) := by decide +kernel
theorem dX3_bookTold_0 : decode cX3_bookTold 0 = .ok (.iload_n 1, 1) := by decide +kernel
theorem dX3_bookTold_1 : decode cX3_bookTold 1 = .ok (.bipush 9, 2) := by decide +kernel
theorem dX3_bookTold_3 : decode cX3_bookTold 3 = .ok (.if_icmp .ne 6, 3) := by decide +kernel
theorem dX3_bookTold_6 : decode cX3_bookTold 6 = .ok (.bipush (-4), 2) := by decide +kernel
theorem dX3_bookTold_8 : decode cX3_bookTold 8 = .ok (.ireturn, 1) := by decide +kernel
theorem dX3_bookTold_9 : decode cX3_bookTold 9 = .ok (.iload_n 1, 1) := by decide +kernel
theorem dX3_bookTold_10 : decode cX3_bookTold 10 = .ok (.bipush 8, 2) := by decide +kernel
theorem dX3_bookTold_12 : decode cX3_bookTold 12 = .ok (.if_icmp .lt 15, 3) := by decide +kernel
theorem dX3_bookTold_15 : decode cX3_bookTold 15 = .ok (.aload_n 0, 1) := by decide +kernel
theorem dX3_bookTold_16 : decode cX3_bookTold 16 = .ok (.iconst 3, 1) := by decide +kernel
theorem dX3_bookTold_17 : decode cX3_bookTold 17 = .ok (.aload_n 0, 1) := by decide +kernel
theorem dX3_bookTold_18 : decode cX3_bookTold 18 = .ok (.getfield 12, 3) := by decide +kernel
theorem dX3_bookTold_21 : decode cX3_bookTold 21 = .ok (.getfield 65, 3) := by decide +kernel
theorem dX3_bookTold_24 : decode cX3_bookTold 24 = .ok (.invokevirtual 58, 3) := by decide +kernel
theorem dX3_bookTold_27 : decode cX3_bookTold 27 = .ok (.iload_n 1, 1) := by decide +kernel
theorem dX3_bookTold_28 : decode cX3_bookTold 28 = .ok (.ireturn, 1) := by decide +kernel
theorem dX3_takeStop_0 : decode cX3_takeStop 0 = .ok (.aload_n 0, 1) := by decide +kernel
theorem dX3_takeStop_1 : decode cX3_takeStop 1 = .ok (.invokevirtual 45, 3) := by decide +kernel
theorem dX3_takeStop_4 : decode cX3_takeStop 4 = .ok (.aload_n 0, 1) := by decide +kernel
theorem dX3_takeStop_5 : decode cX3_takeStop 5 = .ok (.getfield 25, 3) := by decide +kernel
theorem dX3_takeStop_8 : decode cX3_takeStop 8 = .ok (.ifCond .ne 26, 3) := by decide +kernel
theorem dX3_takeStop_11 : decode cX3_takeStop 11 = .ok (.aload_n 0, 1) := by decide +kernel
theorem dX3_takeStop_12 : decode cX3_takeStop 12 = .ok (.getfield 12, 3) := by decide +kernel
theorem dX3_takeStop_15 : decode cX3_takeStop 15 = .ok (.getfield 48, 3) := by decide +kernel
theorem dX3_takeStop_18 : decode cX3_takeStop 18 = .ok (.iconst 3, 1) := by decide +kernel
theorem dX3_takeStop_19 : decode cX3_takeStop 19 = .ok (.if_icmp .eq 15, 3) := by decide +kernel
theorem dX3_takeStop_22 : decode cX3_takeStop 22 = .ok (.aload_n 0, 1) := by decide +kernel
theorem dX3_takeStop_23 : decode cX3_takeStop 23 = .ok (.iconst 2, 1) := by decide +kernel
theorem dX3_takeStop_24 : decode cX3_takeStop 24 = .ok (.aload_n 0, 1) := by decide +kernel
theorem dX3_takeStop_25 : decode cX3_takeStop 25 = .ok (.getfield 12, 3) := by decide +kernel
theorem dX3_takeStop_28 : decode cX3_takeStop 28 = .ok (.getfield 65, 3) := by decide +kernel
theorem dX3_takeStop_31 : decode cX3_takeStop 31 = .ok (.invokevirtual 58, 3) := by decide +kernel
theorem dX3_takeStop_34 : decode cX3_takeStop 34 = .ok (.return_, 1) := by decide +kernel
theorem dX3_namesMissingBook_0 : decode cX3_namesMissingBook 0 = .ok (.iconst 0, 1) := by decide +kernel
theorem dX3_namesMissingBook_1 : decode cX3_namesMissingBook 1 = .ok (.istore_n 1, 1) := by decide +kernel
theorem dX3_namesMissingBook_2 : decode cX3_namesMissingBook 2 = .ok (.iload_n 1, 1) := by decide +kernel
theorem dX3_namesMissingBook_3 : decode cX3_namesMissingBook 3 = .ok (.aload_n 0, 1) := by decide +kernel
theorem dX3_namesMissingBook_4 : decode cX3_namesMissingBook 4 = .ok (.getfield 21, 3) := by decide +kernel
theorem dX3_namesMissingBook_7 : decode cX3_namesMissingBook 7 = .ok (.getfield 94, 3) := by decide +kernel
theorem dX3_namesMissingBook_10 : decode cX3_namesMissingBook 10 = .ok (.if_icmp .ge 30, 3) := by decide +kernel
theorem dX3_namesMissingBook_13 : decode cX3_namesMissingBook 13 = .ok (.aload_n 0, 1) := by decide +kernel
theorem dX3_namesMissingBook_14 : decode cX3_namesMissingBook 14 = .ok (.getfield 21, 3) := by decide +kernel
theorem dX3_namesMissingBook_17 : decode cX3_namesMissingBook 17 = .ok (.getfield 129, 3) := by decide +kernel
theorem dX3_namesMissingBook_20 : decode cX3_namesMissingBook 20 = .ok (.iload_n 1, 1) := by decide +kernel
theorem dX3_namesMissingBook_21 : decode cX3_namesMissingBook 21 = .ok (.iaload, 1) := by decide +kernel
theorem dX3_namesMissingBook_22 : decode cX3_namesMissingBook 22 = .ok (.aload_n 0, 1) := by decide +kernel
theorem dX3_namesMissingBook_23 : decode cX3_namesMissingBook 23 = .ok (.getfield 21, 3) := by decide +kernel
theorem dX3_namesMissingBook_26 : decode cX3_namesMissingBook 26 = .ok (.getfield 94, 3) := by decide +kernel
theorem dX3_namesMissingBook_29 : decode cX3_namesMissingBook 29 = .ok (.if_icmp .lt 5, 3) := by decide +kernel
theorem dX3_namesMissingBook_32 : decode cX3_namesMissingBook 32 = .ok (.iconst 1, 1) := by decide +kernel
theorem dX3_namesMissingBook_33 : decode cX3_namesMissingBook 33 = .ok (.ireturn, 1) := by decide +kernel
theorem dX3_namesMissingBook_34 : decode cX3_namesMissingBook 34 = .ok (.iinc 1 1, 3) := by decide +kernel
theorem dX3_namesMissingBook_37 : decode cX3_namesMissingBook 37 = .ok (.goto (-35), 3) := by decide +kernel
theorem dX3_namesMissingBook_40 : decode cX3_namesMissingBook 40 = .ok (.iconst 0, 1) := by decide +kernel
theorem dX3_namesMissingBook_41 : decode cX3_namesMissingBook 41 = .ok (.istore_n 1, 1) := by decide +kernel
theorem dX3_namesMissingBook_42 : decode cX3_namesMissingBook 42 = .ok (.iload_n 1, 1) := by decide +kernel
theorem dX3_namesMissingBook_43 : decode cX3_namesMissingBook 43 = .ok (.aload_n 0, 1) := by decide +kernel
theorem dX3_namesMissingBook_44 : decode cX3_namesMissingBook 44 = .ok (.getfield 21, 3) := by decide +kernel
theorem dX3_namesMissingBook_47 : decode cX3_namesMissingBook 47 = .ok (.getfield 112, 3) := by decide +kernel
theorem dX3_namesMissingBook_50 : decode cX3_namesMissingBook 50 = .ok (.if_icmp .ge 30, 3) := by decide +kernel
theorem dX3_namesMissingBook_53 : decode cX3_namesMissingBook 53 = .ok (.aload_n 0, 1) := by decide +kernel
theorem dX3_namesMissingBook_54 : decode cX3_namesMissingBook 54 = .ok (.getfield 21, 3) := by decide +kernel
theorem dX3_namesMissingBook_57 : decode cX3_namesMissingBook 57 = .ok (.getfield 133, 3) := by decide +kernel
theorem dX3_namesMissingBook_60 : decode cX3_namesMissingBook 60 = .ok (.iload_n 1, 1) := by decide +kernel
theorem dX3_namesMissingBook_61 : decode cX3_namesMissingBook 61 = .ok (.iaload, 1) := by decide +kernel
theorem dX3_namesMissingBook_62 : decode cX3_namesMissingBook 62 = .ok (.aload_n 0, 1) := by decide +kernel
theorem dX3_namesMissingBook_63 : decode cX3_namesMissingBook 63 = .ok (.getfield 21, 3) := by decide +kernel
theorem dX3_namesMissingBook_66 : decode cX3_namesMissingBook 66 = .ok (.getfield 94, 3) := by decide +kernel
theorem dX3_namesMissingBook_69 : decode cX3_namesMissingBook 69 = .ok (.if_icmp .lt 5, 3) := by decide +kernel
theorem dX3_namesMissingBook_72 : decode cX3_namesMissingBook 72 = .ok (.iconst 1, 1) := by decide +kernel
theorem dX3_namesMissingBook_73 : decode cX3_namesMissingBook 73 = .ok (.ireturn, 1) := by decide +kernel
theorem dX3_namesMissingBook_74 : decode cX3_namesMissingBook 74 = .ok (.iinc 1 1, 3) := by decide +kernel
theorem dX3_namesMissingBook_77 : decode cX3_namesMissingBook 77 = .ok (.goto (-35), 3) := by decide +kernel
theorem dX3_namesMissingBook_80 : decode cX3_namesMissingBook 80 = .ok (.iconst 0, 1) := by decide +kernel
theorem dX3_namesMissingBook_81 : decode cX3_namesMissingBook 81 = .ok (.ireturn, 1) := by decide +kernel
theorem dX4_init_0 : decode cX4_init 0 = .ok (.aload_n 0, 1) := by decide +kernel
theorem dX4_init_1 : decode cX4_init 1 = .ok (.invokespecial 3, 3) := by decide +kernel
theorem dX4_init_4 : decode cX4_init 4 = .ok (.aload_n 0, 1) := by decide +kernel
theorem dX4_init_5 : decode cX4_init 5 = .ok (.bipush 8, 2) := by decide +kernel
theorem dX4_init_7 : decode cX4_init 7 = .ok (.newarray .int, 2) := by decide +kernel
theorem dX4_init_9 : decode cX4_init 9 = .ok (.putfield 9, 3) := by decide +kernel
theorem dX4_init_12 : decode cX4_init 12 = .ok (.aload_n 0, 1) := by decide +kernel
theorem dX4_init_13 : decode cX4_init 13 = .ok (.bipush 8, 2) := by decide +kernel
theorem dX4_init_15 : decode cX4_init 15 = .ok (.newarray .int, 2) := by decide +kernel
theorem dX4_init_17 : decode cX4_init 17 = .ok (.putfield 15, 3) := by decide +kernel
theorem dX4_init_20 : decode cX4_init 20 = .ok (.aload_n 0, 1) := by decide +kernel
theorem dX4_init_21 : decode cX4_init 21 = .ok (.new 18, 3) := by decide +kernel
theorem dX4_init_24 : decode cX4_init 24 = .ok (.dup, 1) := by decide +kernel
theorem dX4_init_25 : decode cX4_init 25 = .ok (.invokespecial 20, 3) := by decide +kernel
theorem dX4_init_28 : decode cX4_init 28 = .ok (.putfield 21, 3) := by decide +kernel
theorem dX4_init_31 : decode cX4_init 31 = .ok (.return_, 1) := by decide +kernel
theorem dX4_foresee_0 : decode cX4_foresee 0 = .ok (.aload_n 0, 1) := by decide +kernel
theorem dX4_foresee_1 : decode cX4_foresee 1 = .ok (.iload_n 3, 1) := by decide +kernel
theorem dX4_foresee_2 : decode cX4_foresee 2 = .ok (.bipush 8, 2) := by decide +kernel
theorem dX4_foresee_4 : decode cX4_foresee 4 = .ok (.invokestatic 25, 3) := by decide +kernel
theorem dX4_foresee_7 : decode cX4_foresee 7 = .ok (.putfield 31, 3) := by decide +kernel
theorem dX4_foresee_10 : decode cX4_foresee 10 = .ok (.aload_n 2, 1) := by decide +kernel
theorem dX4_foresee_11 : decode cX4_foresee 11 = .ok (.aload_n 1, 1) := by decide +kernel
theorem dX4_foresee_12 : decode cX4_foresee 12 = .ok (.invokevirtual 35, 3) := by decide +kernel
theorem dX4_foresee_15 : decode cX4_foresee 15 = .ok (.iconst 0, 1) := by decide +kernel
theorem dX4_foresee_16 : decode cX4_foresee 16 = .ok (.istore 4, 2) := by decide +kernel
theorem dX4_foresee_18 : decode cX4_foresee 18 = .ok (.iload 4, 2) := by decide +kernel
theorem dX4_foresee_20 : decode cX4_foresee 20 = .ok (.aload_n 0, 1) := by decide +kernel
theorem dX4_foresee_21 : decode cX4_foresee 21 = .ok (.getfield 31, 3) := by decide +kernel
theorem dX4_foresee_24 : decode cX4_foresee 24 = .ok (.if_icmp .ge 74, 3) := by decide +kernel
theorem dX4_foresee_27 : decode cX4_foresee 27 = .ok (.aload_n 2, 1) := by decide +kernel
theorem dX4_foresee_28 : decode cX4_foresee 28 = .ok (.getfield 39, 3) := by decide +kernel
theorem dX4_foresee_31 : decode cX4_foresee 31 = .ok (.istore 5, 2) := by decide +kernel
theorem dX4_foresee_33 : decode cX4_foresee 33 = .ok (.aload_n 0, 1) := by decide +kernel
theorem dX4_foresee_34 : decode cX4_foresee 34 = .ok (.getfield 21, 3) := by decide +kernel
theorem dX4_foresee_37 : decode cX4_foresee 37 = .ok (.aload_n 2, 1) := by decide +kernel
theorem dX4_foresee_38 : decode cX4_foresee 38 = .ok (.invokevirtual 35, 3) := by decide +kernel
theorem dX4_foresee_41 : decode cX4_foresee 41 = .ok (.aload_n 0, 1) := by decide +kernel
theorem dX4_foresee_42 : decode cX4_foresee 42 = .ok (.getfield 21, 3) := by decide +kernel
theorem dX4_foresee_45 : decode cX4_foresee 45 = .ok (.bipush 7, 2) := by decide +kernel
theorem dX4_foresee_47 : decode cX4_foresee 47 = .ok (.putfield 42, 3) := by decide +kernel
theorem dX4_foresee_50 : decode cX4_foresee 50 = .ok (.aload_n 0, 1) := by decide +kernel
theorem dX4_foresee_51 : decode cX4_foresee 51 = .ok (.getfield 21, 3) := by decide +kernel
theorem dX4_foresee_54 : decode cX4_foresee 54 = .ok (.invokevirtual 45, 3) := by decide +kernel
theorem dX4_foresee_57 : decode cX4_foresee 57 = .ok (.aload_n 0, 1) := by decide +kernel
theorem dX4_foresee_58 : decode cX4_foresee 58 = .ok (.getfield 15, 3) := by decide +kernel
theorem dX4_foresee_61 : decode cX4_foresee 61 = .ok (.iload 4, 2) := by decide +kernel
theorem dX4_foresee_63 : decode cX4_foresee 63 = .ok (.aload_n 0, 1) := by decide +kernel
theorem dX4_foresee_64 : decode cX4_foresee 64 = .ok (.getfield 21, 3) := by decide +kernel
theorem dX4_foresee_67 : decode cX4_foresee 67 = .ok (.getfield 39, 3) := by decide +kernel
theorem dX4_foresee_70 : decode cX4_foresee 70 = .ok (.iload 5, 2) := by decide +kernel
theorem dX4_foresee_72 : decode cX4_foresee 72 = .ok (.isub, 1) := by decide +kernel
theorem dX4_foresee_73 : decode cX4_foresee 73 = .ok (.iastore, 1) := by decide +kernel
theorem dX4_foresee_74 : decode cX4_foresee 74 = .ok (.aload_n 2, 1) := by decide +kernel
theorem dX4_foresee_75 : decode cX4_foresee 75 = .ok (.invokevirtual 45, 3) := by decide +kernel
theorem dX4_foresee_78 : decode cX4_foresee 78 = .ok (.aload_n 0, 1) := by decide +kernel
theorem dX4_foresee_79 : decode cX4_foresee 79 = .ok (.getfield 9, 3) := by decide +kernel
theorem dX4_foresee_82 : decode cX4_foresee 82 = .ok (.iload 4, 2) := by decide +kernel
theorem dX4_foresee_84 : decode cX4_foresee 84 = .ok (.aload_n 2, 1) := by decide +kernel
theorem dX4_foresee_85 : decode cX4_foresee 85 = .ok (.getfield 39, 3) := by decide +kernel
theorem dX4_foresee_88 : decode cX4_foresee 88 = .ok (.iload 5, 2) := by decide +kernel
theorem dX4_foresee_90 : decode cX4_foresee 90 = .ok (.isub, 1) := by decide +kernel
theorem dX4_foresee_91 : decode cX4_foresee 91 = .ok (.iastore, 1) := by decide +kernel
theorem dX4_foresee_92 : decode cX4_foresee 92 = .ok (.iinc 4 1, 3) := by decide +kernel
theorem dX4_foresee_95 : decode cX4_foresee 95 = .ok (.goto (-77), 3) := by decide +kernel
theorem dX4_foresee_98 : decode cX4_foresee 98 = .ok (.return_, 1) := by decide +kernel
theorem dX4_weightWithin_0 : decode cX4_weightWithin 0 = .ok (.lconst 0, 1) := by decide +kernel
theorem dX4_weightWithin_1 : decode cX4_weightWithin 1 = .ok (.lstore_n 3, 1) := by decide +kernel
theorem dX4_weightWithin_2 : decode cX4_weightWithin 2 = .ok (.iconst 0, 1) := by decide +kernel
theorem dX4_weightWithin_3 : decode cX4_weightWithin 3 = .ok (.istore 5, 2) := by decide +kernel
theorem dX4_weightWithin_5 : decode cX4_weightWithin 5 = .ok (.iload 5, 2) := by decide +kernel
theorem dX4_weightWithin_7 : decode cX4_weightWithin 7 = .ok (.iconst 1, 1) := by decide +kernel
theorem dX4_weightWithin_8 : decode cX4_weightWithin 8 = .ok (.aload_n 0, 1) := by decide +kernel
theorem dX4_weightWithin_9 : decode cX4_weightWithin 9 = .ok (.getfield 31, 3) := by decide +kernel
theorem dX4_weightWithin_12 : decode cX4_weightWithin 12 = .ok (.ishl, 1) := by decide +kernel
theorem dX4_weightWithin_13 : decode cX4_weightWithin 13 = .ok (.if_icmp .ge 108, 3) := by decide +kernel
theorem dX4_weightWithin_16 : decode cX4_weightWithin 16 = .ok (.iconst 0, 1) := by decide +kernel
theorem dX4_weightWithin_17 : decode cX4_weightWithin 17 = .ok (.istore 6, 2) := by decide +kernel
theorem dX4_weightWithin_19 : decode cX4_weightWithin 19 = .ok (.lconst 1, 1) := by decide +kernel
theorem dX4_weightWithin_20 : decode cX4_weightWithin 20 = .ok (.lstore 7, 2) := by decide +kernel
theorem dX4_weightWithin_22 : decode cX4_weightWithin 22 = .ok (.iconst 0, 1) := by decide +kernel
theorem dX4_weightWithin_23 : decode cX4_weightWithin 23 = .ok (.istore 9, 2) := by decide +kernel
theorem dX4_weightWithin_25 : decode cX4_weightWithin 25 = .ok (.iload 9, 2) := by decide +kernel
theorem dX4_weightWithin_27 : decode cX4_weightWithin 27 = .ok (.aload_n 0, 1) := by decide +kernel
theorem dX4_weightWithin_28 : decode cX4_weightWithin 28 = .ok (.getfield 31, 3) := by decide +kernel
theorem dX4_weightWithin_31 : decode cX4_weightWithin 31 = .ok (.if_icmp .ge 73, 3) := by decide +kernel
theorem dX4_weightWithin_34 : decode cX4_weightWithin 34 = .ok (.iload 5, 2) := by decide +kernel
theorem dX4_weightWithin_36 : decode cX4_weightWithin 36 = .ok (.iload 9, 2) := by decide +kernel
theorem dX4_weightWithin_38 : decode cX4_weightWithin 38 = .ok (.ishr, 1) := by decide +kernel
theorem dX4_weightWithin_39 : decode cX4_weightWithin 39 = .ok (.iconst 1, 1) := by decide +kernel
theorem dX4_weightWithin_40 : decode cX4_weightWithin 40 = .ok (.iand, 1) := by decide +kernel
theorem dX4_weightWithin_41 : decode cX4_weightWithin 41 = .ok (.ifCond .eq 7, 3) := by decide +kernel
theorem dX4_weightWithin_44 : decode cX4_weightWithin 44 = .ok (.iconst 1, 1) := by decide +kernel
theorem dX4_weightWithin_45 : decode cX4_weightWithin 45 = .ok (.goto 4, 3) := by decide +kernel
theorem dX4_weightWithin_48 : decode cX4_weightWithin 48 = .ok (.iconst 0, 1) := by decide +kernel
theorem dX4_weightWithin_49 : decode cX4_weightWithin 49 = .ok (.istore 10, 2) := by decide +kernel
theorem dX4_weightWithin_51 : decode cX4_weightWithin 51 = .ok (.iload 6, 2) := by decide +kernel
theorem dX4_weightWithin_53 : decode cX4_weightWithin 53 = .ok (.iload 10, 2) := by decide +kernel
theorem dX4_weightWithin_55 : decode cX4_weightWithin 55 = .ok (.ifCond .eq 13, 3) := by decide +kernel
theorem dX4_weightWithin_58 : decode cX4_weightWithin 58 = .ok (.aload_n 0, 1) := by decide +kernel
theorem dX4_weightWithin_59 : decode cX4_weightWithin 59 = .ok (.getfield 15, 3) := by decide +kernel
theorem dX4_weightWithin_62 : decode cX4_weightWithin 62 = .ok (.iload 9, 2) := by decide +kernel
theorem dX4_weightWithin_64 : decode cX4_weightWithin 64 = .ok (.iaload, 1) := by decide +kernel
theorem dX4_weightWithin_65 : decode cX4_weightWithin 65 = .ok (.goto 10, 3) := by decide +kernel
theorem dX4_weightWithin_68 : decode cX4_weightWithin 68 = .ok (.aload_n 0, 1) := by decide +kernel
theorem dX4_weightWithin_69 : decode cX4_weightWithin 69 = .ok (.getfield 9, 3) := by decide +kernel
theorem dX4_weightWithin_72 : decode cX4_weightWithin 72 = .ok (.iload 9, 2) := by decide +kernel
theorem dX4_weightWithin_74 : decode cX4_weightWithin 74 = .ok (.iaload, 1) := by decide +kernel
theorem dX4_weightWithin_75 : decode cX4_weightWithin 75 = .ok (.iadd, 1) := by decide +kernel
theorem dX4_weightWithin_76 : decode cX4_weightWithin 76 = .ok (.istore 6, 2) := by decide +kernel
theorem dX4_weightWithin_78 : decode cX4_weightWithin 78 = .ok (.lload 7, 2) := by decide +kernel
theorem dX4_weightWithin_80 : decode cX4_weightWithin 80 = .ok (.iload 10, 2) := by decide +kernel
theorem dX4_weightWithin_82 : decode cX4_weightWithin 82 = .ok (.ifCond .eq 8, 3) := by decide +kernel
theorem dX4_weightWithin_85 : decode cX4_weightWithin 85 = .ok (.iload_n 1, 1) := by decide +kernel
theorem dX4_weightWithin_86 : decode cX4_weightWithin 86 = .ok (.i2l, 1) := by decide +kernel
theorem dX4_weightWithin_87 : decode cX4_weightWithin 87 = .ok (.goto 8, 3) := by decide +kernel
theorem dX4_weightWithin_90 : decode cX4_weightWithin 90 = .ok (.bipush 10, 2) := by decide +kernel
theorem dX4_weightWithin_92 : decode cX4_weightWithin 92 = .ok (.iload_n 1, 1) := by decide +kernel
theorem dX4_weightWithin_93 : decode cX4_weightWithin 93 = .ok (.isub, 1) := by decide +kernel
theorem dX4_weightWithin_94 : decode cX4_weightWithin 94 = .ok (.i2l, 1) := by decide +kernel
theorem dX4_weightWithin_95 : decode cX4_weightWithin 95 = .ok (.lmul, 1) := by decide +kernel
theorem dX4_weightWithin_96 : decode cX4_weightWithin 96 = .ok (.lstore 7, 2) := by decide +kernel
theorem dX4_weightWithin_98 : decode cX4_weightWithin 98 = .ok (.iinc 9 1, 3) := by decide +kernel
theorem dX4_weightWithin_101 : decode cX4_weightWithin 101 = .ok (.goto (-76), 3) := by decide +kernel
theorem dX4_weightWithin_104 : decode cX4_weightWithin 104 = .ok (.iload 6, 2) := by decide +kernel
theorem dX4_weightWithin_106 : decode cX4_weightWithin 106 = .ok (.iload_n 2, 1) := by decide +kernel
theorem dX4_weightWithin_107 : decode cX4_weightWithin 107 = .ok (.if_icmp .gt 8, 3) := by decide +kernel
theorem dX4_weightWithin_110 : decode cX4_weightWithin 110 = .ok (.lload_n 3, 1) := by decide +kernel
theorem dX4_weightWithin_111 : decode cX4_weightWithin 111 = .ok (.lload 7, 2) := by decide +kernel
theorem dX4_weightWithin_113 : decode cX4_weightWithin 113 = .ok (.ladd, 1) := by decide +kernel
theorem dX4_weightWithin_114 : decode cX4_weightWithin 114 = .ok (.lstore_n 3, 1) := by decide +kernel
theorem dX4_weightWithin_115 : decode cX4_weightWithin 115 = .ok (.iinc 5 1, 3) := by decide +kernel
theorem dX4_weightWithin_118 : decode cX4_weightWithin 118 = .ok (.goto (-113), 3) := by decide +kernel
theorem dX4_weightWithin_121 : decode cX4_weightWithin 121 = .ok (.lload_n 3, 1) := by decide +kernel
theorem dX4_weightWithin_122 : decode cX4_weightWithin 122 = .ok (.lreturn, 1) := by decide +kernel
theorem dX4_tenTimesMean_0 : decode cX4_tenTimesMean 0 = .ok (.lconst 0, 1) := by decide +kernel
theorem dX4_tenTimesMean_1 : decode cX4_tenTimesMean 1 = .ok (.lstore_n 2, 1) := by decide +kernel
theorem dX4_tenTimesMean_2 : decode cX4_tenTimesMean 2 = .ok (.iconst 0, 1) := by decide +kernel
theorem dX4_tenTimesMean_3 : decode cX4_tenTimesMean 3 = .ok (.istore 4, 2) := by decide +kernel
theorem dX4_tenTimesMean_5 : decode cX4_tenTimesMean 5 = .ok (.iload 4, 2) := by decide +kernel
theorem dX4_tenTimesMean_7 : decode cX4_tenTimesMean 7 = .ok (.aload_n 0, 1) := by decide +kernel
theorem dX4_tenTimesMean_8 : decode cX4_tenTimesMean 8 = .ok (.getfield 31, 3) := by decide +kernel
theorem dX4_tenTimesMean_11 : decode cX4_tenTimesMean 11 = .ok (.if_icmp .ge 38, 3) := by decide +kernel
theorem dX4_tenTimesMean_14 : decode cX4_tenTimesMean 14 = .ok (.lload_n 2, 1) := by decide +kernel
theorem dX4_tenTimesMean_15 : decode cX4_tenTimesMean 15 = .ok (.iload_n 1, 1) := by decide +kernel
theorem dX4_tenTimesMean_16 : decode cX4_tenTimesMean 16 = .ok (.i2l, 1) := by decide +kernel
theorem dX4_tenTimesMean_17 : decode cX4_tenTimesMean 17 = .ok (.aload_n 0, 1) := by decide +kernel
theorem dX4_tenTimesMean_18 : decode cX4_tenTimesMean 18 = .ok (.getfield 15, 3) := by decide +kernel
theorem dX4_tenTimesMean_21 : decode cX4_tenTimesMean 21 = .ok (.iload 4, 2) := by decide +kernel
theorem dX4_tenTimesMean_23 : decode cX4_tenTimesMean 23 = .ok (.iaload, 1) := by decide +kernel
theorem dX4_tenTimesMean_24 : decode cX4_tenTimesMean 24 = .ok (.i2l, 1) := by decide +kernel
theorem dX4_tenTimesMean_25 : decode cX4_tenTimesMean 25 = .ok (.lmul, 1) := by decide +kernel
theorem dX4_tenTimesMean_26 : decode cX4_tenTimesMean 26 = .ok (.bipush 10, 2) := by decide +kernel
theorem dX4_tenTimesMean_28 : decode cX4_tenTimesMean 28 = .ok (.iload_n 1, 1) := by decide +kernel
theorem dX4_tenTimesMean_29 : decode cX4_tenTimesMean 29 = .ok (.isub, 1) := by decide +kernel
theorem dX4_tenTimesMean_30 : decode cX4_tenTimesMean 30 = .ok (.i2l, 1) := by decide +kernel
theorem dX4_tenTimesMean_31 : decode cX4_tenTimesMean 31 = .ok (.aload_n 0, 1) := by decide +kernel
theorem dX4_tenTimesMean_32 : decode cX4_tenTimesMean 32 = .ok (.getfield 9, 3) := by decide +kernel
theorem dX4_tenTimesMean_35 : decode cX4_tenTimesMean 35 = .ok (.iload 4, 2) := by decide +kernel
theorem dX4_tenTimesMean_37 : decode cX4_tenTimesMean 37 = .ok (.iaload, 1) := by decide +kernel
theorem dX4_tenTimesMean_38 : decode cX4_tenTimesMean 38 = .ok (.i2l, 1) := by decide +kernel
theorem dX4_tenTimesMean_39 : decode cX4_tenTimesMean 39 = .ok (.lmul, 1) := by decide +kernel
theorem dX4_tenTimesMean_40 : decode cX4_tenTimesMean 40 = .ok (.ladd, 1) := by decide +kernel
theorem dX4_tenTimesMean_41 : decode cX4_tenTimesMean 41 = .ok (.ladd, 1) := by decide +kernel
theorem dX4_tenTimesMean_42 : decode cX4_tenTimesMean 42 = .ok (.lstore_n 2, 1) := by decide +kernel
theorem dX4_tenTimesMean_43 : decode cX4_tenTimesMean 43 = .ok (.iinc 4 1, 3) := by decide +kernel
theorem dX4_tenTimesMean_46 : decode cX4_tenTimesMean 46 = .ok (.goto (-41), 3) := by decide +kernel
theorem dX4_tenTimesMean_49 : decode cX4_tenTimesMean 49 = .ok (.lload_n 2, 1) := by decide +kernel
theorem dX4_tenTimesMean_50 : decode cX4_tenTimesMean 50 = .ok (.lreturn, 1) := by decide +kernel
theorem dX5_init_0 : decode cX5_init 0 = .ok (.aload_n 0, 1) := by decide +kernel
theorem dX5_init_1 : decode cX5_init 1 = .ok (.invokespecial 3, 3) := by decide +kernel
theorem dX5_init_4 : decode cX5_init 4 = .ok (.aload_n 0, 1) := by decide +kernel
theorem dX5_init_5 : decode cX5_init 5 = .ok (.bipush (-4), 2) := by decide +kernel
theorem dX5_init_7 : decode cX5_init 7 = .ok (.putfield 9, 3) := by decide +kernel
theorem dX5_init_10 : decode cX5_init 10 = .ok (.aload_n 0, 1) := by decide +kernel
theorem dX5_init_11 : decode cX5_init 11 = .ok (.bipush 40, 2) := by decide +kernel
theorem dX5_init_13 : decode cX5_init 13 = .ok (.newarray .int, 2) := by decide +kernel
theorem dX5_init_15 : decode cX5_init 15 = .ok (.putfield 15, 3) := by decide +kernel
theorem dX5_init_18 : decode cX5_init 18 = .ok (.return_, 1) := by decide +kernel
theorem dX5_renew_0 : decode cX5_renew 0 = .ok (.aload_n 0, 1) := by decide +kernel
theorem dX5_renew_1 : decode cX5_renew 1 = .ok (.iload_n 1, 1) := by decide +kernel
theorem dX5_renew_2 : decode cX5_renew 2 = .ok (.putfield 9, 3) := by decide +kernel
theorem dX5_renew_5 : decode cX5_renew 5 = .ok (.aload_n 0, 1) := by decide +kernel
theorem dX5_renew_6 : decode cX5_renew 6 = .ok (.iload_n 2, 1) := by decide +kernel
theorem dX5_renew_7 : decode cX5_renew 7 = .ok (.putfield 19, 3) := by decide +kernel
theorem dX5_renew_10 : decode cX5_renew 10 = .ok (.iconst 0, 1) := by decide +kernel
theorem dX5_renew_11 : decode cX5_renew 11 = .ok (.istore_n 3, 1) := by decide +kernel
theorem dX5_renew_12 : decode cX5_renew 12 = .ok (.iload_n 3, 1) := by decide +kernel
theorem dX5_renew_13 : decode cX5_renew 13 = .ok (.bipush 40, 2) := by decide +kernel
theorem dX5_renew_15 : decode cX5_renew 15 = .ok (.if_icmp .ge 16, 3) := by decide +kernel
theorem dX5_renew_18 : decode cX5_renew 18 = .ok (.aload_n 0, 1) := by decide +kernel
theorem dX5_renew_19 : decode cX5_renew 19 = .ok (.getfield 15, 3) := by decide +kernel
theorem dX5_renew_22 : decode cX5_renew 22 = .ok (.iload_n 3, 1) := by decide +kernel
theorem dX5_renew_23 : decode cX5_renew 23 = .ok (.iconst 0, 1) := by decide +kernel
theorem dX5_renew_24 : decode cX5_renew 24 = .ok (.iastore, 1) := by decide +kernel
theorem dX5_renew_25 : decode cX5_renew 25 = .ok (.iinc 3 1, 3) := by decide +kernel
theorem dX5_renew_28 : decode cX5_renew 28 = .ok (.goto (-16), 3) := by decide +kernel
theorem dX5_renew_31 : decode cX5_renew 31 = .ok (.return_, 1) := by decide +kernel
theorem dX5_faultAt_0 : decode cX5_faultAt 0 = .ok (.aload_n 0, 1) := by decide +kernel
theorem dX5_faultAt_1 : decode cX5_faultAt 1 = .ok (.getfield 9, 3) := by decide +kernel
theorem dX5_faultAt_4 : decode cX5_faultAt 4 = .ok (.bipush (-4), 2) := by decide +kernel
theorem dX5_faultAt_6 : decode cX5_faultAt 6 = .ok (.if_icmp .ne 5, 3) := by decide +kernel
theorem dX5_faultAt_9 : decode cX5_faultAt 9 = .ok (.iconst 1, 1) := by decide +kernel
theorem dX5_faultAt_10 : decode cX5_faultAt 10 = .ok (.ireturn, 1) := by decide +kernel
theorem dX5_faultAt_11 : decode cX5_faultAt 11 = .ok (.aload_n 0, 1) := by decide +kernel
theorem dX5_faultAt_12 : decode cX5_faultAt 12 = .ok (.getfield 9, 3) := by decide +kernel
theorem dX5_faultAt_15 : decode cX5_faultAt 15 = .ok (.iload_n 1, 1) := by decide +kernel
theorem dX5_faultAt_16 : decode cX5_faultAt 16 = .ok (.if_icmp .eq 5, 3) := by decide +kernel
theorem dX5_faultAt_19 : decode cX5_faultAt 19 = .ok (.iconst 3, 1) := by decide +kernel
theorem dX5_faultAt_20 : decode cX5_faultAt 20 = .ok (.ireturn, 1) := by decide +kernel
theorem dX5_faultAt_21 : decode cX5_faultAt 21 = .ok (.iload_n 2, 1) := by decide +kernel
theorem dX5_faultAt_22 : decode cX5_faultAt 22 = .ok (.iconst 0, 1) := by decide +kernel
theorem dX5_faultAt_23 : decode cX5_faultAt 23 = .ok (.aload_n 0, 1) := by decide +kernel
theorem dX5_faultAt_24 : decode cX5_faultAt 24 = .ok (.getfield 19, 3) := by decide +kernel
theorem dX5_faultAt_27 : decode cX5_faultAt 27 = .ok (.iconst 1, 1) := by decide +kernel
theorem dX5_faultAt_28 : decode cX5_faultAt 28 = .ok (.isub, 1) := by decide +kernel
theorem dX5_faultAt_29 : decode cX5_faultAt 29 = .ok (.invokestatic 22, 3) := by decide +kernel
theorem dX5_faultAt_32 : decode cX5_faultAt 32 = .ok (.ifCond .eq 7, 3) := by decide +kernel
theorem dX5_faultAt_35 : decode cX5_faultAt 35 = .ok (.iconst 2, 1) := by decide +kernel
theorem dX5_faultAt_36 : decode cX5_faultAt 36 = .ok (.goto 4, 3) := by decide +kernel
theorem dX5_faultAt_39 : decode cX5_faultAt 39 = .ok (.iconst 0, 1) := by decide +kernel
theorem dX5_faultAt_40 : decode cX5_faultAt 40 = .ok (.ireturn, 1) := by decide +kernel
theorem dX5_faultOfPair_0 : decode cX5_faultOfPair 0 = .ok (.aload_n 0, 1) := by decide +kernel
theorem dX5_faultOfPair_1 : decode cX5_faultOfPair 1 = .ok (.iload_n 1, 1) := by decide +kernel
theorem dX5_faultOfPair_2 : decode cX5_faultOfPair 2 = .ok (.iload_n 2, 1) := by decide +kernel
theorem dX5_faultOfPair_3 : decode cX5_faultOfPair 3 = .ok (.invokevirtual 26, 3) := by decide +kernel
theorem dX5_faultOfPair_6 : decode cX5_faultOfPair 6 = .ok (.istore_n 3, 1) := by decide +kernel
theorem dX5_faultOfPair_7 : decode cX5_faultOfPair 7 = .ok (.iload_n 3, 1) := by decide +kernel
theorem dX5_faultOfPair_8 : decode cX5_faultOfPair 8 = .ok (.ifCond .eq 7, 3) := by decide +kernel
theorem dX5_faultOfPair_11 : decode cX5_faultOfPair 11 = .ok (.iload_n 3, 1) := by decide +kernel
theorem dX5_faultOfPair_12 : decode cX5_faultOfPair 12 = .ok (.goto 11, 3) := by decide +kernel
theorem dX5_faultOfPair_15 : decode cX5_faultOfPair 15 = .ok (.aload_n 0, 1) := by decide +kernel
theorem dX5_faultOfPair_16 : decode cX5_faultOfPair 16 = .ok (.iload_n 1, 1) := by decide +kernel
theorem dX5_faultOfPair_17 : decode cX5_faultOfPair 17 = .ok (.iload_n 2, 1) := by decide +kernel
theorem dX5_faultOfPair_18 : decode cX5_faultOfPair 18 = .ok (.iconst 1, 1) := by decide +kernel
theorem dX5_faultOfPair_19 : decode cX5_faultOfPair 19 = .ok (.iadd, 1) := by decide +kernel
theorem dX5_faultOfPair_20 : decode cX5_faultOfPair 20 = .ok (.invokevirtual 26, 3) := by decide +kernel
theorem dX5_faultOfPair_23 : decode cX5_faultOfPair 23 = .ok (.ireturn, 1) := by decide +kernel
theorem dX5_put_0 : decode cX5_put 0 = .ok (.aload_n 0, 1) := by decide +kernel
theorem dX5_put_1 : decode cX5_put 1 = .ok (.getfield 9, 3) := by decide +kernel
theorem dX5_put_4 : decode cX5_put 4 = .ok (.lookupswitch 50 #[(0, 28), (1, 39)], 28) := by decide +kernel
theorem dX5_put_32 : decode cX5_put 32 = .ok (.aload_n 0, 1) := by decide +kernel
theorem dX5_put_33 : decode cX5_put 33 = .ok (.getfield 15, 3) := by decide +kernel
theorem dX5_put_36 : decode cX5_put 36 = .ok (.iload_n 1, 1) := by decide +kernel
theorem dX5_put_37 : decode cX5_put 37 = .ok (.iload_n 2, 1) := by decide +kernel
theorem dX5_put_38 : decode cX5_put 38 = .ok (.i2b, 1) := by decide +kernel
theorem dX5_put_39 : decode cX5_put 39 = .ok (.iastore, 1) := by decide +kernel
theorem dX5_put_40 : decode cX5_put 40 = .ok (.goto 21, 3) := by decide +kernel
theorem dX5_put_43 : decode cX5_put 43 = .ok (.aload_n 0, 1) := by decide +kernel
theorem dX5_put_44 : decode cX5_put 44 = .ok (.getfield 15, 3) := by decide +kernel
theorem dX5_put_47 : decode cX5_put 47 = .ok (.iload_n 1, 1) := by decide +kernel
theorem dX5_put_48 : decode cX5_put 48 = .ok (.iload_n 2, 1) := by decide +kernel
theorem dX5_put_49 : decode cX5_put 49 = .ok (.i2s, 1) := by decide +kernel
theorem dX5_put_50 : decode cX5_put 50 = .ok (.iastore, 1) := by decide +kernel
theorem dX5_put_51 : decode cX5_put 51 = .ok (.goto 10, 3) := by decide +kernel
theorem dX5_put_54 : decode cX5_put 54 = .ok (.aload_n 0, 1) := by decide +kernel
theorem dX5_put_55 : decode cX5_put 55 = .ok (.getfield 15, 3) := by decide +kernel
theorem dX5_put_58 : decode cX5_put 58 = .ok (.iload_n 1, 1) := by decide +kernel
theorem dX5_put_59 : decode cX5_put 59 = .ok (.iload_n 2, 1) := by decide +kernel
theorem dX5_put_60 : decode cX5_put 60 = .ok (.iastore, 1) := by decide +kernel
theorem dX5_put_61 : decode cX5_put 61 = .ok (.return_, 1) := by decide +kernel
theorem dX6_init_0 : decode cX6_init 0 = .ok (.aload_n 0, 1) := by decide +kernel
theorem dX6_init_1 : decode cX6_init 1 = .ok (.invokespecial 3, 3) := by decide +kernel
theorem dX6_init_4 : decode cX6_init 4 = .ok (.aload_n 0, 1) := by decide +kernel
theorem dX6_init_5 : decode cX6_init 5 = .ok (.bipush 6, 2) := by decide +kernel
theorem dX6_init_7 : decode cX6_init 7 = .ok (.newarray .int, 2) := by decide +kernel
theorem dX6_init_9 : decode cX6_init 9 = .ok (.putfield 9, 3) := by decide +kernel
theorem dX6_init_12 : decode cX6_init 12 = .ok (.aload_n 0, 1) := by decide +kernel
theorem dX6_init_13 : decode cX6_init 13 = .ok (.bipush 6, 2) := by decide +kernel
theorem dX6_init_15 : decode cX6_init 15 = .ok (.newarray .int, 2) := by decide +kernel
theorem dX6_init_17 : decode cX6_init 17 = .ok (.putfield 15, 3) := by decide +kernel
theorem dX6_init_20 : decode cX6_init 20 = .ok (.aload_n 0, 1) := by decide +kernel
theorem dX6_init_21 : decode cX6_init 21 = .ok (.bipush 6, 2) := by decide +kernel
theorem dX6_init_23 : decode cX6_init 23 = .ok (.newarray .int, 2) := by decide +kernel
theorem dX6_init_25 : decode cX6_init 25 = .ok (.putfield 18, 3) := by decide +kernel
theorem dX6_init_28 : decode cX6_init 28 = .ok (.return_, 1) := by decide +kernel
theorem dX6_put_0 : decode cX6_put 0 = .ok (.aload_n 0, 1) := by decide +kernel
theorem dX6_put_1 : decode cX6_put 1 = .ok (.getfield 21, 3) := by decide +kernel
theorem dX6_put_4 : decode cX6_put 4 = .ok (.bipush 6, 2) := by decide +kernel
theorem dX6_put_6 : decode cX6_put 6 = .ok (.if_icmp .ge 43, 3) := by decide +kernel
theorem dX6_put_9 : decode cX6_put 9 = .ok (.aload_n 0, 1) := by decide +kernel
theorem dX6_put_10 : decode cX6_put 10 = .ok (.getfield 9, 3) := by decide +kernel
theorem dX6_put_13 : decode cX6_put 13 = .ok (.aload_n 0, 1) := by decide +kernel
theorem dX6_put_14 : decode cX6_put 14 = .ok (.getfield 21, 3) := by decide +kernel
theorem dX6_put_17 : decode cX6_put 17 = .ok (.iload_n 1, 1) := by decide +kernel
theorem dX6_put_18 : decode cX6_put 18 = .ok (.iastore, 1) := by decide +kernel
theorem dX6_put_19 : decode cX6_put 19 = .ok (.aload_n 0, 1) := by decide +kernel
theorem dX6_put_20 : decode cX6_put 20 = .ok (.getfield 15, 3) := by decide +kernel
theorem dX6_put_23 : decode cX6_put 23 = .ok (.aload_n 0, 1) := by decide +kernel
theorem dX6_put_24 : decode cX6_put 24 = .ok (.getfield 21, 3) := by decide +kernel
theorem dX6_put_27 : decode cX6_put 27 = .ok (.iload_n 2, 1) := by decide +kernel
theorem dX6_put_28 : decode cX6_put 28 = .ok (.iastore, 1) := by decide +kernel
theorem dX6_put_29 : decode cX6_put 29 = .ok (.aload_n 0, 1) := by decide +kernel
theorem dX6_put_30 : decode cX6_put 30 = .ok (.getfield 18, 3) := by decide +kernel
theorem dX6_put_33 : decode cX6_put 33 = .ok (.aload_n 0, 1) := by decide +kernel
theorem dX6_put_34 : decode cX6_put 34 = .ok (.getfield 21, 3) := by decide +kernel
theorem dX6_put_37 : decode cX6_put 37 = .ok (.iload_n 3, 1) := by decide +kernel
theorem dX6_put_38 : decode cX6_put 38 = .ok (.iastore, 1) := by decide +kernel
theorem dX6_put_39 : decode cX6_put 39 = .ok (.aload_n 0, 1) := by decide +kernel
theorem dX6_put_40 : decode cX6_put 40 = .ok (.dup, 1) := by decide +kernel
theorem dX6_put_41 : decode cX6_put 41 = .ok (.getfield 21, 3) := by decide +kernel
theorem dX6_put_44 : decode cX6_put 44 = .ok (.iconst 1, 1) := by decide +kernel
theorem dX6_put_45 : decode cX6_put 45 = .ok (.iadd, 1) := by decide +kernel
theorem dX6_put_46 : decode cX6_put 46 = .ok (.putfield 21, 3) := by decide +kernel
theorem dX6_put_49 : decode cX6_put 49 = .ok (.return_, 1) := by decide +kernel
theorem dX6_copyFrom_0 : decode cX6_copyFrom 0 = .ok (.aload_n 0, 1) := by decide +kernel
theorem dX6_copyFrom_1 : decode cX6_copyFrom 1 = .ok (.aload_n 1, 1) := by decide +kernel
theorem dX6_copyFrom_2 : decode cX6_copyFrom 2 = .ok (.getfield 21, 3) := by decide +kernel
theorem dX6_copyFrom_5 : decode cX6_copyFrom 5 = .ok (.putfield 21, 3) := by decide +kernel
theorem dX6_copyFrom_8 : decode cX6_copyFrom 8 = .ok (.aload_n 1, 1) := by decide +kernel
theorem dX6_copyFrom_9 : decode cX6_copyFrom 9 = .ok (.getfield 9, 3) := by decide +kernel
theorem dX6_copyFrom_12 : decode cX6_copyFrom 12 = .ok (.iconst 0, 1) := by decide +kernel
theorem dX6_copyFrom_13 : decode cX6_copyFrom 13 = .ok (.aload_n 0, 1) := by decide +kernel
theorem dX6_copyFrom_14 : decode cX6_copyFrom 14 = .ok (.getfield 9, 3) := by decide +kernel
theorem dX6_copyFrom_17 : decode cX6_copyFrom 17 = .ok (.iconst 0, 1) := by decide +kernel
theorem dX6_copyFrom_18 : decode cX6_copyFrom 18 = .ok (.bipush 6, 2) := by decide +kernel
theorem dX6_copyFrom_20 : decode cX6_copyFrom 20 = .ok (.invokestatic 25, 3) := by decide +kernel
theorem dX6_copyFrom_23 : decode cX6_copyFrom 23 = .ok (.aload_n 1, 1) := by decide +kernel
theorem dX6_copyFrom_24 : decode cX6_copyFrom 24 = .ok (.getfield 15, 3) := by decide +kernel
theorem dX6_copyFrom_27 : decode cX6_copyFrom 27 = .ok (.iconst 0, 1) := by decide +kernel
theorem dX6_copyFrom_28 : decode cX6_copyFrom 28 = .ok (.aload_n 0, 1) := by decide +kernel
theorem dX6_copyFrom_29 : decode cX6_copyFrom 29 = .ok (.getfield 15, 3) := by decide +kernel
theorem dX6_copyFrom_32 : decode cX6_copyFrom 32 = .ok (.iconst 0, 1) := by decide +kernel
theorem dX6_copyFrom_33 : decode cX6_copyFrom 33 = .ok (.bipush 6, 2) := by decide +kernel
theorem dX6_copyFrom_35 : decode cX6_copyFrom 35 = .ok (.invokestatic 25, 3) := by decide +kernel
theorem dX6_copyFrom_38 : decode cX6_copyFrom 38 = .ok (.aload_n 1, 1) := by decide +kernel
theorem dX6_copyFrom_39 : decode cX6_copyFrom 39 = .ok (.getfield 18, 3) := by decide +kernel
theorem dX6_copyFrom_42 : decode cX6_copyFrom 42 = .ok (.iconst 0, 1) := by decide +kernel
theorem dX6_copyFrom_43 : decode cX6_copyFrom 43 = .ok (.aload_n 0, 1) := by decide +kernel
theorem dX6_copyFrom_44 : decode cX6_copyFrom 44 = .ok (.getfield 18, 3) := by decide +kernel
theorem dX6_copyFrom_47 : decode cX6_copyFrom 47 = .ok (.iconst 0, 1) := by decide +kernel
theorem dX6_copyFrom_48 : decode cX6_copyFrom 48 = .ok (.bipush 6, 2) := by decide +kernel
theorem dX6_copyFrom_50 : decode cX6_copyFrom 50 = .ok (.invokestatic 25, 3) := by decide +kernel
theorem dX6_copyFrom_53 : decode cX6_copyFrom 53 = .ok (.return_, 1) := by decide +kernel
theorem dX6_agreeWith_0 : decode cX6_agreeWith 0 = .ok (.aload_n 0, 1) := by decide +kernel
theorem dX6_agreeWith_1 : decode cX6_agreeWith 1 = .ok (.invokevirtual 31, 3) := by decide +kernel
theorem dX6_agreeWith_4 : decode cX6_agreeWith 4 = .ok (.istore_n 2, 1) := by decide +kernel
theorem dX6_agreeWith_5 : decode cX6_agreeWith 5 = .ok (.iconst 0, 1) := by decide +kernel
theorem dX6_agreeWith_6 : decode cX6_agreeWith 6 = .ok (.istore_n 3, 1) := by decide +kernel
theorem dX6_agreeWith_7 : decode cX6_agreeWith 7 = .ok (.iload_n 3, 1) := by decide +kernel
theorem dX6_agreeWith_8 : decode cX6_agreeWith 8 = .ok (.iload_n 2, 1) := by decide +kernel
theorem dX6_agreeWith_9 : decode cX6_agreeWith 9 = .ok (.if_icmp .gt 66, 3) := by decide +kernel
theorem dX6_agreeWith_12 : decode cX6_agreeWith 12 = .ok (.iconst 0, 1) := by decide +kernel
theorem dX6_agreeWith_13 : decode cX6_agreeWith 13 = .ok (.istore 4, 2) := by decide +kernel
theorem dX6_agreeWith_15 : decode cX6_agreeWith 15 = .ok (.iload 4, 2) := by decide +kernel
theorem dX6_agreeWith_17 : decode cX6_agreeWith 17 = .ok (.aload_n 0, 1) := by decide +kernel
theorem dX6_agreeWith_18 : decode cX6_agreeWith 18 = .ok (.getfield 21, 3) := by decide +kernel
theorem dX6_agreeWith_21 : decode cX6_agreeWith 21 = .ok (.if_icmp .ge 44, 3) := by decide +kernel
theorem dX6_agreeWith_24 : decode cX6_agreeWith 24 = .ok (.aload_n 0, 1) := by decide +kernel
theorem dX6_agreeWith_25 : decode cX6_agreeWith 25 = .ok (.getfield 9, 3) := by decide +kernel
theorem dX6_agreeWith_28 : decode cX6_agreeWith 28 = .ok (.iload 4, 2) := by decide +kernel
theorem dX6_agreeWith_30 : decode cX6_agreeWith 30 = .ok (.iaload, 1) := by decide +kernel
theorem dX6_agreeWith_31 : decode cX6_agreeWith 31 = .ok (.iload_n 3, 1) := by decide +kernel
theorem dX6_agreeWith_32 : decode cX6_agreeWith 32 = .ok (.if_icmp .ne 27, 3) := by decide +kernel
theorem dX6_agreeWith_35 : decode cX6_agreeWith 35 = .ok (.aload_n 1, 1) := by decide +kernel
theorem dX6_agreeWith_36 : decode cX6_agreeWith 36 = .ok (.getfield 35, 3) := by decide +kernel
theorem dX6_agreeWith_39 : decode cX6_agreeWith 39 = .ok (.aload_n 0, 1) := by decide +kernel
theorem dX6_agreeWith_40 : decode cX6_agreeWith 40 = .ok (.getfield 15, 3) := by decide +kernel
theorem dX6_agreeWith_43 : decode cX6_agreeWith 43 = .ok (.iload 4, 2) := by decide +kernel
theorem dX6_agreeWith_45 : decode cX6_agreeWith 45 = .ok (.iaload, 1) := by decide +kernel
theorem dX6_agreeWith_46 : decode cX6_agreeWith 46 = .ok (.iaload, 1) := by decide +kernel
theorem dX6_agreeWith_47 : decode cX6_agreeWith 47 = .ok (.aload_n 0, 1) := by decide +kernel
theorem dX6_agreeWith_48 : decode cX6_agreeWith 48 = .ok (.getfield 18, 3) := by decide +kernel
theorem dX6_agreeWith_51 : decode cX6_agreeWith 51 = .ok (.iload 4, 2) := by decide +kernel
theorem dX6_agreeWith_53 : decode cX6_agreeWith 53 = .ok (.iaload, 1) := by decide +kernel
theorem dX6_agreeWith_54 : decode cX6_agreeWith 54 = .ok (.if_icmp .eq 5, 3) := by decide +kernel
theorem dX6_agreeWith_57 : decode cX6_agreeWith 57 = .ok (.iconst 0, 1) := by decide +kernel
theorem dX6_agreeWith_58 : decode cX6_agreeWith 58 = .ok (.ireturn, 1) := by decide +kernel
theorem dX6_agreeWith_59 : decode cX6_agreeWith 59 = .ok (.iinc 4 1, 3) := by decide +kernel
theorem dX6_agreeWith_62 : decode cX6_agreeWith 62 = .ok (.goto (-47), 3) := by decide +kernel
theorem dX6_agreeWith_65 : decode cX6_agreeWith 65 = .ok (.aload_n 1, 1) := by decide +kernel
theorem dX6_agreeWith_66 : decode cX6_agreeWith 66 = .ok (.invokevirtual 40, 3) := by decide +kernel
theorem dX6_agreeWith_69 : decode cX6_agreeWith 69 = .ok (.iinc 3 1, 3) := by decide +kernel
theorem dX6_agreeWith_72 : decode cX6_agreeWith 72 = .ok (.goto (-65), 3) := by decide +kernel
theorem dX6_agreeWith_75 : decode cX6_agreeWith 75 = .ok (.iconst 1, 1) := by decide +kernel
theorem dX6_agreeWith_76 : decode cX6_agreeWith 76 = .ok (.ireturn, 1) := by decide +kernel
theorem dX6_lastBehind_0 : decode cX6_lastBehind 0 = .ok (.iconst (-1), 1) := by decide +kernel
theorem dX6_lastBehind_1 : decode cX6_lastBehind 1 = .ok (.istore_n 1, 1) := by decide +kernel
theorem dX6_lastBehind_2 : decode cX6_lastBehind 2 = .ok (.iconst 0, 1) := by decide +kernel
theorem dX6_lastBehind_3 : decode cX6_lastBehind 3 = .ok (.istore_n 2, 1) := by decide +kernel
theorem dX6_lastBehind_4 : decode cX6_lastBehind 4 = .ok (.iload_n 2, 1) := by decide +kernel
theorem dX6_lastBehind_5 : decode cX6_lastBehind 5 = .ok (.aload_n 0, 1) := by decide +kernel
theorem dX6_lastBehind_6 : decode cX6_lastBehind 6 = .ok (.getfield 21, 3) := by decide +kernel
theorem dX6_lastBehind_9 : decode cX6_lastBehind 9 = .ok (.if_icmp .ge 20, 3) := by decide +kernel
theorem dX6_lastBehind_12 : decode cX6_lastBehind 12 = .ok (.iload_n 1, 1) := by decide +kernel
theorem dX6_lastBehind_13 : decode cX6_lastBehind 13 = .ok (.aload_n 0, 1) := by decide +kernel
theorem dX6_lastBehind_14 : decode cX6_lastBehind 14 = .ok (.getfield 9, 3) := by decide +kernel
theorem dX6_lastBehind_17 : decode cX6_lastBehind 17 = .ok (.iload_n 2, 1) := by decide +kernel
theorem dX6_lastBehind_18 : decode cX6_lastBehind 18 = .ok (.iaload, 1) := by decide +kernel
theorem dX6_lastBehind_19 : decode cX6_lastBehind 19 = .ok (.invokestatic 43, 3) := by decide +kernel
theorem dX6_lastBehind_22 : decode cX6_lastBehind 22 = .ok (.istore_n 1, 1) := by decide +kernel
theorem dX6_lastBehind_23 : decode cX6_lastBehind 23 = .ok (.iinc 2 1, 3) := by decide +kernel
theorem dX6_lastBehind_26 : decode cX6_lastBehind 26 = .ok (.goto (-22), 3) := by decide +kernel
theorem dX6_lastBehind_29 : decode cX6_lastBehind 29 = .ok (.iload_n 1, 1) := by decide +kernel
theorem dX6_lastBehind_30 : decode cX6_lastBehind 30 = .ok (.ireturn, 1) := by decide +kernel
theorem dX7_init_0 : decode cX7_init 0 = .ok (.aload_n 0, 1) := by decide +kernel
theorem dX7_init_1 : decode cX7_init 1 = .ok (.invokespecial 3, 3) := by decide +kernel
theorem dX7_init_4 : decode cX7_init 4 = .ok (.aload_n 0, 1) := by decide +kernel
theorem dX7_init_5 : decode cX7_init 5 = .ok (.sipush 160, 3) := by decide +kernel
theorem dX7_init_8 : decode cX7_init 8 = .ok (.newarray .byte, 2) := by decide +kernel
theorem dX7_init_10 : decode cX7_init 10 = .ok (.putfield 9, 3) := by decide +kernel
theorem dX7_init_13 : decode cX7_init 13 = .ok (.return_, 1) := by decide +kernel
theorem dX7_rewind_0 : decode cX7_rewind 0 = .ok (.aload_n 0, 1) := by decide +kernel
theorem dX7_rewind_1 : decode cX7_rewind 1 = .ok (.iconst 0, 1) := by decide +kernel
theorem dX7_rewind_2 : decode cX7_rewind 2 = .ok (.putfield 15, 3) := by decide +kernel
theorem dX7_rewind_5 : decode cX7_rewind 5 = .ok (.aload_n 0, 1) := by decide +kernel
theorem dX7_rewind_6 : decode cX7_rewind 6 = .ok (.iconst 0, 1) := by decide +kernel
theorem dX7_rewind_7 : decode cX7_rewind 7 = .ok (.putfield 19, 3) := by decide +kernel
theorem dX7_rewind_10 : decode cX7_rewind 10 = .ok (.aload_n 0, 1) := by decide +kernel
theorem dX7_rewind_11 : decode cX7_rewind 11 = .ok (.iconst 0, 1) := by decide +kernel
theorem dX7_rewind_12 : decode cX7_rewind 12 = .ok (.putfield 22, 3) := by decide +kernel
theorem dX7_rewind_15 : decode cX7_rewind 15 = .ok (.return_, 1) := by decide +kernel
theorem dX7_advance_0 : decode cX7_advance 0 = .ok (.aload_n 0, 1) := by decide +kernel
theorem dX7_advance_1 : decode cX7_advance 1 = .ok (.aload_n 0, 1) := by decide +kernel
theorem dX7_advance_2 : decode cX7_advance 2 = .ok (.getfield 22, 3) := by decide +kernel
theorem dX7_advance_5 : decode cX7_advance 5 = .ok (.putfield 19, 3) := by decide +kernel
theorem dX7_advance_8 : decode cX7_advance 8 = .ok (.aload_n 0, 1) := by decide +kernel
theorem dX7_advance_9 : decode cX7_advance 9 = .ok (.getfield 19, 3) := by decide +kernel
theorem dX7_advance_12 : decode cX7_advance 12 = .ok (.aload_n 0, 1) := by decide +kernel
theorem dX7_advance_13 : decode cX7_advance 13 = .ok (.getfield 25, 3) := by decide +kernel
theorem dX7_advance_16 : decode cX7_advance 16 = .ok (.if_icmp .ge 30, 3) := by decide +kernel
theorem dX7_advance_19 : decode cX7_advance 19 = .ok (.aload_n 0, 1) := by decide +kernel
theorem dX7_advance_20 : decode cX7_advance 20 = .ok (.getfield 9, 3) := by decide +kernel
theorem dX7_advance_23 : decode cX7_advance 23 = .ok (.aload_n 0, 1) := by decide +kernel
theorem dX7_advance_24 : decode cX7_advance 24 = .ok (.getfield 19, 3) := by decide +kernel
theorem dX7_advance_27 : decode cX7_advance 27 = .ok (.baload, 1) := by decide +kernel
theorem dX7_advance_28 : decode cX7_advance 28 = .ok (.bipush 32, 2) := by decide +kernel
theorem dX7_advance_30 : decode cX7_advance 30 = .ok (.if_icmp .ne 16, 3) := by decide +kernel
theorem dX7_advance_33 : decode cX7_advance 33 = .ok (.aload_n 0, 1) := by decide +kernel
theorem dX7_advance_34 : decode cX7_advance 34 = .ok (.dup, 1) := by decide +kernel
theorem dX7_advance_35 : decode cX7_advance 35 = .ok (.getfield 19, 3) := by decide +kernel
theorem dX7_advance_38 : decode cX7_advance 38 = .ok (.iconst 1, 1) := by decide +kernel
theorem dX7_advance_39 : decode cX7_advance 39 = .ok (.iadd, 1) := by decide +kernel
theorem dX7_advance_40 : decode cX7_advance 40 = .ok (.putfield 19, 3) := by decide +kernel
theorem dX7_advance_43 : decode cX7_advance 43 = .ok (.goto (-35), 3) := by decide +kernel
theorem dX7_advance_46 : decode cX7_advance 46 = .ok (.aload_n 0, 1) := by decide +kernel
theorem dX7_advance_47 : decode cX7_advance 47 = .ok (.aload_n 0, 1) := by decide +kernel
theorem dX7_advance_48 : decode cX7_advance 48 = .ok (.getfield 19, 3) := by decide +kernel
theorem dX7_advance_51 : decode cX7_advance 51 = .ok (.aload_n 0, 1) := by decide +kernel
theorem dX7_advance_52 : decode cX7_advance 52 = .ok (.getfield 25, 3) := by decide +kernel
theorem dX7_advance_55 : decode cX7_advance 55 = .ok (.if_icmp .ge 18, 3) := by decide +kernel
theorem dX7_advance_58 : decode cX7_advance 58 = .ok (.aload_n 0, 1) := by decide +kernel
theorem dX7_advance_59 : decode cX7_advance 59 = .ok (.getfield 9, 3) := by decide +kernel
theorem dX7_advance_62 : decode cX7_advance 62 = .ok (.aload_n 0, 1) := by decide +kernel
theorem dX7_advance_63 : decode cX7_advance 63 = .ok (.getfield 19, 3) := by decide +kernel
theorem dX7_advance_66 : decode cX7_advance 66 = .ok (.baload, 1) := by decide +kernel
theorem dX7_advance_67 : decode cX7_advance 67 = .ok (.invokestatic 28, 3) := by decide +kernel
theorem dX7_advance_70 : decode cX7_advance 70 = .ok (.goto 4, 3) := by decide +kernel
theorem dX7_advance_73 : decode cX7_advance 73 = .ok (.iconst 0, 1) := by decide +kernel
theorem dX7_advance_74 : decode cX7_advance 74 = .ok (.putfield 15, 3) := by decide +kernel
theorem dX7_advance_77 : decode cX7_advance 77 = .ok (.aload_n 0, 1) := by decide +kernel
theorem dX7_advance_78 : decode cX7_advance 78 = .ok (.aload_n 0, 1) := by decide +kernel
theorem dX7_advance_79 : decode cX7_advance 79 = .ok (.getfield 19, 3) := by decide +kernel
theorem dX7_advance_82 : decode cX7_advance 82 = .ok (.aload_n 0, 1) := by decide +kernel
theorem dX7_advance_83 : decode cX7_advance 83 = .ok (.getfield 25, 3) := by decide +kernel
theorem dX7_advance_86 : decode cX7_advance 86 = .ok (.if_icmp .ge 12, 3) := by decide +kernel
theorem dX7_advance_89 : decode cX7_advance 89 = .ok (.aload_n 0, 1) := by decide +kernel
theorem dX7_advance_90 : decode cX7_advance 90 = .ok (.getfield 19, 3) := by decide +kernel
theorem dX7_advance_93 : decode cX7_advance 93 = .ok (.iconst 1, 1) := by decide +kernel
theorem dX7_advance_94 : decode cX7_advance 94 = .ok (.iadd, 1) := by decide +kernel
theorem dX7_advance_95 : decode cX7_advance 95 = .ok (.goto 7, 3) := by decide +kernel
theorem dX7_advance_98 : decode cX7_advance 98 = .ok (.aload_n 0, 1) := by decide +kernel
theorem dX7_advance_99 : decode cX7_advance 99 = .ok (.getfield 19, 3) := by decide +kernel
theorem dX7_advance_102 : decode cX7_advance 102 = .ok (.putfield 22, 3) := by decide +kernel
theorem dX7_advance_105 : decode cX7_advance 105 = .ok (.aload_n 0, 1) := by decide +kernel
theorem dX7_advance_106 : decode cX7_advance 106 = .ok (.getfield 15, 3) := by decide +kernel
theorem dX7_advance_109 : decode cX7_advance 109 = .ok (.iconst 1, 1) := by decide +kernel
theorem dX7_advance_110 : decode cX7_advance 110 = .ok (.if_icmp .eq 11, 3) := by decide +kernel
theorem dX7_advance_113 : decode cX7_advance 113 = .ok (.aload_n 0, 1) := by decide +kernel
theorem dX7_advance_114 : decode cX7_advance 114 = .ok (.getfield 15, 3) := by decide +kernel
theorem dX7_advance_117 : decode cX7_advance 117 = .ok (.iconst 2, 1) := by decide +kernel
theorem dX7_advance_118 : decode cX7_advance 118 = .ok (.if_icmp .ne 7, 3) := by decide +kernel
theorem dX7_advance_121 : decode cX7_advance 121 = .ok (.iconst 1, 1) := by decide +kernel
theorem dX7_advance_122 : decode cX7_advance 122 = .ok (.goto 4, 3) := by decide +kernel
theorem dX7_advance_125 : decode cX7_advance 125 = .ok (.iconst 0, 1) := by decide +kernel
theorem dX7_advance_126 : decode cX7_advance 126 = .ok (.istore_n 1, 1) := by decide +kernel
theorem dX7_advance_127 : decode cX7_advance 127 = .ok (.iload_n 1, 1) := by decide +kernel
theorem dX7_advance_128 : decode cX7_advance 128 = .ok (.ifCond .eq 46, 3) := by decide +kernel
theorem dX7_advance_131 : decode cX7_advance 131 = .ok (.aload_n 0, 1) := by decide +kernel
theorem dX7_advance_132 : decode cX7_advance 132 = .ok (.getfield 22, 3) := by decide +kernel
theorem dX7_advance_135 : decode cX7_advance 135 = .ok (.aload_n 0, 1) := by decide +kernel
theorem dX7_advance_136 : decode cX7_advance 136 = .ok (.getfield 25, 3) := by decide +kernel
theorem dX7_advance_139 : decode cX7_advance 139 = .ok (.if_icmp .ge 35, 3) := by decide +kernel
theorem dX7_advance_142 : decode cX7_advance 142 = .ok (.aload_n 0, 1) := by decide +kernel
theorem dX7_advance_143 : decode cX7_advance 143 = .ok (.getfield 9, 3) := by decide +kernel
theorem dX7_advance_146 : decode cX7_advance 146 = .ok (.aload_n 0, 1) := by decide +kernel
theorem dX7_advance_147 : decode cX7_advance 147 = .ok (.getfield 22, 3) := by decide +kernel
theorem dX7_advance_150 : decode cX7_advance 150 = .ok (.baload, 1) := by decide +kernel
theorem dX7_advance_151 : decode cX7_advance 151 = .ok (.invokestatic 28, 3) := by decide +kernel
theorem dX7_advance_154 : decode cX7_advance 154 = .ok (.aload_n 0, 1) := by decide +kernel
theorem dX7_advance_155 : decode cX7_advance 155 = .ok (.getfield 15, 3) := by decide +kernel
theorem dX7_advance_158 : decode cX7_advance 158 = .ok (.if_icmp .ne 16, 3) := by decide +kernel
theorem dX7_advance_161 : decode cX7_advance 161 = .ok (.aload_n 0, 1) := by decide +kernel
theorem dX7_advance_162 : decode cX7_advance 162 = .ok (.dup, 1) := by decide +kernel
theorem dX7_advance_163 : decode cX7_advance 163 = .ok (.getfield 22, 3) := by decide +kernel
theorem dX7_advance_166 : decode cX7_advance 166 = .ok (.iconst 1, 1) := by decide +kernel
theorem dX7_advance_167 : decode cX7_advance 167 = .ok (.iadd, 1) := by decide +kernel
theorem dX7_advance_168 : decode cX7_advance 168 = .ok (.putfield 22, 3) := by decide +kernel
theorem dX7_advance_171 : decode cX7_advance 171 = .ok (.goto (-44), 3) := by decide +kernel
theorem dX7_advance_174 : decode cX7_advance 174 = .ok (.aload_n 0, 1) := by decide +kernel
theorem dX7_advance_175 : decode cX7_advance 175 = .ok (.getfield 15, 3) := by decide +kernel
theorem dX7_advance_178 : decode cX7_advance 178 = .ok (.iconst 2, 1) := by decide +kernel
theorem dX7_advance_179 : decode cX7_advance 179 = .ok (.if_icmp .ne 21, 3) := by decide +kernel
theorem dX7_advance_182 : decode cX7_advance 182 = .ok (.aload_n 0, 1) := by decide +kernel
theorem dX7_advance_183 : decode cX7_advance 183 = .ok (.getfield 22, 3) := by decide +kernel
theorem dX7_advance_186 : decode cX7_advance 186 = .ok (.aload_n 0, 1) := by decide +kernel
theorem dX7_advance_187 : decode cX7_advance 187 = .ok (.getfield 19, 3) := by decide +kernel
theorem dX7_advance_190 : decode cX7_advance 190 = .ok (.isub, 1) := by decide +kernel
theorem dX7_advance_191 : decode cX7_advance 191 = .ok (.iconst 2, 1) := by decide +kernel
theorem dX7_advance_192 : decode cX7_advance 192 = .ok (.if_icmp .le 8, 3) := by decide +kernel
theorem dX7_advance_195 : decode cX7_advance 195 = .ok (.aload_n 0, 1) := by decide +kernel
theorem dX7_advance_196 : decode cX7_advance 196 = .ok (.iconst 4, 1) := by decide +kernel
theorem dX7_advance_197 : decode cX7_advance 197 = .ok (.putfield 15, 3) := by decide +kernel
theorem dX7_advance_200 : decode cX7_advance 200 = .ok (.return_, 1) := by decide +kernel
theorem dX7_sortOf_0 : decode cX7_sortOf 0 = .ok (.bipush 97, 2) := by decide +kernel
theorem dX7_sortOf_2 : decode cX7_sortOf 2 = .ok (.iload_n 0, 1) := by decide +kernel
theorem dX7_sortOf_3 : decode cX7_sortOf 3 = .ok (.if_icmp .gt 11, 3) := by decide +kernel
theorem dX7_sortOf_6 : decode cX7_sortOf 6 = .ok (.iload_n 0, 1) := by decide +kernel
theorem dX7_sortOf_7 : decode cX7_sortOf 7 = .ok (.bipush 122, 2) := by decide +kernel
theorem dX7_sortOf_9 : decode cX7_sortOf 9 = .ok (.if_icmp .gt 5, 3) := by decide +kernel
theorem dX7_sortOf_12 : decode cX7_sortOf 12 = .ok (.iconst 1, 1) := by decide +kernel
theorem dX7_sortOf_13 : decode cX7_sortOf 13 = .ok (.ireturn, 1) := by decide +kernel
theorem dX7_sortOf_14 : decode cX7_sortOf 14 = .ok (.bipush 48, 2) := by decide +kernel
theorem dX7_sortOf_16 : decode cX7_sortOf 16 = .ok (.iload_n 0, 1) := by decide +kernel
theorem dX7_sortOf_17 : decode cX7_sortOf 17 = .ok (.if_icmp .gt 11, 3) := by decide +kernel
theorem dX7_sortOf_20 : decode cX7_sortOf 20 = .ok (.iload_n 0, 1) := by decide +kernel
theorem dX7_sortOf_21 : decode cX7_sortOf 21 = .ok (.bipush 57, 2) := by decide +kernel
theorem dX7_sortOf_23 : decode cX7_sortOf 23 = .ok (.if_icmp .gt 5, 3) := by decide +kernel
theorem dX7_sortOf_26 : decode cX7_sortOf 26 = .ok (.iconst 2, 1) := by decide +kernel
theorem dX7_sortOf_27 : decode cX7_sortOf 27 = .ok (.ireturn, 1) := by decide +kernel
theorem dX7_sortOf_28 : decode cX7_sortOf 28 = .ok (.iload_n 0, 1) := by decide +kernel
theorem dX7_sortOf_29 : decode cX7_sortOf 29 = .ok (.bipush 59, 2) := by decide +kernel
theorem dX7_sortOf_31 : decode cX7_sortOf 31 = .ok (.if_icmp .ne 7, 3) := by decide +kernel
theorem dX7_sortOf_34 : decode cX7_sortOf 34 = .ok (.iconst 3, 1) := by decide +kernel
theorem dX7_sortOf_35 : decode cX7_sortOf 35 = .ok (.goto 4, 3) := by decide +kernel
theorem dX7_sortOf_38 : decode cX7_sortOf 38 = .ok (.iconst 4, 1) := by decide +kernel
theorem dX7_sortOf_39 : decode cX7_sortOf 39 = .ok (.ireturn, 1) := by decide +kernel
theorem dX7_valueOfNumber_0 : decode cX7_valueOfNumber 0 = .ok (.iconst 0, 1) := by decide +kernel
theorem dX7_valueOfNumber_1 : decode cX7_valueOfNumber 1 = .ok (.istore_n 1, 1) := by decide +kernel
theorem dX7_valueOfNumber_2 : decode cX7_valueOfNumber 2 = .ok (.aload_n 0, 1) := by decide +kernel
theorem dX7_valueOfNumber_3 : decode cX7_valueOfNumber 3 = .ok (.getfield 19, 3) := by decide +kernel
theorem dX7_valueOfNumber_6 : decode cX7_valueOfNumber 6 = .ok (.istore_n 2, 1) := by decide +kernel
theorem dX7_valueOfNumber_7 : decode cX7_valueOfNumber 7 = .ok (.iload_n 2, 1) := by decide +kernel
theorem dX7_valueOfNumber_8 : decode cX7_valueOfNumber 8 = .ok (.aload_n 0, 1) := by decide +kernel
theorem dX7_valueOfNumber_9 : decode cX7_valueOfNumber 9 = .ok (.getfield 22, 3) := by decide +kernel
theorem dX7_valueOfNumber_12 : decode cX7_valueOfNumber 12 = .ok (.if_icmp .ge 24, 3) := by decide +kernel
theorem dX7_valueOfNumber_15 : decode cX7_valueOfNumber 15 = .ok (.bipush 10, 2) := by decide +kernel
theorem dX7_valueOfNumber_17 : decode cX7_valueOfNumber 17 = .ok (.iload_n 1, 1) := by decide +kernel
theorem dX7_valueOfNumber_18 : decode cX7_valueOfNumber 18 = .ok (.imul, 1) := by decide +kernel
theorem dX7_valueOfNumber_19 : decode cX7_valueOfNumber 19 = .ok (.aload_n 0, 1) := by decide +kernel
theorem dX7_valueOfNumber_20 : decode cX7_valueOfNumber 20 = .ok (.getfield 9, 3) := by decide +kernel
theorem dX7_valueOfNumber_23 : decode cX7_valueOfNumber 23 = .ok (.iload_n 2, 1) := by decide +kernel
theorem dX7_valueOfNumber_24 : decode cX7_valueOfNumber 24 = .ok (.baload, 1) := by decide +kernel
theorem dX7_valueOfNumber_25 : decode cX7_valueOfNumber 25 = .ok (.iadd, 1) := by decide +kernel
theorem dX7_valueOfNumber_26 : decode cX7_valueOfNumber 26 = .ok (.bipush 48, 2) := by decide +kernel
theorem dX7_valueOfNumber_28 : decode cX7_valueOfNumber 28 = .ok (.isub, 1) := by decide +kernel
theorem dX7_valueOfNumber_29 : decode cX7_valueOfNumber 29 = .ok (.istore_n 1, 1) := by decide +kernel
theorem dX7_valueOfNumber_30 : decode cX7_valueOfNumber 30 = .ok (.iinc 2 1, 3) := by decide +kernel
theorem dX7_valueOfNumber_33 : decode cX7_valueOfNumber 33 = .ok (.goto (-26), 3) := by decide +kernel
theorem dX7_valueOfNumber_36 : decode cX7_valueOfNumber 36 = .ok (.iload_n 1, 1) := by decide +kernel
theorem dX7_valueOfNumber_37 : decode cX7_valueOfNumber 37 = .ok (.ireturn, 1) := by decide +kernel
theorem dX7_isWord_0 : decode cX7_isWord 0 = .ok (.aload_n 0, 1) := by decide +kernel
theorem dX7_isWord_1 : decode cX7_isWord 1 = .ok (.getfield 15, 3) := by decide +kernel
theorem dX7_isWord_4 : decode cX7_isWord 4 = .ok (.iconst 1, 1) := by decide +kernel
theorem dX7_isWord_5 : decode cX7_isWord 5 = .ok (.if_icmp .ne 19, 3) := by decide +kernel
theorem dX7_isWord_8 : decode cX7_isWord 8 = .ok (.aload_n 0, 1) := by decide +kernel
theorem dX7_isWord_9 : decode cX7_isWord 9 = .ok (.getfield 22, 3) := by decide +kernel
theorem dX7_isWord_12 : decode cX7_isWord 12 = .ok (.aload_n 0, 1) := by decide +kernel
theorem dX7_isWord_13 : decode cX7_isWord 13 = .ok (.getfield 19, 3) := by decide +kernel
theorem dX7_isWord_16 : decode cX7_isWord 16 = .ok (.isub, 1) := by decide +kernel
theorem dX7_isWord_17 : decode cX7_isWord 17 = .ok (.aload_n 1, 1) := by decide +kernel
theorem dX7_isWord_18 : decode cX7_isWord 18 = .ok (.invokevirtual 32, 3) := by decide +kernel
theorem dX7_isWord_21 : decode cX7_isWord 21 = .ok (.if_icmp .eq 5, 3) := by decide +kernel
theorem dX7_isWord_24 : decode cX7_isWord 24 = .ok (.iconst 0, 1) := by decide +kernel
theorem dX7_isWord_25 : decode cX7_isWord 25 = .ok (.ireturn, 1) := by decide +kernel
theorem dX7_isWord_26 : decode cX7_isWord 26 = .ok (.iconst 0, 1) := by decide +kernel
theorem dX7_isWord_27 : decode cX7_isWord 27 = .ok (.istore_n 2, 1) := by decide +kernel
theorem dX7_isWord_28 : decode cX7_isWord 28 = .ok (.iload_n 2, 1) := by decide +kernel
theorem dX7_isWord_29 : decode cX7_isWord 29 = .ok (.aload_n 1, 1) := by decide +kernel
theorem dX7_isWord_30 : decode cX7_isWord 30 = .ok (.invokevirtual 32, 3) := by decide +kernel
theorem dX7_isWord_33 : decode cX7_isWord 33 = .ok (.if_icmp .ge 30, 3) := by decide +kernel
theorem dX7_isWord_36 : decode cX7_isWord 36 = .ok (.aload_n 0, 1) := by decide +kernel
theorem dX7_isWord_37 : decode cX7_isWord 37 = .ok (.getfield 9, 3) := by decide +kernel
theorem dX7_isWord_40 : decode cX7_isWord 40 = .ok (.aload_n 0, 1) := by decide +kernel
theorem dX7_isWord_41 : decode cX7_isWord 41 = .ok (.getfield 19, 3) := by decide +kernel
theorem dX7_isWord_44 : decode cX7_isWord 44 = .ok (.iload_n 2, 1) := by decide +kernel
theorem dX7_isWord_45 : decode cX7_isWord 45 = .ok (.iadd, 1) := by decide +kernel
theorem dX7_isWord_46 : decode cX7_isWord 46 = .ok (.baload, 1) := by decide +kernel
theorem dX7_isWord_47 : decode cX7_isWord 47 = .ok (.aload_n 1, 1) := by decide +kernel
theorem dX7_isWord_48 : decode cX7_isWord 48 = .ok (.iload_n 2, 1) := by decide +kernel
theorem dX7_isWord_49 : decode cX7_isWord 49 = .ok (.invokevirtual 37, 3) := by decide +kernel
theorem dX7_isWord_52 : decode cX7_isWord 52 = .ok (.if_icmp .eq 5, 3) := by decide +kernel
theorem dX7_isWord_55 : decode cX7_isWord 55 = .ok (.iconst 0, 1) := by decide +kernel
theorem dX7_isWord_56 : decode cX7_isWord 56 = .ok (.ireturn, 1) := by decide +kernel
theorem dX7_isWord_57 : decode cX7_isWord 57 = .ok (.iinc 2 1, 3) := by decide +kernel
theorem dX7_isWord_60 : decode cX7_isWord 60 = .ok (.goto (-32), 3) := by decide +kernel
theorem dX7_isWord_63 : decode cX7_isWord 63 = .ok (.iconst 1, 1) := by decide +kernel
theorem dX7_isWord_64 : decode cX7_isWord 64 = .ok (.ireturn, 1) := by decide +kernel
theorem dJ6_bitCount_0f7a4_0 : decode cJ6_bitCount_0f7a4 0 = .ok (.iload_n 0, 1) := by decide +kernel
theorem dJ6_bitCount_0f7a4_1 : decode cJ6_bitCount_0f7a4 1 = .ok (.iload_n 0, 1) := by decide +kernel
theorem dJ6_bitCount_0f7a4_2 : decode cJ6_bitCount_0f7a4 2 = .ok (.iconst 1, 1) := by decide +kernel
theorem dJ6_bitCount_0f7a4_3 : decode cJ6_bitCount_0f7a4 3 = .ok (.iushr, 1) := by decide +kernel
theorem dJ6_bitCount_0f7a4_4 : decode cJ6_bitCount_0f7a4 4 = .ok (.ldc_w 265, 3) := by decide +kernel
theorem dJ6_bitCount_0f7a4_7 : decode cJ6_bitCount_0f7a4 7 = .ok (.iand, 1) := by decide +kernel
theorem dJ6_bitCount_0f7a4_8 : decode cJ6_bitCount_0f7a4 8 = .ok (.isub, 1) := by decide +kernel
theorem dJ6_bitCount_0f7a4_9 : decode cJ6_bitCount_0f7a4 9 = .ok (.istore_n 0, 1) := by decide +kernel
theorem dJ6_bitCount_0f7a4_10 : decode cJ6_bitCount_0f7a4 10 = .ok (.iload_n 0, 1) := by decide +kernel
theorem dJ6_bitCount_0f7a4_11 : decode cJ6_bitCount_0f7a4 11 = .ok (.ldc_w 266, 3) := by decide +kernel
theorem dJ6_bitCount_0f7a4_14 : decode cJ6_bitCount_0f7a4 14 = .ok (.iand, 1) := by decide +kernel
theorem dJ6_bitCount_0f7a4_15 : decode cJ6_bitCount_0f7a4 15 = .ok (.iload_n 0, 1) := by decide +kernel
theorem dJ6_bitCount_0f7a4_16 : decode cJ6_bitCount_0f7a4 16 = .ok (.iconst 2, 1) := by decide +kernel
theorem dJ6_bitCount_0f7a4_17 : decode cJ6_bitCount_0f7a4 17 = .ok (.iushr, 1) := by decide +kernel
theorem dJ6_bitCount_0f7a4_18 : decode cJ6_bitCount_0f7a4 18 = .ok (.ldc_w 266, 3) := by decide +kernel
theorem dJ6_bitCount_0f7a4_21 : decode cJ6_bitCount_0f7a4 21 = .ok (.iand, 1) := by decide +kernel
theorem dJ6_bitCount_0f7a4_22 : decode cJ6_bitCount_0f7a4 22 = .ok (.iadd, 1) := by decide +kernel
theorem dJ6_bitCount_0f7a4_23 : decode cJ6_bitCount_0f7a4 23 = .ok (.istore_n 0, 1) := by decide +kernel
theorem dJ6_bitCount_0f7a4_24 : decode cJ6_bitCount_0f7a4 24 = .ok (.iload_n 0, 1) := by decide +kernel
theorem dJ6_bitCount_0f7a4_25 : decode cJ6_bitCount_0f7a4 25 = .ok (.iload_n 0, 1) := by decide +kernel
theorem dJ6_bitCount_0f7a4_26 : decode cJ6_bitCount_0f7a4 26 = .ok (.iconst 4, 1) := by decide +kernel
theorem dJ6_bitCount_0f7a4_27 : decode cJ6_bitCount_0f7a4 27 = .ok (.iushr, 1) := by decide +kernel
theorem dJ6_bitCount_0f7a4_28 : decode cJ6_bitCount_0f7a4 28 = .ok (.iadd, 1) := by decide +kernel
theorem dJ6_bitCount_0f7a4_29 : decode cJ6_bitCount_0f7a4 29 = .ok (.ldc_w 267, 3) := by decide +kernel
theorem dJ6_bitCount_0f7a4_32 : decode cJ6_bitCount_0f7a4 32 = .ok (.iand, 1) := by decide +kernel
theorem dJ6_bitCount_0f7a4_33 : decode cJ6_bitCount_0f7a4 33 = .ok (.istore_n 0, 1) := by decide +kernel
theorem dJ6_bitCount_0f7a4_34 : decode cJ6_bitCount_0f7a4 34 = .ok (.iload_n 0, 1) := by decide +kernel
theorem dJ6_bitCount_0f7a4_35 : decode cJ6_bitCount_0f7a4 35 = .ok (.iload_n 0, 1) := by decide +kernel
theorem dJ6_bitCount_0f7a4_36 : decode cJ6_bitCount_0f7a4 36 = .ok (.bipush 8, 2) := by decide +kernel
theorem dJ6_bitCount_0f7a4_38 : decode cJ6_bitCount_0f7a4 38 = .ok (.iushr, 1) := by decide +kernel
theorem dJ6_bitCount_0f7a4_39 : decode cJ6_bitCount_0f7a4 39 = .ok (.iadd, 1) := by decide +kernel
theorem dJ6_bitCount_0f7a4_40 : decode cJ6_bitCount_0f7a4 40 = .ok (.istore_n 0, 1) := by decide +kernel
theorem dJ6_bitCount_0f7a4_41 : decode cJ6_bitCount_0f7a4 41 = .ok (.iload_n 0, 1) := by decide +kernel
theorem dJ6_bitCount_0f7a4_42 : decode cJ6_bitCount_0f7a4 42 = .ok (.iload_n 0, 1) := by decide +kernel
theorem dJ6_bitCount_0f7a4_43 : decode cJ6_bitCount_0f7a4 43 = .ok (.bipush 16, 2) := by decide +kernel
theorem dJ6_bitCount_0f7a4_45 : decode cJ6_bitCount_0f7a4 45 = .ok (.iushr, 1) := by decide +kernel
theorem dJ6_bitCount_0f7a4_46 : decode cJ6_bitCount_0f7a4 46 = .ok (.iadd, 1) := by decide +kernel
theorem dJ6_bitCount_0f7a4_47 : decode cJ6_bitCount_0f7a4 47 = .ok (.istore_n 0, 1) := by decide +kernel
theorem dJ6_bitCount_0f7a4_48 : decode cJ6_bitCount_0f7a4 48 = .ok (.iload_n 0, 1) := by decide +kernel
theorem dJ6_bitCount_0f7a4_49 : decode cJ6_bitCount_0f7a4 49 = .ok (.bipush 63, 2) := by decide +kernel
theorem dJ6_bitCount_0f7a4_51 : decode cJ6_bitCount_0f7a4 51 = .ok (.iand, 1) := by decide +kernel
theorem dJ6_bitCount_0f7a4_52 : decode cJ6_bitCount_0f7a4 52 = .ok (.ireturn, 1) := by decide +kernel
theorem dJ9_abs_0f7a4_0 : decode cJ9_abs_0f7a4 0 = .ok (.iload_n 0, 1) := by decide +kernel
theorem dJ9_abs_0f7a4_1 : decode cJ9_abs_0f7a4 1 = .ok (.ifCond .ge 8, 3) := by decide +kernel
theorem dJ9_abs_0f7a4_4 : decode cJ9_abs_0f7a4 4 = .ok (.iload_n 0, 1) := by decide +kernel
theorem dJ9_abs_0f7a4_5 : decode cJ9_abs_0f7a4 5 = .ok (.ineg, 1) := by decide +kernel
theorem dJ9_abs_0f7a4_6 : decode cJ9_abs_0f7a4 6 = .ok (.goto 4, 3) := by decide +kernel
theorem dJ9_abs_0f7a4_9 : decode cJ9_abs_0f7a4 9 = .ok (.iload_n 0, 1) := by decide +kernel
theorem dJ9_abs_0f7a4_10 : decode cJ9_abs_0f7a4 10 = .ok (.ireturn, 1) := by decide +kernel
theorem dJ9_max_7cf53_0 : decode cJ9_max_7cf53 0 = .ok (.iload_n 0, 1) := by decide +kernel
theorem dJ9_max_7cf53_1 : decode cJ9_max_7cf53 1 = .ok (.iload_n 1, 1) := by decide +kernel
theorem dJ9_max_7cf53_2 : decode cJ9_max_7cf53 2 = .ok (.if_icmp .lt 7, 3) := by decide +kernel
theorem dJ9_max_7cf53_5 : decode cJ9_max_7cf53 5 = .ok (.iload_n 0, 1) := by decide +kernel
theorem dJ9_max_7cf53_6 : decode cJ9_max_7cf53 6 = .ok (.goto 4, 3) := by decide +kernel
theorem dJ9_max_7cf53_9 : decode cJ9_max_7cf53 9 = .ok (.iload_n 1, 1) := by decide +kernel
theorem dJ9_max_7cf53_10 : decode cJ9_max_7cf53 10 = .ok (.ireturn, 1) := by decide +kernel
theorem dJ9_min_7cf53_0 : decode cJ9_min_7cf53 0 = .ok (.iload_n 0, 1) := by decide +kernel
theorem dJ9_min_7cf53_1 : decode cJ9_min_7cf53 1 = .ok (.iload_n 1, 1) := by decide +kernel
theorem dJ9_min_7cf53_2 : decode cJ9_min_7cf53 2 = .ok (.if_icmp .gt 7, 3) := by decide +kernel
theorem dJ9_min_7cf53_5 : decode cJ9_min_7cf53 5 = .ok (.iload_n 0, 1) := by decide +kernel
theorem dJ9_min_7cf53_6 : decode cJ9_min_7cf53 6 = .ok (.goto 4, 3) := by decide +kernel
theorem dJ9_min_7cf53_9 : decode cJ9_min_7cf53 9 = .ok (.iload_n 1, 1) := by decide +kernel
theorem dJ9_min_7cf53_10 : decode cJ9_min_7cf53 10 = .ok (.ireturn, 1) := by decide +kernel
theorem dJ0_length_8abf5_0 : decode cJ0_length_8abf5 0 = .ok (.aload_n 0, 1) := by decide +kernel
theorem dJ0_length_8abf5_1 : decode cJ0_length_8abf5 1 = .ok (.getfield 9, 3) := by decide +kernel
theorem dJ0_length_8abf5_4 : decode cJ0_length_8abf5 4 = .ok (.arraylength, 1) := by decide +kernel
theorem dJ0_length_8abf5_5 : decode cJ0_length_8abf5 5 = .ok (.aload_n 0, 1) := by decide +kernel
theorem dJ0_length_8abf5_6 : decode cJ0_length_8abf5 6 = .ok (.invokevirtual 335, 3) := by decide +kernel
theorem dJ0_length_8abf5_9 : decode cJ0_length_8abf5 9 = .ok (.ishr, 1) := by decide +kernel
theorem dJ0_length_8abf5_10 : decode cJ0_length_8abf5 10 = .ok (.ireturn, 1) := by decide +kernel
theorem dJ0_charAt_5068e_0 : decode cJ0_charAt_5068e 0 = .ok (.aload_n 0, 1) := by decide +kernel
theorem dJ0_charAt_5068e_1 : decode cJ0_charAt_5068e 1 = .ok (.invokevirtual 492, 3) := by decide +kernel
theorem dJ0_charAt_5068e_4 : decode cJ0_charAt_5068e 4 = .ok (.ifCond .eq 12, 3) := by decide +kernel
theorem dJ0_charAt_5068e_7 : decode cJ0_charAt_5068e 7 = .ok (.aload_n 0, 1) := by decide +kernel
theorem dJ0_charAt_5068e_8 : decode cJ0_charAt_5068e 8 = .ok (.getfield 9, 3) := by decide +kernel
theorem dJ0_charAt_5068e_11 : decode cJ0_charAt_5068e 11 = .ok (.iload_n 1, 1) := by decide +kernel
theorem dJ0_charAt_5068e_12 : decode cJ0_charAt_5068e 12 = .ok (.invokestatic 495, 3) := by decide +kernel
theorem dJ0_charAt_5068e_15 : decode cJ0_charAt_5068e 15 = .ok (.ireturn, 1) := by decide +kernel
theorem dJ0_charAt_5068e_16 : decode cJ0_charAt_5068e 16 = .ok (.aload_n 0, 1) := by decide +kernel
theorem dJ0_charAt_5068e_17 : decode cJ0_charAt_5068e 17 = .ok (.getfield 9, 3) := by decide +kernel
theorem dJ0_charAt_5068e_20 : decode cJ0_charAt_5068e 20 = .ok (.iload_n 1, 1) := by decide +kernel
theorem dJ0_charAt_5068e_21 : decode cJ0_charAt_5068e 21 = .ok (.invokestatic 498, 3) := by decide +kernel
theorem dJ0_charAt_5068e_24 : decode cJ0_charAt_5068e 24 = .ok (.ireturn, 1) := by decide +kernel
theorem dJ0_coder_7d493_0 : decode cJ0_coder_7d493 0 = .ok (.getstatic 38, 3) := by decide +kernel
theorem dJ0_coder_7d493_3 : decode cJ0_coder_7d493 3 = .ok (.ifCond .eq 10, 3) := by decide +kernel
theorem dJ0_coder_7d493_6 : decode cJ0_coder_7d493 6 = .ok (.aload_n 0, 1) := by decide +kernel
theorem dJ0_coder_7d493_7 : decode cJ0_coder_7d493 7 = .ok (.getfield 15, 3) := by decide +kernel
theorem dJ0_coder_7d493_10 : decode cJ0_coder_7d493 10 = .ok (.goto 4, 3) := by decide +kernel
theorem dJ0_coder_7d493_13 : decode cJ0_coder_7d493 13 = .ok (.iconst 1, 1) := by decide +kernel
theorem dJ0_coder_7d493_14 : decode cJ0_coder_7d493 14 = .ok (.ireturn, 1) := by decide +kernel
theorem dJ0_isLatin1_aae02_0 : decode cJ0_isLatin1_aae02 0 = .ok (.getstatic 38, 3) := by decide +kernel
theorem dJ0_isLatin1_aae02_3 : decode cJ0_isLatin1_aae02 3 = .ok (.ifCond .eq 14, 3) := by decide +kernel
theorem dJ0_isLatin1_aae02_6 : decode cJ0_isLatin1_aae02 6 = .ok (.aload_n 0, 1) := by decide +kernel
theorem dJ0_isLatin1_aae02_7 : decode cJ0_isLatin1_aae02 7 = .ok (.getfield 15, 3) := by decide +kernel
theorem dJ0_isLatin1_aae02_10 : decode cJ0_isLatin1_aae02 10 = .ok (.ifCond .ne 7, 3) := by decide +kernel
theorem dJ0_isLatin1_aae02_13 : decode cJ0_isLatin1_aae02 13 = .ok (.iconst 1, 1) := by decide +kernel
theorem dJ0_isLatin1_aae02_14 : decode cJ0_isLatin1_aae02 14 = .ok (.goto 4, 3) := by decide +kernel
theorem dJ0_isLatin1_aae02_17 : decode cJ0_isLatin1_aae02 17 = .ok (.iconst 0, 1) := by decide +kernel
theorem dJ0_isLatin1_aae02_18 : decode cJ0_isLatin1_aae02 18 = .ok (.ireturn, 1) := by decide +kernel
theorem dJ0_checkIndex_df160_0 : decode cJ0_checkIndex_df160 0 = .ok (.iload_n 0, 1) := by decide +kernel
theorem dJ0_checkIndex_df160_1 : decode cJ0_checkIndex_df160 1 = .ok (.iload_n 1, 1) := by decide +kernel
theorem dJ0_checkIndex_df160_2 : decode cJ0_checkIndex_df160 2 = .ok (.getstatic 1053, 3) := by decide +kernel
theorem dJ0_checkIndex_df160_5 : decode cJ0_checkIndex_df160 5 = .ok (.invokestatic 1059, 3) := by decide +kernel
theorem dJ0_checkIndex_df160_8 : decode cJ0_checkIndex_df160 8 = .ok (.pop, 1) := by decide +kernel
theorem dJ0_checkIndex_df160_9 : decode cJ0_checkIndex_df160 9 = .ok (.return_, 1) := by decide +kernel
theorem dJ1_charAt_3b067_0 : decode cJ1_charAt_3b067 0 = .ok (.iload_n 1, 1) := by decide +kernel
theorem dJ1_charAt_3b067_1 : decode cJ1_charAt_3b067 1 = .ok (.aload_n 0, 1) := by decide +kernel
theorem dJ1_charAt_3b067_2 : decode cJ1_charAt_3b067 2 = .ok (.arraylength, 1) := by decide +kernel
theorem dJ1_charAt_3b067_3 : decode cJ1_charAt_3b067 3 = .ok (.invokestatic 9, 3) := by decide +kernel
theorem dJ1_charAt_3b067_6 : decode cJ1_charAt_3b067 6 = .ok (.aload_n 0, 1) := by decide +kernel
theorem dJ1_charAt_3b067_7 : decode cJ1_charAt_3b067 7 = .ok (.iload_n 1, 1) := by decide +kernel
theorem dJ1_charAt_3b067_8 : decode cJ1_charAt_3b067 8 = .ok (.baload, 1) := by decide +kernel
theorem dJ1_charAt_3b067_9 : decode cJ1_charAt_3b067 9 = .ok (.sipush 255, 3) := by decide +kernel
theorem dJ1_charAt_3b067_12 : decode cJ1_charAt_3b067 12 = .ok (.iand, 1) := by decide +kernel
theorem dJ1_charAt_3b067_13 : decode cJ1_charAt_3b067 13 = .ok (.i2c, 1) := by decide +kernel
theorem dJ1_charAt_3b067_14 : decode cJ1_charAt_3b067 14 = .ok (.ireturn, 1) := by decide +kernel
theorem dJ2_getChar_3b067_0 : decode cJ2_getChar_3b067 0 = .ok (.getstatic 44, 3) := by decide +kernel
theorem dJ2_getChar_3b067_3 : decode cJ2_getChar_3b067 3 = .ok (.ifCond .ne 25, 3) := by decide +kernel
theorem dJ2_getChar_3b067_6 : decode cJ2_getChar_3b067 6 = .ok (.iload_n 1, 1) := by decide +kernel
theorem dJ2_getChar_3b067_7 : decode cJ2_getChar_3b067 7 = .ok (.ifCond .lt 11, 3) := by decide +kernel
theorem dJ2_getChar_3b067_10 : decode cJ2_getChar_3b067 10 = .ok (.iload_n 1, 1) := by decide +kernel
theorem dJ2_getChar_3b067_11 : decode cJ2_getChar_3b067 11 = .ok (.aload_n 0, 1) := by decide +kernel
theorem dJ2_getChar_3b067_12 : decode cJ2_getChar_3b067 12 = .ok (.invokestatic 48, 3) := by decide +kernel
theorem dJ2_getChar_3b067_15 : decode cJ2_getChar_3b067 15 = .ok (.if_icmp .lt 13, 3) := by decide +kernel
theorem dJ2_getChar_3b067_18 : decode cJ2_getChar_3b067 18 = .ok (.new 52, 3) := by decide +kernel
theorem dJ2_getChar_3b067_21 : decode cJ2_getChar_3b067 21 = .ok (.dup, 1) := by decide +kernel
theorem dJ2_getChar_3b067_22 : decode cJ2_getChar_3b067 22 = .ok (.ldc 54, 2) := by decide +kernel
theorem dJ2_getChar_3b067_24 : decode cJ2_getChar_3b067 24 = .ok (.invokespecial 56, 3) := by decide +kernel
theorem dJ2_getChar_3b067_27 : decode cJ2_getChar_3b067 27 = .ok (.athrow, 1) := by decide +kernel
theorem dJ2_getChar_3b067_28 : decode cJ2_getChar_3b067 28 = .ok (.iload_n 1, 1) := by decide +kernel
theorem dJ2_getChar_3b067_29 : decode cJ2_getChar_3b067 29 = .ok (.iconst 1, 1) := by decide +kernel
theorem dJ2_getChar_3b067_30 : decode cJ2_getChar_3b067 30 = .ok (.ishl, 1) := by decide +kernel
theorem dJ2_getChar_3b067_31 : decode cJ2_getChar_3b067 31 = .ok (.istore_n 1, 1) := by decide +kernel
theorem dJ2_getChar_3b067_32 : decode cJ2_getChar_3b067 32 = .ok (.aload_n 0, 1) := by decide +kernel
theorem dJ2_getChar_3b067_33 : decode cJ2_getChar_3b067 33 = .ok (.iload_n 1, 1) := by decide +kernel
theorem dJ2_getChar_3b067_34 : decode cJ2_getChar_3b067 34 = .ok (.iinc 1 1, 3) := by decide +kernel
theorem dJ2_getChar_3b067_37 : decode cJ2_getChar_3b067 37 = .ok (.baload, 1) := by decide +kernel
theorem dJ2_getChar_3b067_38 : decode cJ2_getChar_3b067 38 = .ok (.sipush 255, 3) := by decide +kernel
theorem dJ2_getChar_3b067_41 : decode cJ2_getChar_3b067 41 = .ok (.iand, 1) := by decide +kernel
theorem dJ2_getChar_3b067_42 : decode cJ2_getChar_3b067 42 = .ok (.getstatic 59, 3) := by decide +kernel
theorem dJ2_getChar_3b067_45 : decode cJ2_getChar_3b067 45 = .ok (.ishl, 1) := by decide +kernel
theorem dJ2_getChar_3b067_46 : decode cJ2_getChar_3b067 46 = .ok (.aload_n 0, 1) := by decide +kernel
theorem dJ2_getChar_3b067_47 : decode cJ2_getChar_3b067 47 = .ok (.iload_n 1, 1) := by decide +kernel
theorem dJ2_getChar_3b067_48 : decode cJ2_getChar_3b067 48 = .ok (.baload, 1) := by decide +kernel
theorem dJ2_getChar_3b067_49 : decode cJ2_getChar_3b067 49 = .ok (.sipush 255, 3) := by decide +kernel
theorem dJ2_getChar_3b067_52 : decode cJ2_getChar_3b067 52 = .ok (.iand, 1) := by decide +kernel
theorem dJ2_getChar_3b067_53 : decode cJ2_getChar_3b067 53 = .ok (.getstatic 63, 3) := by decide +kernel
theorem dJ2_getChar_3b067_56 : decode cJ2_getChar_3b067 56 = .ok (.ishl, 1) := by decide +kernel
theorem dJ2_getChar_3b067_57 : decode cJ2_getChar_3b067 57 = .ok (.ior, 1) := by decide +kernel
theorem dJ2_getChar_3b067_58 : decode cJ2_getChar_3b067 58 = .ok (.i2c, 1) := by decide +kernel
theorem dJ2_getChar_3b067_59 : decode cJ2_getChar_3b067 59 = .ok (.ireturn, 1) := by decide +kernel
theorem dJ2_length_9d52b_0 : decode cJ2_length_9d52b 0 = .ok (.aload_n 0, 1) := by decide +kernel
theorem dJ2_length_9d52b_1 : decode cJ2_length_9d52b 1 = .ok (.arraylength, 1) := by decide +kernel
theorem dJ2_length_9d52b_2 : decode cJ2_length_9d52b 2 = .ok (.iconst 1, 1) := by decide +kernel
theorem dJ2_length_9d52b_3 : decode cJ2_length_9d52b 3 = .ok (.ishr, 1) := by decide +kernel
theorem dJ2_length_9d52b_4 : decode cJ2_length_9d52b 4 = .ok (.ireturn, 1) := by decide +kernel
theorem dJ2_charAt_3b067_0 : decode cJ2_charAt_3b067 0 = .ok (.iload_n 1, 1) := by decide +kernel
theorem dJ2_charAt_3b067_1 : decode cJ2_charAt_3b067 1 = .ok (.aload_n 0, 1) := by decide +kernel
theorem dJ2_charAt_3b067_2 : decode cJ2_charAt_3b067 2 = .ok (.invokestatic 67, 3) := by decide +kernel
theorem dJ2_charAt_3b067_5 : decode cJ2_charAt_3b067 5 = .ok (.aload_n 0, 1) := by decide +kernel
theorem dJ2_charAt_3b067_6 : decode cJ2_charAt_3b067 6 = .ok (.iload_n 1, 1) := by decide +kernel
theorem dJ2_charAt_3b067_7 : decode cJ2_charAt_3b067 7 = .ok (.invokestatic 71, 3) := by decide +kernel
theorem dJ2_charAt_3b067_10 : decode cJ2_charAt_3b067 10 = .ok (.ireturn, 1) := by decide +kernel
theorem dJ2_checkIndex_2214a_0 : decode cJ2_checkIndex_2214a 0 = .ok (.iload_n 0, 1) := by decide +kernel
theorem dJ2_checkIndex_2214a_1 : decode cJ2_checkIndex_2214a 1 = .ok (.aload_n 1, 1) := by decide +kernel
theorem dJ2_checkIndex_2214a_2 : decode cJ2_checkIndex_2214a 2 = .ok (.invokestatic 48, 3) := by decide +kernel
theorem dJ2_checkIndex_2214a_5 : decode cJ2_checkIndex_2214a 5 = .ok (.invokestatic 414, 3) := by decide +kernel
theorem dJ2_checkIndex_2214a_8 : decode cJ2_checkIndex_2214a 8 = .ok (.return_, 1) := by decide +kernel
theorem dJ3_checkIndex_8e157_0 : decode cJ3_checkIndex_8e157 0 = .ok (.iload_n 0, 1) := by decide +kernel
theorem dJ3_checkIndex_8e157_1 : decode cJ3_checkIndex_8e157 1 = .ok (.ifCond .lt 8, 3) := by decide +kernel
theorem dJ3_checkIndex_8e157_4 : decode cJ3_checkIndex_8e157 4 = .ok (.iload_n 0, 1) := by decide +kernel
theorem dJ3_checkIndex_8e157_5 : decode cJ3_checkIndex_8e157 5 = .ok (.iload_n 1, 1) := by decide +kernel
theorem dJ3_checkIndex_8e157_6 : decode cJ3_checkIndex_8e157 6 = .ok (.if_icmp .lt 10, 3) := by decide +kernel
theorem dJ3_checkIndex_8e157_9 : decode cJ3_checkIndex_8e157 9 = .ok (.aload_n 2, 1) := by decide +kernel
theorem dJ3_checkIndex_8e157_10 : decode cJ3_checkIndex_8e157 10 = .ok (.iload_n 0, 1) := by decide +kernel
theorem dJ3_checkIndex_8e157_11 : decode cJ3_checkIndex_8e157 11 = .ok (.iload_n 1, 1) := by decide +kernel
theorem dJ3_checkIndex_8e157_12 : decode cJ3_checkIndex_8e157 12 = .ok (.invokestatic 95, 3) := by decide +kernel
theorem dJ3_checkIndex_8e157_15 : decode cJ3_checkIndex_8e157 15 = .ok (.athrow, 1) := by decide +kernel
theorem dJ3_checkIndex_8e157_16 : decode cJ3_checkIndex_8e157 16 = .ok (.iload_n 0, 1) := by decide +kernel
theorem dJ3_checkIndex_8e157_17 : decode cJ3_checkIndex_8e157 17 = .ok (.ireturn, 1) := by decide +kernel
end
section
theorem dX8_init_0 : decode cX8_init 0 = .ok (.aload_n 0, 1) := by decide +kernel
theorem dX8_init_1 : decode cX8_init 1 = .ok (.invokespecial 1, 3) := by decide +kernel
theorem dX8_init_4 : decode cX8_init 4 = .ok (.aload_n 0, 1) := by decide +kernel
theorem dX8_init_5 : decode cX8_init 5 = .ok (.new 7, 3) := by decide +kernel
theorem dX8_init_8 : decode cX8_init 8 = .ok (.dup, 1) := by decide +kernel
theorem dX8_init_9 : decode cX8_init 9 = .ok (.invokespecial 9, 3) := by decide +kernel
theorem dX8_init_12 : decode cX8_init 12 = .ok (.putfield 10, 3) := by decide +kernel
theorem dX8_init_15 : decode cX8_init 15 = .ok (.aload_n 0, 1) := by decide +kernel
theorem dX8_init_16 : decode cX8_init 16 = .ok (.new 7, 3) := by decide +kernel
theorem dX8_init_19 : decode cX8_init 19 = .ok (.dup, 1) := by decide +kernel
theorem dX8_init_20 : decode cX8_init 20 = .ok (.invokespecial 9, 3) := by decide +kernel
theorem dX8_init_23 : decode cX8_init 23 = .ok (.putfield 16, 3) := by decide +kernel
theorem dX8_init_26 : decode cX8_init 26 = .ok (.aload_n 0, 1) := by decide +kernel
theorem dX8_init_27 : decode cX8_init 27 = .ok (.new 19, 3) := by decide +kernel
theorem dX8_init_30 : decode cX8_init 30 = .ok (.dup, 1) := by decide +kernel
theorem dX8_init_31 : decode cX8_init 31 = .ok (.invokespecial 21, 3) := by decide +kernel
theorem dX8_init_34 : decode cX8_init 34 = .ok (.putfield 22, 3) := by decide +kernel
theorem dX8_init_37 : decode cX8_init 37 = .ok (.aload_n 0, 1) := by decide +kernel
theorem dX8_init_38 : decode cX8_init 38 = .ok (.new 26, 3) := by decide +kernel
theorem dX8_init_41 : decode cX8_init 41 = .ok (.dup, 1) := by decide +kernel
theorem dX8_init_42 : decode cX8_init 42 = .ok (.invokespecial 28, 3) := by decide +kernel
theorem dX8_init_45 : decode cX8_init 45 = .ok (.putfield 29, 3) := by decide +kernel
theorem dX8_init_48 : decode cX8_init 48 = .ok (.aload_n 0, 1) := by decide +kernel
theorem dX8_init_49 : decode cX8_init 49 = .ok (.iconst 2, 1) := by decide +kernel
theorem dX8_init_50 : decode cX8_init 50 = .ok (.anewarray 33, 3) := by decide +kernel
theorem dX8_init_53 : decode cX8_init 53 = .ok (.putfield 35, 3) := by decide +kernel
theorem dX8_init_56 : decode cX8_init 56 = .ok (.aload_n 0, 1) := by decide +kernel
theorem dX8_init_57 : decode cX8_init 57 = .ok (.iconst 4, 1) := by decide +kernel
theorem dX8_init_58 : decode cX8_init 58 = .ok (.anewarray 39, 3) := by decide +kernel
theorem dX8_init_61 : decode cX8_init 61 = .ok (.putfield 41, 3) := by decide +kernel
theorem dX8_init_64 : decode cX8_init 64 = .ok (.aload_n 0, 1) := by decide +kernel
theorem dX8_init_65 : decode cX8_init 65 = .ok (.iconst 4, 1) := by decide +kernel
theorem dX8_init_66 : decode cX8_init 66 = .ok (.newarray .int, 2) := by decide +kernel
theorem dX8_init_68 : decode cX8_init 68 = .ok (.putfield 45, 3) := by decide +kernel
theorem dX8_init_71 : decode cX8_init 71 = .ok (.aload_n 0, 1) := by decide +kernel
theorem dX8_init_72 : decode cX8_init 72 = .ok (.iconst 4, 1) := by decide +kernel
theorem dX8_init_73 : decode cX8_init 73 = .ok (.newarray .int, 2) := by decide +kernel
theorem dX8_init_75 : decode cX8_init 75 = .ok (.putfield 49, 3) := by decide +kernel
theorem dX8_init_78 : decode cX8_init 78 = .ok (.aload_n 0, 1) := by decide +kernel
theorem dX8_init_79 : decode cX8_init 79 = .ok (.new 52, 3) := by decide +kernel
theorem dX8_init_82 : decode cX8_init 82 = .ok (.dup, 1) := by decide +kernel
theorem dX8_init_83 : decode cX8_init 83 = .ok (.invokespecial 54, 3) := by decide +kernel
theorem dX8_init_86 : decode cX8_init 86 = .ok (.putfield 55, 3) := by decide +kernel
theorem dX8_init_89 : decode cX8_init 89 = .ok (.aload_n 0, 1) := by decide +kernel
theorem dX8_init_90 : decode cX8_init 90 = .ok (.new 59, 3) := by decide +kernel
theorem dX8_init_93 : decode cX8_init 93 = .ok (.dup, 1) := by decide +kernel
theorem dX8_init_94 : decode cX8_init 94 = .ok (.invokespecial 61, 3) := by decide +kernel
theorem dX8_init_97 : decode cX8_init 97 = .ok (.putfield 62, 3) := by decide +kernel
theorem dX8_init_100 : decode cX8_init 100 = .ok (.iconst 0, 1) := by decide +kernel
theorem dX8_init_101 : decode cX8_init 101 = .ok (.istore_n 1, 1) := by decide +kernel
theorem dX8_init_102 : decode cX8_init 102 = .ok (.iload_n 1, 1) := by decide +kernel
theorem dX8_init_103 : decode cX8_init 103 = .ok (.iconst 2, 1) := by decide +kernel
theorem dX8_init_104 : decode cX8_init 104 = .ok (.if_icmp .ge 22, 3) := by decide +kernel
theorem dX8_init_107 : decode cX8_init 107 = .ok (.aload_n 0, 1) := by decide +kernel
theorem dX8_init_108 : decode cX8_init 108 = .ok (.getfield 35, 3) := by decide +kernel
theorem dX8_init_111 : decode cX8_init 111 = .ok (.iload_n 1, 1) := by decide +kernel
theorem dX8_init_112 : decode cX8_init 112 = .ok (.new 33, 3) := by decide +kernel
theorem dX8_init_115 : decode cX8_init 115 = .ok (.dup, 1) := by decide +kernel
theorem dX8_init_116 : decode cX8_init 116 = .ok (.invokespecial 66, 3) := by decide +kernel
theorem dX8_init_119 : decode cX8_init 119 = .ok (.aastore, 1) := by decide +kernel
theorem dX8_init_120 : decode cX8_init 120 = .ok (.iinc 1 1, 3) := by decide +kernel
theorem dX8_init_123 : decode cX8_init 123 = .ok (.goto (-21), 3) := by decide +kernel
theorem dX8_init_126 : decode cX8_init 126 = .ok (.iconst 0, 1) := by decide +kernel
theorem dX8_init_127 : decode cX8_init 127 = .ok (.istore_n 1, 1) := by decide +kernel
theorem dX8_init_128 : decode cX8_init 128 = .ok (.iload_n 1, 1) := by decide +kernel
theorem dX8_init_129 : decode cX8_init 129 = .ok (.iconst 4, 1) := by decide +kernel
theorem dX8_init_130 : decode cX8_init 130 = .ok (.if_icmp .ge 22, 3) := by decide +kernel
theorem dX8_init_133 : decode cX8_init 133 = .ok (.aload_n 0, 1) := by decide +kernel
theorem dX8_init_134 : decode cX8_init 134 = .ok (.getfield 41, 3) := by decide +kernel
theorem dX8_init_137 : decode cX8_init 137 = .ok (.iload_n 1, 1) := by decide +kernel
theorem dX8_init_138 : decode cX8_init 138 = .ok (.new 39, 3) := by decide +kernel
theorem dX8_init_141 : decode cX8_init 141 = .ok (.dup, 1) := by decide +kernel
theorem dX8_init_142 : decode cX8_init 142 = .ok (.invokespecial 67, 3) := by decide +kernel
theorem dX8_init_145 : decode cX8_init 145 = .ok (.aastore, 1) := by decide +kernel
theorem dX8_init_146 : decode cX8_init 146 = .ok (.iinc 1 1, 3) := by decide +kernel
theorem dX8_init_149 : decode cX8_init 149 = .ok (.goto (-21), 3) := by decide +kernel
theorem dX8_init_152 : decode cX8_init 152 = .ok (.return_, 1) := by decide +kernel
theorem dX8_feed_0 : decode cX8_feed 0 = .ok (.iload_n 1, 1) := by decide +kernel
theorem dX8_feed_1 : decode cX8_feed 1 = .ok (.iconst 0, 1) := by decide +kernel
theorem dX8_feed_2 : decode cX8_feed 2 = .ok (.bipush 127, 2) := by decide +kernel
theorem dX8_feed_4 : decode cX8_feed 4 = .ok (.invokestatic 68, 3) := by decide +kernel
theorem dX8_feed_7 : decode cX8_feed 7 = .ok (.ifCond .eq 5, 3) := by decide +kernel
theorem dX8_feed_10 : decode cX8_feed 10 = .ok (.iconst (-1), 1) := by decide +kernel
theorem dX8_feed_11 : decode cX8_feed 11 = .ok (.ireturn, 1) := by decide +kernel
theorem dX8_feed_12 : decode cX8_feed 12 = .ok (.aload_n 0, 1) := by decide +kernel
theorem dX8_feed_13 : decode cX8_feed 13 = .ok (.getfield 22, 3) := by decide +kernel
theorem dX8_feed_16 : decode cX8_feed 16 = .ok (.getfield 72, 3) := by decide +kernel
theorem dX8_feed_19 : decode cX8_feed 19 = .ok (.astore_n 2, 1) := by decide +kernel
theorem dX8_feed_20 : decode cX8_feed 20 = .ok (.aload_n 2, 1) := by decide +kernel
theorem dX8_feed_21 : decode cX8_feed 21 = .ok (.getfield 76, 3) := by decide +kernel
theorem dX8_feed_24 : decode cX8_feed 24 = .ok (.sipush 160, 3) := by decide +kernel
theorem dX8_feed_27 : decode cX8_feed 27 = .ok (.if_icmp .lt 6, 3) := by decide +kernel
theorem dX8_feed_30 : decode cX8_feed 30 = .ok (.bipush (-3), 2) := by decide +kernel
theorem dX8_feed_32 : decode cX8_feed 32 = .ok (.ireturn, 1) := by decide +kernel
theorem dX8_feed_33 : decode cX8_feed 33 = .ok (.aload_n 2, 1) := by decide +kernel
theorem dX8_feed_34 : decode cX8_feed 34 = .ok (.getfield 82, 3) := by decide +kernel
theorem dX8_feed_37 : decode cX8_feed 37 = .ok (.aload_n 2, 1) := by decide +kernel
theorem dX8_feed_38 : decode cX8_feed 38 = .ok (.getfield 76, 3) := by decide +kernel
theorem dX8_feed_41 : decode cX8_feed 41 = .ok (.iload_n 1, 1) := by decide +kernel
theorem dX8_feed_42 : decode cX8_feed 42 = .ok (.i2b, 1) := by decide +kernel
theorem dX8_feed_43 : decode cX8_feed 43 = .ok (.bastore, 1) := by decide +kernel
theorem dX8_feed_44 : decode cX8_feed 44 = .ok (.aload_n 2, 1) := by decide +kernel
theorem dX8_feed_45 : decode cX8_feed 45 = .ok (.dup, 1) := by decide +kernel
theorem dX8_feed_46 : decode cX8_feed 46 = .ok (.getfield 76, 3) := by decide +kernel
theorem dX8_feed_49 : decode cX8_feed 49 = .ok (.iconst 1, 1) := by decide +kernel
theorem dX8_feed_50 : decode cX8_feed 50 = .ok (.iadd, 1) := by decide +kernel
theorem dX8_feed_51 : decode cX8_feed 51 = .ok (.putfield 76, 3) := by decide +kernel
theorem dX8_feed_54 : decode cX8_feed 54 = .ok (.aload_n 2, 1) := by decide +kernel
theorem dX8_feed_55 : decode cX8_feed 55 = .ok (.getfield 76, 3) := by decide +kernel
theorem dX8_feed_58 : decode cX8_feed 58 = .ok (.ireturn, 1) := by decide +kernel
theorem dX8_end_0 : decode cX8_end 0 = .ok (.aload_n 0, 1) := by decide +kernel
theorem dX8_end_1 : decode cX8_end 1 = .ok (.getfield 22, 3) := by decide +kernel
theorem dX8_end_4 : decode cX8_end 4 = .ok (.getfield 72, 3) := by decide +kernel
theorem dX8_end_7 : decode cX8_end 7 = .ok (.astore_n 2, 1) := by decide +kernel
theorem dX8_end_8 : decode cX8_end 8 = .ok (.iload_n 1, 1) := by decide +kernel
theorem dX8_end_9 : decode cX8_end 9 = .ok (.iconst 0, 1) := by decide +kernel
theorem dX8_end_10 : decode cX8_end 10 = .ok (.aload_n 2, 1) := by decide +kernel
theorem dX8_end_11 : decode cX8_end 11 = .ok (.getfield 76, 3) := by decide +kernel
theorem dX8_end_14 : decode cX8_end 14 = .ok (.invokestatic 68, 3) := by decide +kernel
theorem dX8_end_17 : decode cX8_end 17 = .ok (.ifCond .eq 5, 3) := by decide +kernel
theorem dX8_end_20 : decode cX8_end 20 = .ok (.iconst (-1), 1) := by decide +kernel
theorem dX8_end_21 : decode cX8_end 21 = .ok (.ireturn, 1) := by decide +kernel
theorem dX8_end_22 : decode cX8_end 22 = .ok (.aload_n 2, 1) := by decide +kernel
theorem dX8_end_23 : decode cX8_end 23 = .ok (.getfield 76, 3) := by decide +kernel
theorem dX8_end_26 : decode cX8_end 26 = .ok (.istore_n 3, 1) := by decide +kernel
theorem dX8_end_27 : decode cX8_end 27 = .ok (.aload_n 2, 1) := by decide +kernel
theorem dX8_end_28 : decode cX8_end 28 = .ok (.iload_n 1, 1) := by decide +kernel
theorem dX8_end_29 : decode cX8_end 29 = .ok (.putfield 76, 3) := by decide +kernel
theorem dX8_end_32 : decode cX8_end 32 = .ok (.iload_n 3, 1) := by decide +kernel
theorem dX8_end_33 : decode cX8_end 33 = .ok (.ireturn, 1) := by decide +kernel
theorem dX8_text_0 : decode cX8_text 0 = .ok (.aload_n 0, 1) := by decide +kernel
theorem dX8_text_1 : decode cX8_text 1 = .ok (.getfield 22, 3) := by decide +kernel
theorem dX8_text_4 : decode cX8_text 4 = .ok (.invokevirtual 86, 3) := by decide +kernel
theorem dX8_text_7 : decode cX8_text 7 = .ok (.iconst 0, 1) := by decide +kernel
theorem dX8_text_8 : decode cX8_text 8 = .ok (.istore_n 1, 1) := by decide +kernel
theorem dX8_text_9 : decode cX8_text 9 = .ok (.iload_n 1, 1) := by decide +kernel
theorem dX8_text_10 : decode cX8_text 10 = .ok (.sipush 160, 3) := by decide +kernel
theorem dX8_text_13 : decode cX8_text 13 = .ok (.if_icmp .ge 26, 3) := by decide +kernel
theorem dX8_text_16 : decode cX8_text 16 = .ok (.aload_n 0, 1) := by decide +kernel
theorem dX8_text_17 : decode cX8_text 17 = .ok (.getfield 22, 3) := by decide +kernel
theorem dX8_text_20 : decode cX8_text 20 = .ok (.invokevirtual 89, 3) := by decide +kernel
theorem dX8_text_23 : decode cX8_text 23 = .ok (.ifCond .eq 16, 3) := by decide +kernel
theorem dX8_text_26 : decode cX8_text 26 = .ok (.aload_n 0, 1) := by decide +kernel
theorem dX8_text_27 : decode cX8_text 27 = .ok (.getfield 22, 3) := by decide +kernel
theorem dX8_text_30 : decode cX8_text 30 = .ok (.invokevirtual 93, 3) := by decide +kernel
theorem dX8_text_33 : decode cX8_text 33 = .ok (.iinc 1 1, 3) := by decide +kernel
theorem dX8_text_36 : decode cX8_text 36 = .ok (.goto (-27), 3) := by decide +kernel
theorem dX8_text_39 : decode cX8_text 39 = .ok (.aload_n 0, 1) := by decide +kernel
theorem dX8_text_40 : decode cX8_text 40 = .ok (.getfield 22, 3) := by decide +kernel
theorem dX8_text_43 : decode cX8_text 43 = .ok (.invokevirtual 96, 3) := by decide +kernel
theorem dX8_text_46 : decode cX8_text 46 = .ok (.aload_n 0, 1) := by decide +kernel
theorem dX8_text_47 : decode cX8_text 47 = .ok (.getfield 22, 3) := by decide +kernel
theorem dX8_text_50 : decode cX8_text 50 = .ok (.getfield 72, 3) := by decide +kernel
theorem dX8_text_53 : decode cX8_text 53 = .ok (.iconst 0, 1) := by decide +kernel
theorem dX8_text_54 : decode cX8_text 54 = .ok (.putfield 76, 3) := by decide +kernel
theorem dX8_text_57 : decode cX8_text 57 = .ok (.aload_n 0, 1) := by decide +kernel
theorem dX8_text_58 : decode cX8_text 58 = .ok (.aload_n 0, 1) := by decide +kernel
theorem dX8_text_59 : decode cX8_text 59 = .ok (.getfield 22, 3) := by decide +kernel
theorem dX8_text_62 : decode cX8_text 62 = .ok (.getfield 99, 3) := by decide +kernel
theorem dX8_text_65 : decode cX8_text 65 = .ok (.putfield 102, 3) := by decide +kernel
theorem dX8_text_68 : decode cX8_text 68 = .ok (.aload_n 0, 1) := by decide +kernel
theorem dX8_text_69 : decode cX8_text 69 = .ok (.getfield 102, 3) := by decide +kernel
theorem dX8_text_72 : decode cX8_text 72 = .ok (.ifCond .eq 14, 3) := by decide +kernel
theorem dX8_text_75 : decode cX8_text 75 = .ok (.bipush (-10), 2) := by decide +kernel
theorem dX8_text_77 : decode cX8_text 77 = .ok (.aload_n 0, 1) := by decide +kernel
theorem dX8_text_78 : decode cX8_text 78 = .ok (.getfield 22, 3) := by decide +kernel
theorem dX8_text_81 : decode cX8_text 81 = .ok (.getfield 105, 3) := by decide +kernel
theorem dX8_text_84 : decode cX8_text 84 = .ok (.isub, 1) := by decide +kernel
theorem dX8_text_85 : decode cX8_text 85 = .ok (.ireturn, 1) := by decide +kernel
theorem dX8_text_86 : decode cX8_text 86 = .ok (.aload_n 0, 1) := by decide +kernel
theorem dX8_text_87 : decode cX8_text 87 = .ok (.getfield 10, 3) := by decide +kernel
theorem dX8_text_90 : decode cX8_text 90 = .ok (.aload_n 0, 1) := by decide +kernel
theorem dX8_text_91 : decode cX8_text 91 = .ok (.getfield 22, 3) := by decide +kernel
theorem dX8_text_94 : decode cX8_text 94 = .ok (.getfield 108, 3) := by decide +kernel
theorem dX8_text_97 : decode cX8_text 97 = .ok (.invokevirtual 109, 3) := by decide +kernel
theorem dX8_text_100 : decode cX8_text 100 = .ok (.aload_n 0, 1) := by decide +kernel
theorem dX8_text_101 : decode cX8_text 101 = .ok (.getfield 29, 3) := by decide +kernel
theorem dX8_text_104 : decode cX8_text 104 = .ok (.iconst 0, 1) := by decide +kernel
theorem dX8_text_105 : decode cX8_text 105 = .ok (.putfield 113, 3) := by decide +kernel
theorem dX8_text_108 : decode cX8_text 108 = .ok (.iconst 0, 1) := by decide +kernel
theorem dX8_text_109 : decode cX8_text 109 = .ok (.istore_n 1, 1) := by decide +kernel
theorem dX8_text_110 : decode cX8_text 110 = .ok (.iload_n 1, 1) := by decide +kernel
theorem dX8_text_111 : decode cX8_text 111 = .ok (.iconst 2, 1) := by decide +kernel
theorem dX8_text_112 : decode cX8_text 112 = .ok (.if_icmp .ge 19, 3) := by decide +kernel
theorem dX8_text_115 : decode cX8_text 115 = .ok (.aload_n 0, 1) := by decide +kernel
theorem dX8_text_116 : decode cX8_text 116 = .ok (.getfield 35, 3) := by decide +kernel
theorem dX8_text_119 : decode cX8_text 119 = .ok (.iload_n 1, 1) := by decide +kernel
theorem dX8_text_120 : decode cX8_text 120 = .ok (.aaload, 1) := by decide +kernel
theorem dX8_text_121 : decode cX8_text 121 = .ok (.iconst 0, 1) := by decide +kernel
theorem dX8_text_122 : decode cX8_text 122 = .ok (.putfield 116, 3) := by decide +kernel
theorem dX8_text_125 : decode cX8_text 125 = .ok (.iinc 1 1, 3) := by decide +kernel
theorem dX8_text_128 : decode cX8_text 128 = .ok (.goto (-18), 3) := by decide +kernel
theorem dX8_text_131 : decode cX8_text 131 = .ok (.aload_n 0, 1) := by decide +kernel
theorem dX8_text_132 : decode cX8_text 132 = .ok (.getfield 22, 3) := by decide +kernel
theorem dX8_text_135 : decode cX8_text 135 = .ok (.getfield 120, 3) := by decide +kernel
theorem dX8_text_138 : decode cX8_text 138 = .ok (.ireturn, 1) := by decide +kernel
theorem dX8_fault_0 : decode cX8_fault 0 = .ok (.aload_n 0, 1) := by decide +kernel
theorem dX8_fault_1 : decode cX8_fault 1 = .ok (.getfield 102, 3) := by decide +kernel
theorem dX8_fault_4 : decode cX8_fault 4 = .ok (.ireturn, 1) := by decide +kernel
theorem dX8_rule_0 : decode cX8_rule 0 = .ok (.iload_n 1, 1) := by decide +kernel
theorem dX8_rule_1 : decode cX8_rule 1 = .ok (.tableswitch 87 0 5 #[39, 47, 55, 63, 71, 79], 39) := by decide +kernel
theorem dX8_rule_40 : decode cX8_rule 40 = .ok (.aload_n 0, 1) := by decide +kernel
theorem dX8_rule_41 : decode cX8_rule 41 = .ok (.getfield 10, 3) := by decide +kernel
theorem dX8_rule_44 : decode cX8_rule 44 = .ok (.getfield 123, 3) := by decide +kernel
theorem dX8_rule_47 : decode cX8_rule 47 = .ok (.ireturn, 1) := by decide +kernel
theorem dX8_rule_48 : decode cX8_rule 48 = .ok (.aload_n 0, 1) := by decide +kernel
theorem dX8_rule_49 : decode cX8_rule 49 = .ok (.getfield 10, 3) := by decide +kernel
theorem dX8_rule_52 : decode cX8_rule 52 = .ok (.getfield 126, 3) := by decide +kernel
theorem dX8_rule_55 : decode cX8_rule 55 = .ok (.ireturn, 1) := by decide +kernel
theorem dX8_rule_56 : decode cX8_rule 56 = .ok (.aload_n 0, 1) := by decide +kernel
theorem dX8_rule_57 : decode cX8_rule 57 = .ok (.getfield 10, 3) := by decide +kernel
theorem dX8_rule_60 : decode cX8_rule 60 = .ok (.getfield 129, 3) := by decide +kernel
theorem dX8_rule_63 : decode cX8_rule 63 = .ok (.ireturn, 1) := by decide +kernel
theorem dX8_rule_64 : decode cX8_rule 64 = .ok (.aload_n 0, 1) := by decide +kernel
theorem dX8_rule_65 : decode cX8_rule 65 = .ok (.getfield 10, 3) := by decide +kernel
theorem dX8_rule_68 : decode cX8_rule 68 = .ok (.getfield 132, 3) := by decide +kernel
theorem dX8_rule_71 : decode cX8_rule 71 = .ok (.ireturn, 1) := by decide +kernel
theorem dX8_rule_72 : decode cX8_rule 72 = .ok (.aload_n 0, 1) := by decide +kernel
theorem dX8_rule_73 : decode cX8_rule 73 = .ok (.getfield 10, 3) := by decide +kernel
theorem dX8_rule_76 : decode cX8_rule 76 = .ok (.getfield 135, 3) := by decide +kernel
theorem dX8_rule_79 : decode cX8_rule 79 = .ok (.ireturn, 1) := by decide +kernel
theorem dX8_rule_80 : decode cX8_rule 80 = .ok (.aload_n 0, 1) := by decide +kernel
theorem dX8_rule_81 : decode cX8_rule 81 = .ok (.getfield 10, 3) := by decide +kernel
theorem dX8_rule_84 : decode cX8_rule 84 = .ok (.invokevirtual 138, 3) := by decide +kernel
theorem dX8_rule_87 : decode cX8_rule 87 = .ok (.ireturn, 1) := by decide +kernel
theorem dX8_rule_88 : decode cX8_rule 88 = .ok (.iconst (-1), 1) := by decide +kernel
theorem dX8_rule_89 : decode cX8_rule 89 = .ok (.ireturn, 1) := by decide +kernel
theorem dX8_book_0 : decode cX8_book 0 = .ok (.aload_n 0, 1) := by decide +kernel
theorem dX8_book_1 : decode cX8_book 1 = .ok (.getfield 10, 3) := by decide +kernel
theorem dX8_book_4 : decode cX8_book 4 = .ok (.iload_n 1, 1) := by decide +kernel
theorem dX8_book_5 : decode cX8_book 5 = .ok (.invokevirtual 142, 3) := by decide +kernel
theorem dX8_book_8 : decode cX8_book 8 = .ok (.ifCond .ne 5, 3) := by decide +kernel
theorem dX8_book_11 : decode cX8_book 11 = .ok (.iconst (-1), 1) := by decide +kernel
theorem dX8_book_12 : decode cX8_book 12 = .ok (.ireturn, 1) := by decide +kernel
theorem dX8_book_13 : decode cX8_book 13 = .ok (.iload_n 2, 1) := by decide +kernel
theorem dX8_book_14 : decode cX8_book 14 = .ok (.tableswitch 69 0 3 #[30, 40, 50, 60], 30) := by decide +kernel
theorem dX8_book_44 : decode cX8_book 44 = .ok (.aload_n 0, 1) := by decide +kernel
theorem dX8_book_45 : decode cX8_book 45 = .ok (.getfield 10, 3) := by decide +kernel
theorem dX8_book_48 : decode cX8_book 48 = .ok (.getfield 146, 3) := by decide +kernel
theorem dX8_book_51 : decode cX8_book 51 = .ok (.iload_n 1, 1) := by decide +kernel
theorem dX8_book_52 : decode cX8_book 52 = .ok (.iaload, 1) := by decide +kernel
theorem dX8_book_53 : decode cX8_book 53 = .ok (.ireturn, 1) := by decide +kernel
theorem dX8_book_54 : decode cX8_book 54 = .ok (.aload_n 0, 1) := by decide +kernel
theorem dX8_book_55 : decode cX8_book 55 = .ok (.getfield 10, 3) := by decide +kernel
theorem dX8_book_58 : decode cX8_book 58 = .ok (.getfield 149, 3) := by decide +kernel
theorem dX8_book_61 : decode cX8_book 61 = .ok (.iload_n 1, 1) := by decide +kernel
theorem dX8_book_62 : decode cX8_book 62 = .ok (.iaload, 1) := by decide +kernel
theorem dX8_book_63 : decode cX8_book 63 = .ok (.ireturn, 1) := by decide +kernel
theorem dX8_book_64 : decode cX8_book 64 = .ok (.aload_n 0, 1) := by decide +kernel
theorem dX8_book_65 : decode cX8_book 65 = .ok (.getfield 10, 3) := by decide +kernel
theorem dX8_book_68 : decode cX8_book 68 = .ok (.getfield 152, 3) := by decide +kernel
theorem dX8_book_71 : decode cX8_book 71 = .ok (.iload_n 1, 1) := by decide +kernel
theorem dX8_book_72 : decode cX8_book 72 = .ok (.iaload, 1) := by decide +kernel
theorem dX8_book_73 : decode cX8_book 73 = .ok (.ireturn, 1) := by decide +kernel
theorem dX8_book_74 : decode cX8_book 74 = .ok (.aload_n 0, 1) := by decide +kernel
theorem dX8_book_75 : decode cX8_book 75 = .ok (.getfield 10, 3) := by decide +kernel
theorem dX8_book_78 : decode cX8_book 78 = .ok (.iload_n 1, 1) := by decide +kernel
theorem dX8_book_79 : decode cX8_book 79 = .ok (.invokevirtual 155, 3) := by decide +kernel
theorem dX8_book_82 : decode cX8_book 82 = .ok (.ireturn, 1) := by decide +kernel
theorem dX8_book_83 : decode cX8_book 83 = .ok (.iconst (-1), 1) := by decide +kernel
theorem dX8_book_84 : decode cX8_book 84 = .ok (.ireturn, 1) := by decide +kernel
theorem dX8_reader_0 : decode cX8_reader 0 = .ok (.aload_n 0, 1) := by decide +kernel
theorem dX8_reader_1 : decode cX8_reader 1 = .ok (.getfield 10, 3) := by decide +kernel
theorem dX8_reader_4 : decode cX8_reader 4 = .ok (.iload_n 1, 1) := by decide +kernel
theorem dX8_reader_5 : decode cX8_reader 5 = .ok (.invokevirtual 159, 3) := by decide +kernel
theorem dX8_reader_8 : decode cX8_reader 8 = .ok (.ifCond .ne 5, 3) := by decide +kernel
theorem dX8_reader_11 : decode cX8_reader 11 = .ok (.iconst (-1), 1) := by decide +kernel
theorem dX8_reader_12 : decode cX8_reader 12 = .ok (.ireturn, 1) := by decide +kernel
theorem dX8_reader_13 : decode cX8_reader 13 = .ok (.iload_n 2, 1) := by decide +kernel
theorem dX8_reader_14 : decode cX8_reader 14 = .ok (.tableswitch 146 0 5 #[38, 48, 58, 68, 78, 112], 38) := by decide +kernel
theorem dX8_reader_52 : decode cX8_reader 52 = .ok (.aload_n 0, 1) := by decide +kernel
theorem dX8_reader_53 : decode cX8_reader 53 = .ok (.getfield 10, 3) := by decide +kernel
theorem dX8_reader_56 : decode cX8_reader 56 = .ok (.getfield 162, 3) := by decide +kernel
theorem dX8_reader_59 : decode cX8_reader 59 = .ok (.iload_n 1, 1) := by decide +kernel
theorem dX8_reader_60 : decode cX8_reader 60 = .ok (.iaload, 1) := by decide +kernel
theorem dX8_reader_61 : decode cX8_reader 61 = .ok (.ireturn, 1) := by decide +kernel
theorem dX8_reader_62 : decode cX8_reader 62 = .ok (.aload_n 0, 1) := by decide +kernel
theorem dX8_reader_63 : decode cX8_reader 63 = .ok (.getfield 10, 3) := by decide +kernel
theorem dX8_reader_66 : decode cX8_reader 66 = .ok (.getfield 165, 3) := by decide +kernel
theorem dX8_reader_69 : decode cX8_reader 69 = .ok (.iload_n 1, 1) := by decide +kernel
theorem dX8_reader_70 : decode cX8_reader 70 = .ok (.iaload, 1) := by decide +kernel
theorem dX8_reader_71 : decode cX8_reader 71 = .ok (.ireturn, 1) := by decide +kernel
theorem dX8_reader_72 : decode cX8_reader 72 = .ok (.aload_n 0, 1) := by decide +kernel
theorem dX8_reader_73 : decode cX8_reader 73 = .ok (.getfield 10, 3) := by decide +kernel
theorem dX8_reader_76 : decode cX8_reader 76 = .ok (.getfield 168, 3) := by decide +kernel
theorem dX8_reader_79 : decode cX8_reader 79 = .ok (.iload_n 1, 1) := by decide +kernel
theorem dX8_reader_80 : decode cX8_reader 80 = .ok (.iaload, 1) := by decide +kernel
theorem dX8_reader_81 : decode cX8_reader 81 = .ok (.ireturn, 1) := by decide +kernel
theorem dX8_reader_82 : decode cX8_reader 82 = .ok (.aload_n 0, 1) := by decide +kernel
theorem dX8_reader_83 : decode cX8_reader 83 = .ok (.getfield 10, 3) := by decide +kernel
theorem dX8_reader_86 : decode cX8_reader 86 = .ok (.getfield 171, 3) := by decide +kernel
theorem dX8_reader_89 : decode cX8_reader 89 = .ok (.iload_n 1, 1) := by decide +kernel
theorem dX8_reader_90 : decode cX8_reader 90 = .ok (.iaload, 1) := by decide +kernel
theorem dX8_reader_91 : decode cX8_reader 91 = .ok (.ireturn, 1) := by decide +kernel
theorem dX8_reader_92 : decode cX8_reader 92 = .ok (.aload_n 0, 1) := by decide +kernel
theorem dX8_reader_93 : decode cX8_reader 93 = .ok (.getfield 10, 3) := by decide +kernel
theorem dX8_reader_96 : decode cX8_reader 96 = .ok (.iload_n 1, 1) := by decide +kernel
theorem dX8_reader_97 : decode cX8_reader 97 = .ok (.invokevirtual 174, 3) := by decide +kernel
theorem dX8_reader_100 : decode cX8_reader 100 = .ok (.ifCond .eq 8, 3) := by decide +kernel
theorem dX8_reader_103 : decode cX8_reader 103 = .ok (.bipush (-4), 2) := by decide +kernel
theorem dX8_reader_105 : decode cX8_reader 105 = .ok (.goto 20, 3) := by decide +kernel
theorem dX8_reader_108 : decode cX8_reader 108 = .ok (.aload_n 0, 1) := by decide +kernel
theorem dX8_reader_109 : decode cX8_reader 109 = .ok (.getfield 10, 3) := by decide +kernel
theorem dX8_reader_112 : decode cX8_reader 112 = .ok (.iload_n 1, 1) := by decide +kernel
theorem dX8_reader_113 : decode cX8_reader 113 = .ok (.aload_n 0, 1) := by decide +kernel
theorem dX8_reader_114 : decode cX8_reader 114 = .ok (.getfield 10, 3) := by decide +kernel
theorem dX8_reader_117 : decode cX8_reader 117 = .ok (.getfield 165, 3) := by decide +kernel
theorem dX8_reader_120 : decode cX8_reader 120 = .ok (.iload_n 1, 1) := by decide +kernel
theorem dX8_reader_121 : decode cX8_reader 121 = .ok (.iaload, 1) := by decide +kernel
theorem dX8_reader_122 : decode cX8_reader 122 = .ok (.invokevirtual 177, 3) := by decide +kernel
theorem dX8_reader_125 : decode cX8_reader 125 = .ok (.ireturn, 1) := by decide +kernel
theorem dX8_reader_126 : decode cX8_reader 126 = .ok (.aload_n 0, 1) := by decide +kernel
theorem dX8_reader_127 : decode cX8_reader 127 = .ok (.getfield 10, 3) := by decide +kernel
theorem dX8_reader_130 : decode cX8_reader 130 = .ok (.iload_n 1, 1) := by decide +kernel
theorem dX8_reader_131 : decode cX8_reader 131 = .ok (.invokevirtual 174, 3) := by decide +kernel
theorem dX8_reader_134 : decode cX8_reader 134 = .ok (.ifCond .eq 8, 3) := by decide +kernel
theorem dX8_reader_137 : decode cX8_reader 137 = .ok (.bipush (-4), 2) := by decide +kernel
theorem dX8_reader_139 : decode cX8_reader 139 = .ok (.goto 20, 3) := by decide +kernel
theorem dX8_reader_142 : decode cX8_reader 142 = .ok (.aload_n 0, 1) := by decide +kernel
theorem dX8_reader_143 : decode cX8_reader 143 = .ok (.getfield 10, 3) := by decide +kernel
theorem dX8_reader_146 : decode cX8_reader 146 = .ok (.iload_n 1, 1) := by decide +kernel
theorem dX8_reader_147 : decode cX8_reader 147 = .ok (.aload_n 0, 1) := by decide +kernel
theorem dX8_reader_148 : decode cX8_reader 148 = .ok (.getfield 10, 3) := by decide +kernel
theorem dX8_reader_151 : decode cX8_reader 151 = .ok (.getfield 165, 3) := by decide +kernel
theorem dX8_reader_154 : decode cX8_reader 154 = .ok (.iload_n 1, 1) := by decide +kernel
theorem dX8_reader_155 : decode cX8_reader 155 = .ok (.iaload, 1) := by decide +kernel
theorem dX8_reader_156 : decode cX8_reader 156 = .ok (.invokevirtual 181, 3) := by decide +kernel
theorem dX8_reader_159 : decode cX8_reader 159 = .ok (.ireturn, 1) := by decide +kernel
theorem dX8_reader_160 : decode cX8_reader 160 = .ok (.iconst (-1), 1) := by decide +kernel
theorem dX8_reader_161 : decode cX8_reader 161 = .ok (.ireturn, 1) := by decide +kernel
theorem dX8_shelve_0 : decode cX8_shelve 0 = .ok (.aload_n 0, 1) := by decide +kernel
theorem dX8_shelve_1 : decode cX8_shelve 1 = .ok (.getfield 10, 3) := by decide +kernel
theorem dX8_shelve_4 : decode cX8_shelve 4 = .ok (.iload_n 1, 1) := by decide +kernel
theorem dX8_shelve_5 : decode cX8_shelve 5 = .ok (.invokevirtual 142, 3) := by decide +kernel
theorem dX8_shelve_8 : decode cX8_shelve 8 = .ok (.ifCond .ne 5, 3) := by decide +kernel
theorem dX8_shelve_11 : decode cX8_shelve 11 = .ok (.iconst (-1), 1) := by decide +kernel
theorem dX8_shelve_12 : decode cX8_shelve 12 = .ok (.ireturn, 1) := by decide +kernel
theorem dX8_shelve_13 : decode cX8_shelve 13 = .ok (.iload_n 2, 1) := by decide +kernel
theorem dX8_shelve_14 : decode cX8_shelve 14 = .ok (.tableswitch 111 0 2 #[26, 53, 80], 26) := by decide +kernel
theorem dX8_shelve_40 : decode cX8_shelve 40 = .ok (.iload_n 3, 1) := by decide +kernel
theorem dX8_shelve_41 : decode cX8_shelve 41 = .ok (.iconst 0, 1) := by decide +kernel
theorem dX8_shelve_42 : decode cX8_shelve 42 = .ok (.bipush 7, 2) := by decide +kernel
theorem dX8_shelve_44 : decode cX8_shelve 44 = .ok (.invokestatic 68, 3) := by decide +kernel
theorem dX8_shelve_47 : decode cX8_shelve 47 = .ok (.ifCond .eq 7, 3) := by decide +kernel
theorem dX8_shelve_50 : decode cX8_shelve 50 = .ok (.iconst (-1), 1) := by decide +kernel
theorem dX8_shelve_51 : decode cX8_shelve 51 = .ok (.goto 15, 3) := by decide +kernel
theorem dX8_shelve_54 : decode cX8_shelve 54 = .ok (.aload_n 0, 1) := by decide +kernel
theorem dX8_shelve_55 : decode cX8_shelve 55 = .ok (.getfield 10, 3) := by decide +kernel
theorem dX8_shelve_58 : decode cX8_shelve 58 = .ok (.getfield 146, 3) := by decide +kernel
theorem dX8_shelve_61 : decode cX8_shelve 61 = .ok (.iload_n 1, 1) := by decide +kernel
theorem dX8_shelve_62 : decode cX8_shelve 62 = .ok (.iload_n 3, 1) := by decide +kernel
theorem dX8_shelve_63 : decode cX8_shelve 63 = .ok (.invokestatic 184, 3) := by decide +kernel
theorem dX8_shelve_66 : decode cX8_shelve 66 = .ok (.ireturn, 1) := by decide +kernel
theorem dX8_shelve_67 : decode cX8_shelve 67 = .ok (.iload_n 3, 1) := by decide +kernel
theorem dX8_shelve_68 : decode cX8_shelve 68 = .ok (.iconst 0, 1) := by decide +kernel
theorem dX8_shelve_69 : decode cX8_shelve 69 = .ok (.bipush 9, 2) := by decide +kernel
theorem dX8_shelve_71 : decode cX8_shelve 71 = .ok (.invokestatic 68, 3) := by decide +kernel
theorem dX8_shelve_74 : decode cX8_shelve 74 = .ok (.ifCond .eq 7, 3) := by decide +kernel
theorem dX8_shelve_77 : decode cX8_shelve 77 = .ok (.iconst (-1), 1) := by decide +kernel
theorem dX8_shelve_78 : decode cX8_shelve 78 = .ok (.goto 15, 3) := by decide +kernel
theorem dX8_shelve_81 : decode cX8_shelve 81 = .ok (.aload_n 0, 1) := by decide +kernel
theorem dX8_shelve_82 : decode cX8_shelve 82 = .ok (.getfield 10, 3) := by decide +kernel
theorem dX8_shelve_85 : decode cX8_shelve 85 = .ok (.getfield 149, 3) := by decide +kernel
theorem dX8_shelve_88 : decode cX8_shelve 88 = .ok (.iload_n 1, 1) := by decide +kernel
theorem dX8_shelve_89 : decode cX8_shelve 89 = .ok (.iload_n 3, 1) := by decide +kernel
theorem dX8_shelve_90 : decode cX8_shelve 90 = .ok (.invokestatic 184, 3) := by decide +kernel
theorem dX8_shelve_93 : decode cX8_shelve 93 = .ok (.ireturn, 1) := by decide +kernel
theorem dX8_shelve_94 : decode cX8_shelve 94 = .ok (.aload_n 0, 1) := by decide +kernel
theorem dX8_shelve_95 : decode cX8_shelve 95 = .ok (.getfield 10, 3) := by decide +kernel
theorem dX8_shelve_98 : decode cX8_shelve 98 = .ok (.iload_n 3, 1) := by decide +kernel
theorem dX8_shelve_99 : decode cX8_shelve 99 = .ok (.invokevirtual 188, 3) := by decide +kernel
theorem dX8_shelve_102 : decode cX8_shelve 102 = .ok (.ifCond .eq 21, 3) := by decide +kernel
theorem dX8_shelve_105 : decode cX8_shelve 105 = .ok (.aload_n 0, 1) := by decide +kernel
theorem dX8_shelve_106 : decode cX8_shelve 106 = .ok (.getfield 10, 3) := by decide +kernel
theorem dX8_shelve_109 : decode cX8_shelve 109 = .ok (.getfield 152, 3) := by decide +kernel
theorem dX8_shelve_112 : decode cX8_shelve 112 = .ok (.iload_n 1, 1) := by decide +kernel
theorem dX8_shelve_113 : decode cX8_shelve 113 = .ok (.iload_n 3, 1) := by decide +kernel
theorem dX8_shelve_114 : decode cX8_shelve 114 = .ok (.invokestatic 191, 3) := by decide +kernel
theorem dX8_shelve_117 : decode cX8_shelve 117 = .ok (.invokestatic 184, 3) := by decide +kernel
theorem dX8_shelve_120 : decode cX8_shelve 120 = .ok (.goto 4, 3) := by decide +kernel
theorem dX8_shelve_123 : decode cX8_shelve 123 = .ok (.iconst (-1), 1) := by decide +kernel
theorem dX8_shelve_124 : decode cX8_shelve 124 = .ok (.ireturn, 1) := by decide +kernel
theorem dX8_shelve_125 : decode cX8_shelve 125 = .ok (.iconst (-1), 1) := by decide +kernel
theorem dX8_shelve_126 : decode cX8_shelve 126 = .ok (.ireturn, 1) := by decide +kernel
theorem dX8_alter_0 : decode cX8_alter 0 = .ok (.aload_n 0, 1) := by decide +kernel
theorem dX8_alter_1 : decode cX8_alter 1 = .ok (.getfield 10, 3) := by decide +kernel
theorem dX8_alter_4 : decode cX8_alter 4 = .ok (.iload_n 1, 1) := by decide +kernel
theorem dX8_alter_5 : decode cX8_alter 5 = .ok (.invokevirtual 159, 3) := by decide +kernel
theorem dX8_alter_8 : decode cX8_alter 8 = .ok (.ifCond .ne 5, 3) := by decide +kernel
theorem dX8_alter_11 : decode cX8_alter 11 = .ok (.iconst (-1), 1) := by decide +kernel
theorem dX8_alter_12 : decode cX8_alter 12 = .ok (.ireturn, 1) := by decide +kernel
theorem dX8_alter_13 : decode cX8_alter 13 = .ok (.iload_n 2, 1) := by decide +kernel
theorem dX8_alter_14 : decode cX8_alter 14 = .ok (.tableswitch 110 0 2 #[26, 52, 83], 26) := by decide +kernel
theorem dX8_alter_40 : decode cX8_alter 40 = .ok (.iload_n 3, 1) := by decide +kernel
theorem dX8_alter_41 : decode cX8_alter 41 = .ok (.iconst 0, 1) := by decide +kernel
theorem dX8_alter_42 : decode cX8_alter 42 = .ok (.iconst 3, 1) := by decide +kernel
theorem dX8_alter_43 : decode cX8_alter 43 = .ok (.invokestatic 68, 3) := by decide +kernel
theorem dX8_alter_46 : decode cX8_alter 46 = .ok (.ifCond .eq 7, 3) := by decide +kernel
theorem dX8_alter_49 : decode cX8_alter 49 = .ok (.iconst (-1), 1) := by decide +kernel
theorem dX8_alter_50 : decode cX8_alter 50 = .ok (.goto 15, 3) := by decide +kernel
theorem dX8_alter_53 : decode cX8_alter 53 = .ok (.aload_n 0, 1) := by decide +kernel
theorem dX8_alter_54 : decode cX8_alter 54 = .ok (.getfield 10, 3) := by decide +kernel
theorem dX8_alter_57 : decode cX8_alter 57 = .ok (.getfield 162, 3) := by decide +kernel
theorem dX8_alter_60 : decode cX8_alter 60 = .ok (.iload_n 1, 1) := by decide +kernel
theorem dX8_alter_61 : decode cX8_alter 61 = .ok (.iload_n 3, 1) := by decide +kernel
theorem dX8_alter_62 : decode cX8_alter 62 = .ok (.invokestatic 184, 3) := by decide +kernel
theorem dX8_alter_65 : decode cX8_alter 65 = .ok (.ireturn, 1) := by decide +kernel
theorem dX8_alter_66 : decode cX8_alter 66 = .ok (.aload_n 0, 1) := by decide +kernel
theorem dX8_alter_67 : decode cX8_alter 67 = .ok (.getfield 10, 3) := by decide +kernel
theorem dX8_alter_70 : decode cX8_alter 70 = .ok (.iload_n 3, 1) := by decide +kernel
theorem dX8_alter_71 : decode cX8_alter 71 = .ok (.invokevirtual 188, 3) := by decide +kernel
theorem dX8_alter_74 : decode cX8_alter 74 = .ok (.ifCond .eq 21, 3) := by decide +kernel
theorem dX8_alter_77 : decode cX8_alter 77 = .ok (.aload_n 0, 1) := by decide +kernel
theorem dX8_alter_78 : decode cX8_alter 78 = .ok (.getfield 10, 3) := by decide +kernel
theorem dX8_alter_81 : decode cX8_alter 81 = .ok (.getfield 165, 3) := by decide +kernel
theorem dX8_alter_84 : decode cX8_alter 84 = .ok (.iload_n 1, 1) := by decide +kernel
theorem dX8_alter_85 : decode cX8_alter 85 = .ok (.iload_n 3, 1) := by decide +kernel
theorem dX8_alter_86 : decode cX8_alter 86 = .ok (.invokestatic 191, 3) := by decide +kernel
theorem dX8_alter_89 : decode cX8_alter 89 = .ok (.invokestatic 184, 3) := by decide +kernel
theorem dX8_alter_92 : decode cX8_alter 92 = .ok (.goto 4, 3) := by decide +kernel
theorem dX8_alter_95 : decode cX8_alter 95 = .ok (.iconst (-1), 1) := by decide +kernel
theorem dX8_alter_96 : decode cX8_alter 96 = .ok (.ireturn, 1) := by decide +kernel
theorem dX8_alter_97 : decode cX8_alter 97 = .ok (.iload_n 3, 1) := by decide +kernel
theorem dX8_alter_98 : decode cX8_alter 98 = .ok (.iconst 1, 1) := by decide +kernel
theorem dX8_alter_99 : decode cX8_alter 99 = .ok (.bipush 99, 2) := by decide +kernel
theorem dX8_alter_101 : decode cX8_alter 101 = .ok (.invokestatic 68, 3) := by decide +kernel
theorem dX8_alter_104 : decode cX8_alter 104 = .ok (.ifCond .eq 7, 3) := by decide +kernel
theorem dX8_alter_107 : decode cX8_alter 107 = .ok (.iconst (-1), 1) := by decide +kernel
theorem dX8_alter_108 : decode cX8_alter 108 = .ok (.goto 15, 3) := by decide +kernel
theorem dX8_alter_111 : decode cX8_alter 111 = .ok (.aload_n 0, 1) := by decide +kernel
theorem dX8_alter_112 : decode cX8_alter 112 = .ok (.getfield 10, 3) := by decide +kernel
theorem dX8_alter_115 : decode cX8_alter 115 = .ok (.getfield 168, 3) := by decide +kernel
theorem dX8_alter_118 : decode cX8_alter 118 = .ok (.iload_n 1, 1) := by decide +kernel
theorem dX8_alter_119 : decode cX8_alter 119 = .ok (.iload_n 3, 1) := by decide +kernel
theorem dX8_alter_120 : decode cX8_alter 120 = .ok (.invokestatic 184, 3) := by decide +kernel
theorem dX8_alter_123 : decode cX8_alter 123 = .ok (.ireturn, 1) := by decide +kernel
theorem dX8_alter_124 : decode cX8_alter 124 = .ok (.iconst (-1), 1) := by decide +kernel
theorem dX8_alter_125 : decode cX8_alter 125 = .ok (.ireturn, 1) := by decide +kernel
theorem dX8_roll_0 : decode cX8_roll 0 = .ok (.iload_n 1, 1) := by decide +kernel
theorem dX8_roll_1 : decode cX8_roll 1 = .ok (.iconst 0, 1) := by decide +kernel
theorem dX8_roll_2 : decode cX8_roll 2 = .ok (.bipush 7, 2) := by decide +kernel
theorem dX8_roll_4 : decode cX8_roll 4 = .ok (.invokestatic 68, 3) := by decide +kernel
theorem dX8_roll_7 : decode cX8_roll 7 = .ok (.ifCond .eq 5, 3) := by decide +kernel
theorem dX8_roll_10 : decode cX8_roll 10 = .ok (.iconst (-1), 1) := by decide +kernel
theorem dX8_roll_11 : decode cX8_roll 11 = .ok (.ireturn, 1) := by decide +kernel
theorem dX8_roll_12 : decode cX8_roll 12 = .ok (.aload_n 0, 1) := by decide +kernel
theorem dX8_roll_13 : decode cX8_roll 13 = .ok (.getfield 10, 3) := by decide +kernel
theorem dX8_roll_16 : decode cX8_roll 16 = .ok (.getfield 129, 3) := by decide +kernel
theorem dX8_roll_19 : decode cX8_roll 19 = .ok (.istore_n 2, 1) := by decide +kernel
theorem dX8_roll_20 : decode cX8_roll 20 = .ok (.aload_n 0, 1) := by decide +kernel
theorem dX8_roll_21 : decode cX8_roll 21 = .ok (.getfield 10, 3) := by decide +kernel
theorem dX8_roll_24 : decode cX8_roll 24 = .ok (.iload_n 1, 1) := by decide +kernel
theorem dX8_roll_25 : decode cX8_roll 25 = .ok (.putfield 129, 3) := by decide +kernel
theorem dX8_roll_28 : decode cX8_roll 28 = .ok (.iload_n 2, 1) := by decide +kernel
theorem dX8_roll_29 : decode cX8_roll 29 = .ok (.ireturn, 1) := by decide +kernel
theorem dX8_forgets_0 : decode cX8_forgets 0 = .ok (.aload_n 0, 1) := by decide +kernel
theorem dX8_forgets_1 : decode cX8_forgets 1 = .ok (.getfield 10, 3) := by decide +kernel
theorem dX8_forgets_4 : decode cX8_forgets 4 = .ok (.iload_n 1, 1) := by decide +kernel
theorem dX8_forgets_5 : decode cX8_forgets 5 = .ok (.invokevirtual 159, 3) := by decide +kernel
theorem dX8_forgets_8 : decode cX8_forgets 8 = .ok (.ifCond .ne 5, 3) := by decide +kernel
theorem dX8_forgets_11 : decode cX8_forgets 11 = .ok (.iconst (-1), 1) := by decide +kernel
theorem dX8_forgets_12 : decode cX8_forgets 12 = .ok (.ireturn, 1) := by decide +kernel
theorem dX8_forgets_13 : decode cX8_forgets 13 = .ok (.aload_n 0, 1) := by decide +kernel
theorem dX8_forgets_14 : decode cX8_forgets 14 = .ok (.getfield 10, 3) := by decide +kernel
theorem dX8_forgets_17 : decode cX8_forgets 17 = .ok (.getfield 171, 3) := by decide +kernel
theorem dX8_forgets_20 : decode cX8_forgets 20 = .ok (.iload_n 1, 1) := by decide +kernel
theorem dX8_forgets_21 : decode cX8_forgets 21 = .ok (.iconst 0, 1) := by decide +kernel
theorem dX8_forgets_22 : decode cX8_forgets 22 = .ok (.invokestatic 184, 3) := by decide +kernel
theorem dX8_forgets_25 : decode cX8_forgets 25 = .ok (.invokestatic 194, 3) := by decide +kernel
theorem dX8_forgets_28 : decode cX8_forgets 28 = .ok (.ireturn, 1) := by decide +kernel
theorem dX8_fetch_0 : decode cX8_fetch 0 = .ok (.aload_n 0, 1) := by decide +kernel
theorem dX8_fetch_1 : decode cX8_fetch 1 = .ok (.getfield 10, 3) := by decide +kernel
theorem dX8_fetch_4 : decode cX8_fetch 4 = .ok (.iload_n 1, 1) := by decide +kernel
theorem dX8_fetch_5 : decode cX8_fetch 5 = .ok (.iload_n 2, 1) := by decide +kernel
theorem dX8_fetch_6 : decode cX8_fetch 6 = .ok (.invokevirtual 199, 3) := by decide +kernel
theorem dX8_fetch_9 : decode cX8_fetch 9 = .ok (.istore_n 3, 1) := by decide +kernel
theorem dX8_fetch_10 : decode cX8_fetch 10 = .ok (.iload_n 3, 1) := by decide +kernel
theorem dX8_fetch_11 : decode cX8_fetch 11 = .ok (.ifCond .ne 15, 3) := by decide +kernel
theorem dX8_fetch_14 : decode cX8_fetch 14 = .ok (.aload_n 0, 1) := by decide +kernel
theorem dX8_fetch_15 : decode cX8_fetch 15 = .ok (.getfield 10, 3) := by decide +kernel
theorem dX8_fetch_18 : decode cX8_fetch 18 = .ok (.iload_n 1, 1) := by decide +kernel
theorem dX8_fetch_19 : decode cX8_fetch 19 = .ok (.iload_n 2, 1) := by decide +kernel
theorem dX8_fetch_20 : decode cX8_fetch 20 = .ok (.invokevirtual 202, 3) := by decide +kernel
theorem dX8_fetch_23 : decode cX8_fetch 23 = .ok (.goto 4, 3) := by decide +kernel
theorem dX8_fetch_26 : decode cX8_fetch 26 = .ok (.iload_n 3, 1) := by decide +kernel
theorem dX8_fetch_27 : decode cX8_fetch 27 = .ok (.ireturn, 1) := by decide +kernel
theorem dX8_days_0 : decode cX8_days 0 = .ok (.iload_n 1, 1) := by decide +kernel
theorem dX8_days_1 : decode cX8_days 1 = .ok (.iconst 0, 1) := by decide +kernel
theorem dX8_days_2 : decode cX8_days 2 = .ok (.bipush 30, 2) := by decide +kernel
theorem dX8_days_4 : decode cX8_days 4 = .ok (.invokestatic 68, 3) := by decide +kernel
theorem dX8_days_7 : decode cX8_days 7 = .ok (.ifCond .eq 5, 3) := by decide +kernel
theorem dX8_days_10 : decode cX8_days 10 = .ok (.iconst (-1), 1) := by decide +kernel
theorem dX8_days_11 : decode cX8_days 11 = .ok (.ireturn, 1) := by decide +kernel
theorem dX8_days_12 : decode cX8_days 12 = .ok (.aload_n 0, 1) := by decide +kernel
theorem dX8_days_13 : decode cX8_days 13 = .ok (.getfield 10, 3) := by decide +kernel
theorem dX8_days_16 : decode cX8_days 16 = .ok (.getfield 135, 3) := by decide +kernel
theorem dX8_days_19 : decode cX8_days 19 = .ok (.iload_n 1, 1) := by decide +kernel
theorem dX8_days_20 : decode cX8_days 20 = .ok (.iadd, 1) := by decide +kernel
theorem dX8_days_21 : decode cX8_days 21 = .ok (.sipush 999, 3) := by decide +kernel
theorem dX8_days_24 : decode cX8_days 24 = .ok (.if_icmp .le 6, 3) := by decide +kernel
theorem dX8_days_27 : decode cX8_days 27 = .ok (.bipush (-3), 2) := by decide +kernel
theorem dX8_days_29 : decode cX8_days 29 = .ok (.ireturn, 1) := by decide +kernel
theorem dX8_days_30 : decode cX8_days 30 = .ok (.aload_n 0, 1) := by decide +kernel
theorem dX8_days_31 : decode cX8_days 31 = .ok (.invokevirtual 205, 3) := by decide +kernel
theorem dX8_days_34 : decode cX8_days 34 = .ok (.aload_n 0, 1) := by decide +kernel
theorem dX8_days_35 : decode cX8_days 35 = .ok (.getfield 16, 3) := by decide +kernel
theorem dX8_days_38 : decode cX8_days 38 = .ok (.iload_n 1, 1) := by decide +kernel
theorem dX8_days_39 : decode cX8_days 39 = .ok (.invokevirtual 208, 3) := by decide +kernel
theorem dX8_days_42 : decode cX8_days 42 = .ok (.aload_n 0, 1) := by decide +kernel
theorem dX8_days_43 : decode cX8_days 43 = .ok (.getfield 16, 3) := by decide +kernel
theorem dX8_days_46 : decode cX8_days 46 = .ok (.getfield 132, 3) := by decide +kernel
theorem dX8_days_49 : decode cX8_days 49 = .ok (.sipush 9999, 3) := by decide +kernel
theorem dX8_days_52 : decode cX8_days 52 = .ok (.if_icmp .le 6, 3) := by decide +kernel
theorem dX8_days_55 : decode cX8_days 55 = .ok (.bipush (-3), 2) := by decide +kernel
theorem dX8_days_57 : decode cX8_days 57 = .ok (.ireturn, 1) := by decide +kernel
theorem dX8_days_58 : decode cX8_days 58 = .ok (.aload_n 0, 1) := by decide +kernel
theorem dX8_days_59 : decode cX8_days 59 = .ok (.getfield 16, 3) := by decide +kernel
theorem dX8_days_62 : decode cX8_days 62 = .ok (.getfield 212, 3) := by decide +kernel
theorem dX8_days_65 : decode cX8_days 65 = .ok (.istore_n 2, 1) := by decide +kernel
theorem dX8_days_66 : decode cX8_days 66 = .ok (.aload_n 0, 1) := by decide +kernel
theorem dX8_days_67 : decode cX8_days 67 = .ok (.getfield 10, 3) := by decide +kernel
theorem dX8_days_70 : decode cX8_days 70 = .ok (.aload_n 0, 1) := by decide +kernel
theorem dX8_days_71 : decode cX8_days 71 = .ok (.getfield 16, 3) := by decide +kernel
theorem dX8_days_74 : decode cX8_days 74 = .ok (.invokevirtual 109, 3) := by decide +kernel
theorem dX8_days_77 : decode cX8_days 77 = .ok (.iload_n 2, 1) := by decide +kernel
theorem dX8_days_78 : decode cX8_days 78 = .ok (.ireturn, 1) := by decide +kernel
theorem dX8_runs_0 : decode cX8_runs 0 = .ok (.iload_n 1, 1) := by decide +kernel
theorem dX8_runs_1 : decode cX8_runs 1 = .ok (.iconst 0, 1) := by decide +kernel
theorem dX8_runs_2 : decode cX8_runs 2 = .ok (.bipush 60, 2) := by decide +kernel
theorem dX8_runs_4 : decode cX8_runs 4 = .ok (.invokestatic 68, 3) := by decide +kernel
theorem dX8_runs_7 : decode cX8_runs 7 = .ok (.ifCond .ne 12, 3) := by decide +kernel
theorem dX8_runs_10 : decode cX8_runs 10 = .ok (.iload_n 2, 1) := by decide +kernel
theorem dX8_runs_11 : decode cX8_runs 11 = .ok (.iconst 0, 1) := by decide +kernel
theorem dX8_runs_12 : decode cX8_runs 12 = .ok (.iconst 3, 1) := by decide +kernel
theorem dX8_runs_13 : decode cX8_runs 13 = .ok (.invokestatic 68, 3) := by decide +kernel
theorem dX8_runs_16 : decode cX8_runs 16 = .ok (.ifCond .eq 5, 3) := by decide +kernel
theorem dX8_runs_19 : decode cX8_runs 19 = .ok (.iconst (-1), 1) := by decide +kernel
theorem dX8_runs_20 : decode cX8_runs 20 = .ok (.ireturn, 1) := by decide +kernel
theorem dX8_runs_21 : decode cX8_runs 21 = .ok (.aload_n 0, 1) := by decide +kernel
theorem dX8_runs_22 : decode cX8_runs 22 = .ok (.invokevirtual 205, 3) := by decide +kernel
theorem dX8_runs_25 : decode cX8_runs 25 = .ok (.iload_n 2, 1) := by decide +kernel
theorem dX8_runs_26 : decode cX8_runs 26 = .ok (.iconst 3, 1) := by decide +kernel
theorem dX8_runs_27 : decode cX8_runs 27 = .ok (.if_icmp .ne 9, 3) := by decide +kernel
theorem dX8_runs_30 : decode cX8_runs 30 = .ok (.aload_n 0, 1) := by decide +kernel
theorem dX8_runs_31 : decode cX8_runs 31 = .ok (.iload_n 1, 1) := by decide +kernel
theorem dX8_runs_32 : decode cX8_runs 32 = .ok (.invokevirtual 215, 3) := by decide +kernel
theorem dX8_runs_35 : decode cX8_runs 35 = .ok (.ireturn, 1) := by decide +kernel
theorem dX8_runs_36 : decode cX8_runs 36 = .ok (.aload_n 0, 1) := by decide +kernel
theorem dX8_runs_37 : decode cX8_runs 37 = .ok (.getfield 16, 3) := by decide +kernel
theorem dX8_runs_40 : decode cX8_runs 40 = .ok (.iload_n 1, 1) := by decide +kernel
theorem dX8_runs_41 : decode cX8_runs 41 = .ok (.invokevirtual 208, 3) := by decide +kernel
theorem dX8_runs_44 : decode cX8_runs 44 = .ok (.iload_n 2, 1) := by decide +kernel
theorem dX8_runs_45 : decode cX8_runs 45 = .ok (.lookupswitch 40 #[(0, 27), (1, 35)], 27) := by decide +kernel
theorem dX8_runs_72 : decode cX8_runs 72 = .ok (.aload_n 0, 1) := by decide +kernel
theorem dX8_runs_73 : decode cX8_runs 73 = .ok (.getfield 16, 3) := by decide +kernel
theorem dX8_runs_76 : decode cX8_runs 76 = .ok (.getfield 212, 3) := by decide +kernel
theorem dX8_runs_79 : decode cX8_runs 79 = .ok (.ireturn, 1) := by decide +kernel
theorem dX8_runs_80 : decode cX8_runs 80 = .ok (.aload_n 0, 1) := by decide +kernel
theorem dX8_runs_81 : decode cX8_runs 81 = .ok (.invokevirtual 218, 3) := by decide +kernel
theorem dX8_runs_84 : decode cX8_runs 84 = .ok (.ireturn, 1) := by decide +kernel
theorem dX8_runs_85 : decode cX8_runs 85 = .ok (.aload_n 0, 1) := by decide +kernel
theorem dX8_runs_86 : decode cX8_runs 86 = .ok (.getfield 16, 3) := by decide +kernel
theorem dX8_runs_89 : decode cX8_runs 89 = .ok (.getfield 221, 3) := by decide +kernel
theorem dX8_runs_92 : decode cX8_runs 92 = .ok (.ireturn, 1) := by decide +kernel
theorem dX8_ahead_0 : decode cX8_ahead 0 = .ok (.aload_n 0, 1) := by decide +kernel
theorem dX8_ahead_1 : decode cX8_ahead 1 = .ok (.getfield 10, 3) := by decide +kernel
theorem dX8_ahead_4 : decode cX8_ahead 4 = .ok (.iload_n 1, 1) := by decide +kernel
theorem dX8_ahead_5 : decode cX8_ahead 5 = .ok (.invokevirtual 159, 3) := by decide +kernel
theorem dX8_ahead_8 : decode cX8_ahead 8 = .ok (.ifCond .eq 22, 3) := by decide +kernel
theorem dX8_ahead_11 : decode cX8_ahead 11 = .ok (.iload_n 2, 1) := by decide +kernel
theorem dX8_ahead_12 : decode cX8_ahead 12 = .ok (.iconst 0, 1) := by decide +kernel
theorem dX8_ahead_13 : decode cX8_ahead 13 = .ok (.bipush 60, 2) := by decide +kernel
theorem dX8_ahead_15 : decode cX8_ahead 15 = .ok (.invokestatic 68, 3) := by decide +kernel
theorem dX8_ahead_18 : decode cX8_ahead 18 = .ok (.ifCond .ne 12, 3) := by decide +kernel
theorem dX8_ahead_21 : decode cX8_ahead 21 = .ok (.iload_n 3, 1) := by decide +kernel
theorem dX8_ahead_22 : decode cX8_ahead 22 = .ok (.iconst 0, 1) := by decide +kernel
theorem dX8_ahead_23 : decode cX8_ahead 23 = .ok (.iconst 1, 1) := by decide +kernel
theorem dX8_ahead_24 : decode cX8_ahead 24 = .ok (.invokestatic 68, 3) := by decide +kernel
theorem dX8_ahead_27 : decode cX8_ahead 27 = .ok (.ifCond .eq 5, 3) := by decide +kernel
theorem dX8_ahead_30 : decode cX8_ahead 30 = .ok (.iconst (-1), 1) := by decide +kernel
theorem dX8_ahead_31 : decode cX8_ahead 31 = .ok (.ireturn, 1) := by decide +kernel
theorem dX8_ahead_32 : decode cX8_ahead 32 = .ok (.aload_n 0, 1) := by decide +kernel
theorem dX8_ahead_33 : decode cX8_ahead 33 = .ok (.invokevirtual 205, 3) := by decide +kernel
theorem dX8_ahead_36 : decode cX8_ahead 36 = .ok (.aload_n 0, 1) := by decide +kernel
theorem dX8_ahead_37 : decode cX8_ahead 37 = .ok (.getfield 16, 3) := by decide +kernel
theorem dX8_ahead_40 : decode cX8_ahead 40 = .ok (.iload_n 1, 1) := by decide +kernel
theorem dX8_ahead_41 : decode cX8_ahead 41 = .ok (.iload_n 2, 1) := by decide +kernel
theorem dX8_ahead_42 : decode cX8_ahead 42 = .ok (.invokevirtual 224, 3) := by decide +kernel
theorem dX8_ahead_45 : decode cX8_ahead 45 = .ok (.iload_n 3, 1) := by decide +kernel
theorem dX8_ahead_46 : decode cX8_ahead 46 = .ok (.ifCond .ne 15, 3) := by decide +kernel
theorem dX8_ahead_49 : decode cX8_ahead 49 = .ok (.aload_n 0, 1) := by decide +kernel
theorem dX8_ahead_50 : decode cX8_ahead 50 = .ok (.getfield 16, 3) := by decide +kernel
theorem dX8_ahead_53 : decode cX8_ahead 53 = .ok (.getfield 165, 3) := by decide +kernel
theorem dX8_ahead_56 : decode cX8_ahead 56 = .ok (.iload_n 1, 1) := by decide +kernel
theorem dX8_ahead_57 : decode cX8_ahead 57 = .ok (.iaload, 1) := by decide +kernel
theorem dX8_ahead_58 : decode cX8_ahead 58 = .ok (.goto 12, 3) := by decide +kernel
theorem dX8_ahead_61 : decode cX8_ahead 61 = .ok (.aload_n 0, 1) := by decide +kernel
theorem dX8_ahead_62 : decode cX8_ahead 62 = .ok (.getfield 16, 3) := by decide +kernel
theorem dX8_ahead_65 : decode cX8_ahead 65 = .ok (.getfield 171, 3) := by decide +kernel
theorem dX8_ahead_68 : decode cX8_ahead 68 = .ok (.iload_n 1, 1) := by decide +kernel
theorem dX8_ahead_69 : decode cX8_ahead 69 = .ok (.iaload, 1) := by decide +kernel
theorem dX8_ahead_70 : decode cX8_ahead 70 = .ok (.ireturn, 1) := by decide +kernel
theorem dX8_done_0 : decode cX8_done 0 = .ok (.aload_n 0, 1) := by decide +kernel
theorem dX8_done_1 : decode cX8_done 1 = .ok (.getfield 10, 3) := by decide +kernel
theorem dX8_done_4 : decode cX8_done 4 = .ok (.iload_n 1, 1) := by decide +kernel
theorem dX8_done_5 : decode cX8_done 5 = .ok (.invokevirtual 159, 3) := by decide +kernel
theorem dX8_done_8 : decode cX8_done 8 = .ok (.ifCond .ne 5, 3) := by decide +kernel
theorem dX8_done_11 : decode cX8_done 11 = .ok (.iconst (-1), 1) := by decide +kernel
theorem dX8_done_12 : decode cX8_done 12 = .ok (.ireturn, 1) := by decide +kernel
theorem dX8_done_13 : decode cX8_done 13 = .ok (.aload_n 0, 1) := by decide +kernel
theorem dX8_done_14 : decode cX8_done 14 = .ok (.invokevirtual 205, 3) := by decide +kernel
theorem dX8_done_17 : decode cX8_done 17 = .ok (.aload_n 0, 1) := by decide +kernel
theorem dX8_done_18 : decode cX8_done 18 = .ok (.getfield 16, 3) := by decide +kernel
theorem dX8_done_21 : decode cX8_done 21 = .ok (.iload_n 1, 1) := by decide +kernel
theorem dX8_done_22 : decode cX8_done 22 = .ok (.bipush 60, 2) := by decide +kernel
theorem dX8_done_24 : decode cX8_done 24 = .ok (.invokevirtual 228, 3) := by decide +kernel
theorem dX8_done_27 : decode cX8_done 27 = .ok (.ireturn, 1) := by decide +kernel
theorem dX8_vertigo_0 : decode cX8_vertigo 0 = .ok (.aload_n 0, 1) := by decide +kernel
theorem dX8_vertigo_1 : decode cX8_vertigo 1 = .ok (.getfield 10, 3) := by decide +kernel
theorem dX8_vertigo_4 : decode cX8_vertigo 4 = .ok (.iload_n 1, 1) := by decide +kernel
theorem dX8_vertigo_5 : decode cX8_vertigo 5 = .ok (.invokevirtual 159, 3) := by decide +kernel
theorem dX8_vertigo_8 : decode cX8_vertigo 8 = .ok (.ifCond .ne 5, 3) := by decide +kernel
theorem dX8_vertigo_11 : decode cX8_vertigo 11 = .ok (.iconst (-1), 1) := by decide +kernel
theorem dX8_vertigo_12 : decode cX8_vertigo 12 = .ok (.ireturn, 1) := by decide +kernel
theorem dX8_vertigo_13 : decode cX8_vertigo 13 = .ok (.aload_n 0, 1) := by decide +kernel
theorem dX8_vertigo_14 : decode cX8_vertigo 14 = .ok (.invokevirtual 205, 3) := by decide +kernel
theorem dX8_vertigo_17 : decode cX8_vertigo 17 = .ok (.aload_n 0, 1) := by decide +kernel
theorem dX8_vertigo_18 : decode cX8_vertigo 18 = .ok (.getfield 16, 3) := by decide +kernel
theorem dX8_vertigo_21 : decode cX8_vertigo 21 = .ok (.iload_n 1, 1) := by decide +kernel
theorem dX8_vertigo_22 : decode cX8_vertigo 22 = .ok (.invokevirtual 231, 3) := by decide +kernel
theorem dX8_vertigo_25 : decode cX8_vertigo 25 = .ok (.ireturn, 1) := by decide +kernel
theorem dX8_order_0 : decode cX8_order 0 = .ok (.iload_n 1, 1) := by decide +kernel
theorem dX8_order_1 : decode cX8_order 1 = .ok (.ifCond .eq 24, 3) := by decide +kernel
theorem dX8_order_4 : decode cX8_order 4 = .ok (.iload_n 1, 1) := by decide +kernel
theorem dX8_order_5 : decode cX8_order 5 = .ok (.bipush 10, 2) := by decide +kernel
theorem dX8_order_7 : decode cX8_order 7 = .ok (.bipush 9, 2) := by decide +kernel
theorem dX8_order_9 : decode cX8_order 9 = .ok (.aload_n 0, 1) := by decide +kernel
theorem dX8_order_10 : decode cX8_order 10 = .ok (.getfield 10, 3) := by decide +kernel
theorem dX8_order_13 : decode cX8_order 13 = .ok (.getfield 126, 3) := by decide +kernel
theorem dX8_order_16 : decode cX8_order 16 = .ok (.iadd, 1) := by decide +kernel
theorem dX8_order_17 : decode cX8_order 17 = .ok (.invokestatic 68, 3) := by decide +kernel
theorem dX8_order_20 : decode cX8_order 20 = .ok (.ifCond .eq 5, 3) := by decide +kernel
theorem dX8_order_23 : decode cX8_order 23 = .ok (.iconst (-1), 1) := by decide +kernel
theorem dX8_order_24 : decode cX8_order 24 = .ok (.ireturn, 1) := by decide +kernel
theorem dX8_order_25 : decode cX8_order 25 = .ok (.aload_n 0, 1) := by decide +kernel
theorem dX8_order_26 : decode cX8_order 26 = .ok (.invokevirtual 234, 3) := by decide +kernel
theorem dX8_order_29 : decode cX8_order 29 = .ok (.istore_n 2, 1) := by decide +kernel
theorem dX8_order_30 : decode cX8_order 30 = .ok (.iload_n 1, 1) := by decide +kernel
theorem dX8_order_31 : decode cX8_order 31 = .ok (.ifCond .ne 7, 3) := by decide +kernel
theorem dX8_order_34 : decode cX8_order 34 = .ok (.iload_n 2, 1) := by decide +kernel
theorem dX8_order_35 : decode cX8_order 35 = .ok (.goto 12, 3) := by decide +kernel
theorem dX8_order_38 : decode cX8_order 38 = .ok (.aload_n 0, 1) := by decide +kernel
theorem dX8_order_39 : decode cX8_order 39 = .ok (.getfield 49, 3) := by decide +kernel
theorem dX8_order_42 : decode cX8_order 42 = .ok (.iload_n 1, 1) := by decide +kernel
theorem dX8_order_43 : decode cX8_order 43 = .ok (.bipush 10, 2) := by decide +kernel
theorem dX8_order_45 : decode cX8_order 45 = .ok (.isub, 1) := by decide +kernel
theorem dX8_order_46 : decode cX8_order 46 = .ok (.iaload, 1) := by decide +kernel
theorem dX8_order_47 : decode cX8_order 47 = .ok (.ireturn, 1) := by decide +kernel
theorem dX8_start_0 : decode cX8_start 0 = .ok (.iload_n 1, 1) := by decide +kernel
theorem dX8_start_1 : decode cX8_start 1 = .ok (.iconst 0, 1) := by decide +kernel
theorem dX8_start_2 : decode cX8_start 2 = .ok (.bipush 60, 2) := by decide +kernel
theorem dX8_start_4 : decode cX8_start 4 = .ok (.invokestatic 68, 3) := by decide +kernel
theorem dX8_start_7 : decode cX8_start 7 = .ok (.ifCond .ne 12, 3) := by decide +kernel
theorem dX8_start_10 : decode cX8_start 10 = .ok (.iload_n 2, 1) := by decide +kernel
theorem dX8_start_11 : decode cX8_start 11 = .ok (.iconst 0, 1) := by decide +kernel
theorem dX8_start_12 : decode cX8_start 12 = .ok (.iconst 1, 1) := by decide +kernel
theorem dX8_start_13 : decode cX8_start 13 = .ok (.invokestatic 68, 3) := by decide +kernel
theorem dX8_start_16 : decode cX8_start 16 = .ok (.ifCond .eq 5, 3) := by decide +kernel
theorem dX8_start_19 : decode cX8_start 19 = .ok (.iconst (-1), 1) := by decide +kernel
theorem dX8_start_20 : decode cX8_start 20 = .ok (.ireturn, 1) := by decide +kernel
theorem dX8_start_21 : decode cX8_start 21 = .ok (.bipush (-4), 2) := by decide +kernel
theorem dX8_start_23 : decode cX8_start 23 = .ok (.istore_n 3, 1) := by decide +kernel
theorem dX8_start_24 : decode cX8_start 24 = .ok (.ldc 237, 2) := by decide +kernel
theorem dX8_start_26 : decode cX8_start 26 = .ok (.istore 4, 2) := by decide +kernel
theorem dX8_start_28 : decode cX8_start 28 = .ok (.iconst 0, 1) := by decide +kernel
theorem dX8_start_29 : decode cX8_start 29 = .ok (.istore 5, 2) := by decide +kernel
theorem dX8_start_31 : decode cX8_start 31 = .ok (.iload 5, 2) := by decide +kernel
theorem dX8_start_33 : decode cX8_start 33 = .ok (.bipush 7, 2) := by decide +kernel
theorem dX8_start_35 : decode cX8_start 35 = .ok (.if_icmp .gt 48, 3) := by decide +kernel
theorem dX8_start_38 : decode cX8_start 38 = .ok (.aload_n 0, 1) := by decide +kernel
theorem dX8_start_39 : decode cX8_start 39 = .ok (.invokevirtual 205, 3) := by decide +kernel
theorem dX8_start_42 : decode cX8_start 42 = .ok (.aload_n 0, 1) := by decide +kernel
theorem dX8_start_43 : decode cX8_start 43 = .ok (.getfield 16, 3) := by decide +kernel
theorem dX8_start_46 : decode cX8_start 46 = .ok (.iload 5, 2) := by decide +kernel
theorem dX8_start_48 : decode cX8_start 48 = .ok (.putfield 129, 3) := by decide +kernel
theorem dX8_start_51 : decode cX8_start 51 = .ok (.aload_n 0, 1) := by decide +kernel
theorem dX8_start_52 : decode cX8_start 52 = .ok (.getfield 16, 3) := by decide +kernel
theorem dX8_start_55 : decode cX8_start 55 = .ok (.iload_n 1, 1) := by decide +kernel
theorem dX8_start_56 : decode cX8_start 56 = .ok (.invokevirtual 238, 3) := by decide +kernel
theorem dX8_start_59 : decode cX8_start 59 = .ok (.aload_n 0, 1) := by decide +kernel
theorem dX8_start_60 : decode cX8_start 60 = .ok (.invokevirtual 218, 3) := by decide +kernel
theorem dX8_start_63 : decode cX8_start 63 = .ok (.iload 4, 2) := by decide +kernel
theorem dX8_start_65 : decode cX8_start 65 = .ok (.if_icmp .ge 12, 3) := by decide +kernel
theorem dX8_start_68 : decode cX8_start 68 = .ok (.aload_n 0, 1) := by decide +kernel
theorem dX8_start_69 : decode cX8_start 69 = .ok (.invokevirtual 218, 3) := by decide +kernel
theorem dX8_start_72 : decode cX8_start 72 = .ok (.istore 4, 2) := by decide +kernel
theorem dX8_start_74 : decode cX8_start 74 = .ok (.iload 5, 2) := by decide +kernel
theorem dX8_start_76 : decode cX8_start 76 = .ok (.istore_n 3, 1) := by decide +kernel
theorem dX8_start_77 : decode cX8_start 77 = .ok (.iinc 5 1, 3) := by decide +kernel
theorem dX8_start_80 : decode cX8_start 80 = .ok (.goto (-49), 3) := by decide +kernel
theorem dX8_start_83 : decode cX8_start 83 = .ok (.iload_n 2, 1) := by decide +kernel
theorem dX8_start_84 : decode cX8_start 84 = .ok (.ifCond .ne 7, 3) := by decide +kernel
theorem dX8_start_87 : decode cX8_start 87 = .ok (.iload_n 3, 1) := by decide +kernel
theorem dX8_start_88 : decode cX8_start 88 = .ok (.goto 5, 3) := by decide +kernel
theorem dX8_start_91 : decode cX8_start 91 = .ok (.iload 4, 2) := by decide +kernel
theorem dX8_start_93 : decode cX8_start 93 = .ok (.ireturn, 1) := by decide +kernel
theorem dX8_swap_0 : decode cX8_swap 0 = .ok (.iload_n 1, 1) := by decide +kernel
theorem dX8_swap_1 : decode cX8_swap 1 = .ok (.iconst 0, 1) := by decide +kernel
theorem dX8_swap_2 : decode cX8_swap 2 = .ok (.bipush 60, 2) := by decide +kernel
theorem dX8_swap_4 : decode cX8_swap 4 = .ok (.invokestatic 68, 3) := by decide +kernel
theorem dX8_swap_7 : decode cX8_swap 7 = .ok (.ifCond .ne 12, 3) := by decide +kernel
theorem dX8_swap_10 : decode cX8_swap 10 = .ok (.iload_n 2, 1) := by decide +kernel
theorem dX8_swap_11 : decode cX8_swap 11 = .ok (.iconst 0, 1) := by decide +kernel
theorem dX8_swap_12 : decode cX8_swap 12 = .ok (.iconst 1, 1) := by decide +kernel
theorem dX8_swap_13 : decode cX8_swap 13 = .ok (.invokestatic 68, 3) := by decide +kernel
theorem dX8_swap_16 : decode cX8_swap 16 = .ok (.ifCond .eq 5, 3) := by decide +kernel
theorem dX8_swap_19 : decode cX8_swap 19 = .ok (.iconst (-1), 1) := by decide +kernel
theorem dX8_swap_20 : decode cX8_swap 20 = .ok (.ireturn, 1) := by decide +kernel
theorem dX8_swap_21 : decode cX8_swap 21 = .ok (.aload_n 0, 1) := by decide +kernel
theorem dX8_swap_22 : decode cX8_swap 22 = .ok (.invokevirtual 205, 3) := by decide +kernel
theorem dX8_swap_25 : decode cX8_swap 25 = .ok (.aload_n 0, 1) := by decide +kernel
theorem dX8_swap_26 : decode cX8_swap 26 = .ok (.getfield 16, 3) := by decide +kernel
theorem dX8_swap_29 : decode cX8_swap 29 = .ok (.iload_n 1, 1) := by decide +kernel
theorem dX8_swap_30 : decode cX8_swap 30 = .ok (.invokevirtual 238, 3) := by decide +kernel
theorem dX8_swap_33 : decode cX8_swap 33 = .ok (.bipush (-4), 2) := by decide +kernel
theorem dX8_swap_35 : decode cX8_swap 35 = .ok (.istore_n 3, 1) := by decide +kernel
theorem dX8_swap_36 : decode cX8_swap 36 = .ok (.aload_n 0, 1) := by decide +kernel
theorem dX8_swap_37 : decode cX8_swap 37 = .ok (.getfield 16, 3) := by decide +kernel
theorem dX8_swap_40 : decode cX8_swap 40 = .ok (.getfield 212, 3) := by decide +kernel
theorem dX8_swap_43 : decode cX8_swap 43 = .ok (.istore 4, 2) := by decide +kernel
theorem dX8_swap_45 : decode cX8_swap 45 = .ok (.iconst 0, 1) := by decide +kernel
theorem dX8_swap_46 : decode cX8_swap 46 = .ok (.istore 5, 2) := by decide +kernel
theorem dX8_swap_48 : decode cX8_swap 48 = .ok (.iload 5, 2) := by decide +kernel
theorem dX8_swap_50 : decode cX8_swap 50 = .ok (.aload_n 0, 1) := by decide +kernel
theorem dX8_swap_51 : decode cX8_swap 51 = .ok (.getfield 10, 3) := by decide +kernel
theorem dX8_swap_54 : decode cX8_swap 54 = .ok (.getfield 123, 3) := by decide +kernel
theorem dX8_swap_57 : decode cX8_swap 57 = .ok (.if_icmp .ge 86, 3) := by decide +kernel
theorem dX8_swap_60 : decode cX8_swap 60 = .ok (.iload 5, 2) := by decide +kernel
theorem dX8_swap_62 : decode cX8_swap 62 = .ok (.iconst 1, 1) := by decide +kernel
theorem dX8_swap_63 : decode cX8_swap 63 = .ok (.iadd, 1) := by decide +kernel
theorem dX8_swap_64 : decode cX8_swap 64 = .ok (.istore 6, 2) := by decide +kernel
theorem dX8_swap_66 : decode cX8_swap 66 = .ok (.iload 6, 2) := by decide +kernel
theorem dX8_swap_68 : decode cX8_swap 68 = .ok (.aload_n 0, 1) := by decide +kernel
theorem dX8_swap_69 : decode cX8_swap 69 = .ok (.getfield 10, 3) := by decide +kernel
theorem dX8_swap_72 : decode cX8_swap 72 = .ok (.getfield 123, 3) := by decide +kernel
theorem dX8_swap_75 : decode cX8_swap 75 = .ok (.if_icmp .ge 62, 3) := by decide +kernel
theorem dX8_swap_78 : decode cX8_swap 78 = .ok (.aload_n 0, 1) := by decide +kernel
theorem dX8_swap_79 : decode cX8_swap 79 = .ok (.invokevirtual 205, 3) := by decide +kernel
theorem dX8_swap_82 : decode cX8_swap 82 = .ok (.aload_n 0, 1) := by decide +kernel
theorem dX8_swap_83 : decode cX8_swap 83 = .ok (.getfield 16, 3) := by decide +kernel
theorem dX8_swap_86 : decode cX8_swap 86 = .ok (.iload 5, 2) := by decide +kernel
theorem dX8_swap_88 : decode cX8_swap 88 = .ok (.iload 6, 2) := by decide +kernel
theorem dX8_swap_90 : decode cX8_swap 90 = .ok (.invokevirtual 241, 3) := by decide +kernel
theorem dX8_swap_93 : decode cX8_swap 93 = .ok (.aload_n 0, 1) := by decide +kernel
theorem dX8_swap_94 : decode cX8_swap 94 = .ok (.getfield 16, 3) := by decide +kernel
theorem dX8_swap_97 : decode cX8_swap 97 = .ok (.iload_n 1, 1) := by decide +kernel
theorem dX8_swap_98 : decode cX8_swap 98 = .ok (.invokevirtual 238, 3) := by decide +kernel
theorem dX8_swap_101 : decode cX8_swap 101 = .ok (.aload_n 0, 1) := by decide +kernel
theorem dX8_swap_102 : decode cX8_swap 102 = .ok (.getfield 16, 3) := by decide +kernel
theorem dX8_swap_105 : decode cX8_swap 105 = .ok (.getfield 212, 3) := by decide +kernel
theorem dX8_swap_108 : decode cX8_swap 108 = .ok (.iload 4, 2) := by decide +kernel
theorem dX8_swap_110 : decode cX8_swap 110 = .ok (.if_icmp .le 21, 3) := by decide +kernel
theorem dX8_swap_113 : decode cX8_swap 113 = .ok (.aload_n 0, 1) := by decide +kernel
theorem dX8_swap_114 : decode cX8_swap 114 = .ok (.getfield 16, 3) := by decide +kernel
theorem dX8_swap_117 : decode cX8_swap 117 = .ok (.getfield 212, 3) := by decide +kernel
theorem dX8_swap_120 : decode cX8_swap 120 = .ok (.istore 4, 2) := by decide +kernel
theorem dX8_swap_122 : decode cX8_swap 122 = .ok (.bipush 10, 2) := by decide +kernel
theorem dX8_swap_124 : decode cX8_swap 124 = .ok (.iload 5, 2) := by decide +kernel
theorem dX8_swap_126 : decode cX8_swap 126 = .ok (.imul, 1) := by decide +kernel
theorem dX8_swap_127 : decode cX8_swap 127 = .ok (.iload 6, 2) := by decide +kernel
theorem dX8_swap_129 : decode cX8_swap 129 = .ok (.iadd, 1) := by decide +kernel
theorem dX8_swap_130 : decode cX8_swap 130 = .ok (.istore_n 3, 1) := by decide +kernel
theorem dX8_swap_131 : decode cX8_swap 131 = .ok (.iinc 6 1, 3) := by decide +kernel
theorem dX8_swap_134 : decode cX8_swap 134 = .ok (.goto (-68), 3) := by decide +kernel
theorem dX8_swap_137 : decode cX8_swap 137 = .ok (.iinc 5 1, 3) := by decide +kernel
theorem dX8_swap_140 : decode cX8_swap 140 = .ok (.goto (-92), 3) := by decide +kernel
theorem dX8_swap_143 : decode cX8_swap 143 = .ok (.iload_n 3, 1) := by decide +kernel
theorem dX8_swap_144 : decode cX8_swap 144 = .ok (.bipush (-4), 2) := by decide +kernel
theorem dX8_swap_146 : decode cX8_swap 146 = .ok (.if_icmp .eq 7, 3) := by decide +kernel
theorem dX8_swap_149 : decode cX8_swap 149 = .ok (.iload_n 2, 1) := by decide +kernel
theorem dX8_swap_150 : decode cX8_swap 150 = .ok (.ifCond .ne 7, 3) := by decide +kernel
theorem dX8_swap_153 : decode cX8_swap 153 = .ok (.iload_n 3, 1) := by decide +kernel
theorem dX8_swap_154 : decode cX8_swap 154 = .ok (.goto 5, 3) := by decide +kernel
theorem dX8_swap_157 : decode cX8_swap 157 = .ok (.iload 4, 2) := by decide +kernel
theorem dX8_swap_159 : decode cX8_swap 159 = .ok (.ireturn, 1) := by decide +kernel
theorem dX8_knee_0 : decode cX8_knee 0 = .ok (.aload_n 0, 1) := by decide +kernel
theorem dX8_knee_1 : decode cX8_knee 1 = .ok (.getfield 10, 3) := by decide +kernel
theorem dX8_knee_4 : decode cX8_knee 4 = .ok (.iload_n 1, 1) := by decide +kernel
theorem dX8_knee_5 : decode cX8_knee 5 = .ok (.invokevirtual 159, 3) := by decide +kernel
theorem dX8_knee_8 : decode cX8_knee 8 = .ok (.ifCond .eq 12, 3) := by decide +kernel
theorem dX8_knee_11 : decode cX8_knee 11 = .ok (.iload_n 2, 1) := by decide +kernel
theorem dX8_knee_12 : decode cX8_knee 12 = .ok (.iconst 0, 1) := by decide +kernel
theorem dX8_knee_13 : decode cX8_knee 13 = .ok (.iconst 1, 1) := by decide +kernel
theorem dX8_knee_14 : decode cX8_knee 14 = .ok (.invokestatic 68, 3) := by decide +kernel
theorem dX8_knee_17 : decode cX8_knee 17 = .ok (.ifCond .eq 5, 3) := by decide +kernel
theorem dX8_knee_20 : decode cX8_knee 20 = .ok (.iconst (-1), 1) := by decide +kernel
theorem dX8_knee_21 : decode cX8_knee 21 = .ok (.ireturn, 1) := by decide +kernel
theorem dX8_knee_22 : decode cX8_knee 22 = .ok (.bipush (-4), 2) := by decide +kernel
theorem dX8_knee_24 : decode cX8_knee 24 = .ok (.istore_n 3, 1) := by decide +kernel
theorem dX8_knee_25 : decode cX8_knee 25 = .ok (.bipush 61, 2) := by decide +kernel
theorem dX8_knee_27 : decode cX8_knee 27 = .ok (.istore 4, 2) := by decide +kernel
theorem dX8_knee_29 : decode cX8_knee 29 = .ok (.iconst 0, 1) := by decide +kernel
theorem dX8_knee_30 : decode cX8_knee 30 = .ok (.istore 5, 2) := by decide +kernel
theorem dX8_knee_32 : decode cX8_knee 32 = .ok (.iload 5, 2) := by decide +kernel
theorem dX8_knee_34 : decode cX8_knee 34 = .ok (.aload_n 0, 1) := by decide +kernel
theorem dX8_knee_35 : decode cX8_knee 35 = .ok (.getfield 10, 3) := by decide +kernel
theorem dX8_knee_38 : decode cX8_knee 38 = .ok (.getfield 123, 3) := by decide +kernel
theorem dX8_knee_41 : decode cX8_knee 41 = .ok (.if_icmp .ge 57, 3) := by decide +kernel
theorem dX8_knee_44 : decode cX8_knee 44 = .ok (.aload_n 0, 1) := by decide +kernel
theorem dX8_knee_45 : decode cX8_knee 45 = .ok (.invokevirtual 205, 3) := by decide +kernel
theorem dX8_knee_48 : decode cX8_knee 48 = .ok (.aload_n 0, 1) := by decide +kernel
theorem dX8_knee_49 : decode cX8_knee 49 = .ok (.getfield 16, 3) := by decide +kernel
theorem dX8_knee_52 : decode cX8_knee 52 = .ok (.getfield 149, 3) := by decide +kernel
theorem dX8_knee_55 : decode cX8_knee 55 = .ok (.iload 5, 2) := by decide +kernel
theorem dX8_knee_57 : decode cX8_knee 57 = .ok (.iconst 0, 1) := by decide +kernel
theorem dX8_knee_58 : decode cX8_knee 58 = .ok (.iastore, 1) := by decide +kernel
theorem dX8_knee_59 : decode cX8_knee 59 = .ok (.aload_n 0, 1) := by decide +kernel
theorem dX8_knee_60 : decode cX8_knee 60 = .ok (.getfield 16, 3) := by decide +kernel
theorem dX8_knee_63 : decode cX8_knee 63 = .ok (.iload_n 1, 1) := by decide +kernel
theorem dX8_knee_64 : decode cX8_knee 64 = .ok (.bipush 60, 2) := by decide +kernel
theorem dX8_knee_66 : decode cX8_knee 66 = .ok (.invokevirtual 228, 3) := by decide +kernel
theorem dX8_knee_69 : decode cX8_knee 69 = .ok (.istore 6, 2) := by decide +kernel
theorem dX8_knee_71 : decode cX8_knee 71 = .ok (.iload 6, 2) := by decide +kernel
theorem dX8_knee_73 : decode cX8_knee 73 = .ok (.bipush (-4), 2) := by decide +kernel
theorem dX8_knee_75 : decode cX8_knee 75 = .ok (.if_icmp .eq 17, 3) := by decide +kernel
theorem dX8_knee_78 : decode cX8_knee 78 = .ok (.iload 6, 2) := by decide +kernel
theorem dX8_knee_80 : decode cX8_knee 80 = .ok (.iload 4, 2) := by decide +kernel
theorem dX8_knee_82 : decode cX8_knee 82 = .ok (.if_icmp .ge 10, 3) := by decide +kernel
theorem dX8_knee_85 : decode cX8_knee 85 = .ok (.iload 6, 2) := by decide +kernel
theorem dX8_knee_87 : decode cX8_knee 87 = .ok (.istore 4, 2) := by decide +kernel
theorem dX8_knee_89 : decode cX8_knee 89 = .ok (.iload 5, 2) := by decide +kernel
theorem dX8_knee_91 : decode cX8_knee 91 = .ok (.istore_n 3, 1) := by decide +kernel
theorem dX8_knee_92 : decode cX8_knee 92 = .ok (.iinc 5 1, 3) := by decide +kernel
theorem dX8_knee_95 : decode cX8_knee 95 = .ok (.goto (-63), 3) := by decide +kernel
theorem dX8_knee_98 : decode cX8_knee 98 = .ok (.iload_n 3, 1) := by decide +kernel
theorem dX8_knee_99 : decode cX8_knee 99 = .ok (.bipush (-4), 2) := by decide +kernel
theorem dX8_knee_101 : decode cX8_knee 101 = .ok (.if_icmp .eq 7, 3) := by decide +kernel
theorem dX8_knee_104 : decode cX8_knee 104 = .ok (.iload_n 2, 1) := by decide +kernel
theorem dX8_knee_105 : decode cX8_knee 105 = .ok (.ifCond .ne 7, 3) := by decide +kernel
theorem dX8_knee_108 : decode cX8_knee 108 = .ok (.iload_n 3, 1) := by decide +kernel
theorem dX8_knee_109 : decode cX8_knee 109 = .ok (.goto 5, 3) := by decide +kernel
theorem dX8_knee_112 : decode cX8_knee 112 = .ok (.iload 4, 2) := by decide +kernel
theorem dX8_knee_114 : decode cX8_knee 114 = .ok (.ireturn, 1) := by decide +kernel
theorem dX8_need_0 : decode cX8_need 0 = .ok (.aload_n 0, 1) := by decide +kernel
theorem dX8_need_1 : decode cX8_need 1 = .ok (.getfield 10, 3) := by decide +kernel
theorem dX8_need_4 : decode cX8_need 4 = .ok (.iload_n 1, 1) := by decide +kernel
theorem dX8_need_5 : decode cX8_need 5 = .ok (.invokevirtual 159, 3) := by decide +kernel
theorem dX8_need_8 : decode cX8_need 8 = .ok (.ifCond .eq 13, 3) := by decide +kernel
theorem dX8_need_11 : decode cX8_need 11 = .ok (.iload_n 2, 1) := by decide +kernel
theorem dX8_need_12 : decode cX8_need 12 = .ok (.iconst 0, 1) := by decide +kernel
theorem dX8_need_13 : decode cX8_need 13 = .ok (.bipush 60, 2) := by decide +kernel
theorem dX8_need_15 : decode cX8_need 15 = .ok (.invokestatic 68, 3) := by decide +kernel
theorem dX8_need_18 : decode cX8_need 18 = .ok (.ifCond .eq 5, 3) := by decide +kernel
theorem dX8_need_21 : decode cX8_need 21 = .ok (.iconst (-1), 1) := by decide +kernel
theorem dX8_need_22 : decode cX8_need 22 = .ok (.ireturn, 1) := by decide +kernel
theorem dX8_need_23 : decode cX8_need 23 = .ok (.iconst 1, 1) := by decide +kernel
theorem dX8_need_24 : decode cX8_need 24 = .ok (.istore_n 3, 1) := by decide +kernel
theorem dX8_need_25 : decode cX8_need 25 = .ok (.iload_n 3, 1) := by decide +kernel
theorem dX8_need_26 : decode cX8_need 26 = .ok (.bipush 99, 2) := by decide +kernel
theorem dX8_need_28 : decode cX8_need 28 = .ok (.if_icmp .gt 39, 3) := by decide +kernel
theorem dX8_need_31 : decode cX8_need 31 = .ok (.aload_n 0, 1) := by decide +kernel
theorem dX8_need_32 : decode cX8_need 32 = .ok (.invokevirtual 205, 3) := by decide +kernel
theorem dX8_need_35 : decode cX8_need 35 = .ok (.aload_n 0, 1) := by decide +kernel
theorem dX8_need_36 : decode cX8_need 36 = .ok (.getfield 16, 3) := by decide +kernel
theorem dX8_need_39 : decode cX8_need 39 = .ok (.getfield 168, 3) := by decide +kernel
theorem dX8_need_42 : decode cX8_need 42 = .ok (.iload_n 1, 1) := by decide +kernel
theorem dX8_need_43 : decode cX8_need 43 = .ok (.iload_n 3, 1) := by decide +kernel
theorem dX8_need_44 : decode cX8_need 44 = .ok (.iastore, 1) := by decide +kernel
theorem dX8_need_45 : decode cX8_need 45 = .ok (.aload_n 0, 1) := by decide +kernel
theorem dX8_need_46 : decode cX8_need 46 = .ok (.getfield 16, 3) := by decide +kernel
theorem dX8_need_49 : decode cX8_need 49 = .ok (.iload_n 1, 1) := by decide +kernel
theorem dX8_need_50 : decode cX8_need 50 = .ok (.iload_n 2, 1) := by decide +kernel
theorem dX8_need_51 : decode cX8_need 51 = .ok (.invokevirtual 228, 3) := by decide +kernel
theorem dX8_need_54 : decode cX8_need 54 = .ok (.bipush (-4), 2) := by decide +kernel
theorem dX8_need_56 : decode cX8_need 56 = .ok (.if_icmp .eq 5, 3) := by decide +kernel
theorem dX8_need_59 : decode cX8_need 59 = .ok (.iload_n 3, 1) := by decide +kernel
theorem dX8_need_60 : decode cX8_need 60 = .ok (.ireturn, 1) := by decide +kernel
theorem dX8_need_61 : decode cX8_need 61 = .ok (.iinc 3 1, 3) := by decide +kernel
theorem dX8_need_64 : decode cX8_need 64 = .ok (.goto (-39), 3) := by decide +kernel
theorem dX8_need_67 : decode cX8_need 67 = .ok (.bipush (-4), 2) := by decide +kernel
theorem dX8_need_69 : decode cX8_need 69 = .ok (.ireturn, 1) := by decide +kernel
theorem dX8_high_0 : decode cX8_high 0 = .ok (.aload_n 0, 1) := by decide +kernel
theorem dX8_high_1 : decode cX8_high 1 = .ok (.getfield 10, 3) := by decide +kernel
theorem dX8_high_4 : decode cX8_high 4 = .ok (.iload_n 1, 1) := by decide +kernel
theorem dX8_high_5 : decode cX8_high 5 = .ok (.invokevirtual 142, 3) := by decide +kernel
theorem dX8_high_8 : decode cX8_high 8 = .ok (.ifCond .eq 24, 3) := by decide +kernel
theorem dX8_high_11 : decode cX8_high 11 = .ok (.aload_n 0, 1) := by decide +kernel
theorem dX8_high_12 : decode cX8_high 12 = .ok (.getfield 10, 3) := by decide +kernel
theorem dX8_high_15 : decode cX8_high 15 = .ok (.iload_n 2, 1) := by decide +kernel
theorem dX8_high_16 : decode cX8_high 16 = .ok (.invokevirtual 159, 3) := by decide +kernel
theorem dX8_high_19 : decode cX8_high 19 = .ok (.ifCond .eq 13, 3) := by decide +kernel
theorem dX8_high_22 : decode cX8_high 22 = .ok (.iload_n 3, 1) := by decide +kernel
theorem dX8_high_23 : decode cX8_high 23 = .ok (.iconst 0, 1) := by decide +kernel
theorem dX8_high_24 : decode cX8_high 24 = .ok (.bipush 60, 2) := by decide +kernel
theorem dX8_high_26 : decode cX8_high 26 = .ok (.invokestatic 68, 3) := by decide +kernel
theorem dX8_high_29 : decode cX8_high 29 = .ok (.ifCond .eq 5, 3) := by decide +kernel
theorem dX8_high_32 : decode cX8_high 32 = .ok (.iconst (-1), 1) := by decide +kernel
theorem dX8_high_33 : decode cX8_high 33 = .ok (.ireturn, 1) := by decide +kernel
theorem dX8_high_34 : decode cX8_high 34 = .ok (.bipush 9, 2) := by decide +kernel
theorem dX8_high_36 : decode cX8_high 36 = .ok (.istore 4, 2) := by decide +kernel
theorem dX8_high_38 : decode cX8_high 38 = .ok (.iload 4, 2) := by decide +kernel
theorem dX8_high_40 : decode cX8_high 40 = .ok (.ifCond .lt 48, 3) := by decide +kernel
theorem dX8_high_43 : decode cX8_high 43 = .ok (.aload_n 0, 1) := by decide +kernel
theorem dX8_high_44 : decode cX8_high 44 = .ok (.invokevirtual 205, 3) := by decide +kernel
theorem dX8_high_47 : decode cX8_high 47 = .ok (.aload_n 0, 1) := by decide +kernel
theorem dX8_high_48 : decode cX8_high 48 = .ok (.getfield 16, 3) := by decide +kernel
theorem dX8_high_51 : decode cX8_high 51 = .ok (.getfield 149, 3) := by decide +kernel
theorem dX8_high_54 : decode cX8_high 54 = .ok (.iload_n 1, 1) := by decide +kernel
theorem dX8_high_55 : decode cX8_high 55 = .ok (.iload 4, 2) := by decide +kernel
theorem dX8_high_57 : decode cX8_high 57 = .ok (.iastore, 1) := by decide +kernel
theorem dX8_high_58 : decode cX8_high 58 = .ok (.aload_n 0, 1) := by decide +kernel
theorem dX8_high_59 : decode cX8_high 59 = .ok (.getfield 16, 3) := by decide +kernel
theorem dX8_high_62 : decode cX8_high 62 = .ok (.iload_n 2, 1) := by decide +kernel
theorem dX8_high_63 : decode cX8_high 63 = .ok (.iload_n 3, 1) := by decide +kernel
theorem dX8_high_64 : decode cX8_high 64 = .ok (.invokevirtual 224, 3) := by decide +kernel
theorem dX8_high_67 : decode cX8_high 67 = .ok (.aload_n 0, 1) := by decide +kernel
theorem dX8_high_68 : decode cX8_high 68 = .ok (.getfield 16, 3) := by decide +kernel
theorem dX8_high_71 : decode cX8_high 71 = .ok (.iload_n 2, 1) := by decide +kernel
theorem dX8_high_72 : decode cX8_high 72 = .ok (.iload_n 1, 1) := by decide +kernel
theorem dX8_high_73 : decode cX8_high 73 = .ok (.invokevirtual 244, 3) := by decide +kernel
theorem dX8_high_76 : decode cX8_high 76 = .ok (.ifCond .eq 6, 3) := by decide +kernel
theorem dX8_high_79 : decode cX8_high 79 = .ok (.iload 4, 2) := by decide +kernel
theorem dX8_high_81 : decode cX8_high 81 = .ok (.ireturn, 1) := by decide +kernel
theorem dX8_high_82 : decode cX8_high 82 = .ok (.iinc 4 (-1), 3) := by decide +kernel
theorem dX8_high_85 : decode cX8_high 85 = .ok (.goto (-47), 3) := by decide +kernel
theorem dX8_high_88 : decode cX8_high 88 = .ok (.bipush (-4), 2) := by decide +kernel
theorem dX8_high_90 : decode cX8_high 90 = .ok (.ireturn, 1) := by decide +kernel
theorem dX8_luck_0 : decode cX8_luck 0 = .ok (.iload_n 1, 1) := by decide +kernel
theorem dX8_luck_1 : decode cX8_luck 1 = .ok (.iconst 0, 1) := by decide +kernel
theorem dX8_luck_2 : decode cX8_luck 2 = .ok (.bipush 10, 2) := by decide +kernel
theorem dX8_luck_4 : decode cX8_luck 4 = .ok (.invokestatic 68, 3) := by decide +kernel
theorem dX8_luck_7 : decode cX8_luck 7 = .ok (.ifCond .ne 34, 3) := by decide +kernel
theorem dX8_luck_10 : decode cX8_luck 10 = .ok (.iload_n 2, 1) := by decide +kernel
theorem dX8_luck_11 : decode cX8_luck 11 = .ok (.iconst 0, 1) := by decide +kernel
theorem dX8_luck_12 : decode cX8_luck 12 = .ok (.bipush 8, 2) := by decide +kernel
theorem dX8_luck_14 : decode cX8_luck 14 = .ok (.invokestatic 68, 3) := by decide +kernel
theorem dX8_luck_17 : decode cX8_luck 17 = .ok (.ifCond .ne 24, 3) := by decide +kernel
theorem dX8_luck_20 : decode cX8_luck 20 = .ok (.iload_n 3, 1) := by decide +kernel
theorem dX8_luck_21 : decode cX8_luck 21 = .ok (.iconst 0, 1) := by decide +kernel
theorem dX8_luck_22 : decode cX8_luck 22 = .ok (.sipush 9999, 3) := by decide +kernel
theorem dX8_luck_25 : decode cX8_luck 25 = .ok (.invokestatic 68, 3) := by decide +kernel
theorem dX8_luck_28 : decode cX8_luck 28 = .ok (.ifCond .ne 13, 3) := by decide +kernel
theorem dX8_luck_31 : decode cX8_luck 31 = .ok (.iload 4, 2) := by decide +kernel
theorem dX8_luck_33 : decode cX8_luck 33 = .ok (.iconst 0, 1) := by decide +kernel
theorem dX8_luck_34 : decode cX8_luck 34 = .ok (.iconst 1, 1) := by decide +kernel
theorem dX8_luck_35 : decode cX8_luck 35 = .ok (.invokestatic 68, 3) := by decide +kernel
theorem dX8_luck_38 : decode cX8_luck 38 = .ok (.ifCond .eq 7, 3) := by decide +kernel
theorem dX8_luck_41 : decode cX8_luck 41 = .ok (.ldc2_w 248, 3) := by decide +kernel
theorem dX8_luck_44 : decode cX8_luck 44 = .ok (.lreturn, 1) := by decide +kernel
theorem dX8_luck_45 : decode cX8_luck 45 = .ok (.aload_n 0, 1) := by decide +kernel
theorem dX8_luck_46 : decode cX8_luck 46 = .ok (.getfield 55, 3) := by decide +kernel
theorem dX8_luck_49 : decode cX8_luck 49 = .ok (.aload_n 0, 1) := by decide +kernel
theorem dX8_luck_50 : decode cX8_luck 50 = .ok (.getfield 10, 3) := by decide +kernel
theorem dX8_luck_53 : decode cX8_luck 53 = .ok (.aload_n 0, 1) := by decide +kernel
theorem dX8_luck_54 : decode cX8_luck 54 = .ok (.getfield 16, 3) := by decide +kernel
theorem dX8_luck_57 : decode cX8_luck 57 = .ok (.iload_n 2, 1) := by decide +kernel
theorem dX8_luck_58 : decode cX8_luck 58 = .ok (.invokevirtual 250, 3) := by decide +kernel
theorem dX8_luck_61 : decode cX8_luck 61 = .ok (.lconst 1, 1) := by decide +kernel
theorem dX8_luck_62 : decode cX8_luck 62 = .ok (.lstore 5, 2) := by decide +kernel
theorem dX8_luck_64 : decode cX8_luck 64 = .ok (.iconst 0, 1) := by decide +kernel
theorem dX8_luck_65 : decode cX8_luck 65 = .ok (.istore 7, 2) := by decide +kernel
theorem dX8_luck_67 : decode cX8_luck 67 = .ok (.iload 7, 2) := by decide +kernel
theorem dX8_luck_69 : decode cX8_luck 69 = .ok (.iload_n 2, 1) := by decide +kernel
theorem dX8_luck_70 : decode cX8_luck 70 = .ok (.if_icmp .ge 17, 3) := by decide +kernel
theorem dX8_luck_73 : decode cX8_luck 73 = .ok (.lload 5, 2) := by decide +kernel
theorem dX8_luck_75 : decode cX8_luck 75 = .ok (.ldc2_w 254, 3) := by decide +kernel
theorem dX8_luck_78 : decode cX8_luck 78 = .ok (.lmul, 1) := by decide +kernel
theorem dX8_luck_79 : decode cX8_luck 79 = .ok (.lstore 5, 2) := by decide +kernel
theorem dX8_luck_81 : decode cX8_luck 81 = .ok (.iinc 7 1, 3) := by decide +kernel
theorem dX8_luck_84 : decode cX8_luck 84 = .ok (.goto (-17), 3) := by decide +kernel
theorem dX8_luck_87 : decode cX8_luck 87 = .ok (.aload_n 0, 1) := by decide +kernel
theorem dX8_luck_88 : decode cX8_luck 88 = .ok (.getfield 55, 3) := by decide +kernel
theorem dX8_luck_91 : decode cX8_luck 91 = .ok (.iload_n 1, 1) := by decide +kernel
theorem dX8_luck_92 : decode cX8_luck 92 = .ok (.iload_n 3, 1) := by decide +kernel
theorem dX8_luck_93 : decode cX8_luck 93 = .ok (.invokevirtual 256, 3) := by decide +kernel
theorem dX8_luck_96 : decode cX8_luck 96 = .ok (.lload 5, 2) := by decide +kernel
theorem dX8_luck_98 : decode cX8_luck 98 = .ok (.iload 4, 2) := by decide +kernel
theorem dX8_luck_100 : decode cX8_luck 100 = .ok (.invokestatic 260, 3) := by decide +kernel
theorem dX8_luck_103 : decode cX8_luck 103 = .ok (.lreturn, 1) := by decide +kernel
theorem dX8_mean_0 : decode cX8_mean 0 = .ok (.iload_n 1, 1) := by decide +kernel
theorem dX8_mean_1 : decode cX8_mean 1 = .ok (.iconst 0, 1) := by decide +kernel
theorem dX8_mean_2 : decode cX8_mean 2 = .ok (.bipush 10, 2) := by decide +kernel
theorem dX8_mean_4 : decode cX8_mean 4 = .ok (.invokestatic 68, 3) := by decide +kernel
theorem dX8_mean_7 : decode cX8_mean 7 = .ok (.ifCond .ne 22, 3) := by decide +kernel
theorem dX8_mean_10 : decode cX8_mean 10 = .ok (.iload_n 2, 1) := by decide +kernel
theorem dX8_mean_11 : decode cX8_mean 11 = .ok (.iconst 0, 1) := by decide +kernel
theorem dX8_mean_12 : decode cX8_mean 12 = .ok (.bipush 8, 2) := by decide +kernel
theorem dX8_mean_14 : decode cX8_mean 14 = .ok (.invokestatic 68, 3) := by decide +kernel
theorem dX8_mean_17 : decode cX8_mean 17 = .ok (.ifCond .ne 12, 3) := by decide +kernel
theorem dX8_mean_20 : decode cX8_mean 20 = .ok (.iload_n 3, 1) := by decide +kernel
theorem dX8_mean_21 : decode cX8_mean 21 = .ok (.iconst 0, 1) := by decide +kernel
theorem dX8_mean_22 : decode cX8_mean 22 = .ok (.iconst 1, 1) := by decide +kernel
theorem dX8_mean_23 : decode cX8_mean 23 = .ok (.invokestatic 68, 3) := by decide +kernel
theorem dX8_mean_26 : decode cX8_mean 26 = .ok (.ifCond .eq 7, 3) := by decide +kernel
theorem dX8_mean_29 : decode cX8_mean 29 = .ok (.ldc2_w 248, 3) := by decide +kernel
theorem dX8_mean_32 : decode cX8_mean 32 = .ok (.lreturn, 1) := by decide +kernel
theorem dX8_mean_33 : decode cX8_mean 33 = .ok (.aload_n 0, 1) := by decide +kernel
theorem dX8_mean_34 : decode cX8_mean 34 = .ok (.getfield 55, 3) := by decide +kernel
theorem dX8_mean_37 : decode cX8_mean 37 = .ok (.aload_n 0, 1) := by decide +kernel
theorem dX8_mean_38 : decode cX8_mean 38 = .ok (.getfield 10, 3) := by decide +kernel
theorem dX8_mean_41 : decode cX8_mean 41 = .ok (.aload_n 0, 1) := by decide +kernel
theorem dX8_mean_42 : decode cX8_mean 42 = .ok (.getfield 16, 3) := by decide +kernel
theorem dX8_mean_45 : decode cX8_mean 45 = .ok (.iload_n 2, 1) := by decide +kernel
theorem dX8_mean_46 : decode cX8_mean 46 = .ok (.invokevirtual 250, 3) := by decide +kernel
theorem dX8_mean_49 : decode cX8_mean 49 = .ok (.aload_n 0, 1) := by decide +kernel
theorem dX8_mean_50 : decode cX8_mean 50 = .ok (.getfield 55, 3) := by decide +kernel
theorem dX8_mean_53 : decode cX8_mean 53 = .ok (.iload_n 1, 1) := by decide +kernel
theorem dX8_mean_54 : decode cX8_mean 54 = .ok (.invokevirtual 264, 3) := by decide +kernel
theorem dX8_mean_57 : decode cX8_mean 57 = .ok (.ldc2_w 254, 3) := by decide +kernel
theorem dX8_mean_60 : decode cX8_mean 60 = .ok (.iload_n 3, 1) := by decide +kernel
theorem dX8_mean_61 : decode cX8_mean 61 = .ok (.invokestatic 260, 3) := by decide +kernel
theorem dX8_mean_64 : decode cX8_mean 64 = .ok (.lreturn, 1) := by decide +kernel
theorem dX8_see_0 : decode cX8_see 0 = .ok (.iload_n 1, 1) := by decide +kernel
theorem dX8_see_1 : decode cX8_see 1 = .ok (.iconst 0, 1) := by decide +kernel
theorem dX8_see_2 : decode cX8_see 2 = .ok (.bipush 20, 2) := by decide +kernel
theorem dX8_see_4 : decode cX8_see 4 = .ok (.invokestatic 68, 3) := by decide +kernel
theorem dX8_see_7 : decode cX8_see 7 = .ok (.ifCond .ne 21, 3) := by decide +kernel
theorem dX8_see_10 : decode cX8_see 10 = .ok (.aload_n 0, 1) := by decide +kernel
theorem dX8_see_11 : decode cX8_see 11 = .ok (.getfield 10, 3) := by decide +kernel
theorem dX8_see_14 : decode cX8_see 14 = .ok (.iload_n 2, 1) := by decide +kernel
theorem dX8_see_15 : decode cX8_see 15 = .ok (.invokevirtual 159, 3) := by decide +kernel
theorem dX8_see_18 : decode cX8_see 18 = .ok (.ifCond .eq 10, 3) := by decide +kernel
theorem dX8_see_21 : decode cX8_see 21 = .ok (.iload_n 3, 1) := by decide +kernel
theorem dX8_see_22 : decode cX8_see 22 = .ok (.invokestatic 268, 3) := by decide +kernel
theorem dX8_see_25 : decode cX8_see 25 = .ok (.ifCond .ne 5, 3) := by decide +kernel
theorem dX8_see_28 : decode cX8_see 28 = .ok (.iconst (-1), 1) := by decide +kernel
theorem dX8_see_29 : decode cX8_see 29 = .ok (.ireturn, 1) := by decide +kernel
theorem dX8_see_30 : decode cX8_see 30 = .ok (.aload_n 0, 1) := by decide +kernel
theorem dX8_see_31 : decode cX8_see 31 = .ok (.getfield 29, 3) := by decide +kernel
theorem dX8_see_34 : decode cX8_see 34 = .ok (.getfield 113, 3) := by decide +kernel
theorem dX8_see_37 : decode cX8_see 37 = .ok (.bipush 6, 2) := by decide +kernel
theorem dX8_see_39 : decode cX8_see 39 = .ok (.if_icmp .lt 6, 3) := by decide +kernel
theorem dX8_see_42 : decode cX8_see 42 = .ok (.bipush (-3), 2) := by decide +kernel
theorem dX8_see_44 : decode cX8_see 44 = .ok (.ireturn, 1) := by decide +kernel
theorem dX8_see_45 : decode cX8_see 45 = .ok (.aload_n 0, 1) := by decide +kernel
theorem dX8_see_46 : decode cX8_see 46 = .ok (.getfield 29, 3) := by decide +kernel
theorem dX8_see_49 : decode cX8_see 49 = .ok (.iload_n 1, 1) := by decide +kernel
theorem dX8_see_50 : decode cX8_see 50 = .ok (.iload_n 2, 1) := by decide +kernel
theorem dX8_see_51 : decode cX8_see 51 = .ok (.iload_n 3, 1) := by decide +kernel
theorem dX8_see_52 : decode cX8_see 52 = .ok (.invokestatic 191, 3) := by decide +kernel
theorem dX8_see_55 : decode cX8_see 55 = .ok (.invokevirtual 271, 3) := by decide +kernel
theorem dX8_see_58 : decode cX8_see 58 = .ok (.aload_n 0, 1) := by decide +kernel
theorem dX8_see_59 : decode cX8_see 59 = .ok (.getfield 29, 3) := by decide +kernel
theorem dX8_see_62 : decode cX8_see 62 = .ok (.getfield 113, 3) := by decide +kernel
theorem dX8_see_65 : decode cX8_see 65 = .ok (.ireturn, 1) := by decide +kernel
theorem dX8_forget_0 : decode cX8_forget 0 = .ok (.iload_n 1, 1) := by decide +kernel
theorem dX8_forget_1 : decode cX8_forget 1 = .ok (.iconst 0, 1) := by decide +kernel
theorem dX8_forget_2 : decode cX8_forget 2 = .ok (.aload_n 0, 1) := by decide +kernel
theorem dX8_forget_3 : decode cX8_forget 3 = .ok (.getfield 29, 3) := by decide +kernel
theorem dX8_forget_6 : decode cX8_forget 6 = .ok (.getfield 113, 3) := by decide +kernel
theorem dX8_forget_9 : decode cX8_forget 9 = .ok (.invokestatic 68, 3) := by decide +kernel
theorem dX8_forget_12 : decode cX8_forget 12 = .ok (.ifCond .eq 5, 3) := by decide +kernel
theorem dX8_forget_15 : decode cX8_forget 15 = .ok (.iconst (-1), 1) := by decide +kernel
theorem dX8_forget_16 : decode cX8_forget 16 = .ok (.ireturn, 1) := by decide +kernel
theorem dX8_forget_17 : decode cX8_forget 17 = .ok (.aload_n 0, 1) := by decide +kernel
theorem dX8_forget_18 : decode cX8_forget 18 = .ok (.getfield 29, 3) := by decide +kernel
theorem dX8_forget_21 : decode cX8_forget 21 = .ok (.getfield 113, 3) := by decide +kernel
theorem dX8_forget_24 : decode cX8_forget 24 = .ok (.istore_n 2, 1) := by decide +kernel
theorem dX8_forget_25 : decode cX8_forget 25 = .ok (.aload_n 0, 1) := by decide +kernel
theorem dX8_forget_26 : decode cX8_forget 26 = .ok (.getfield 29, 3) := by decide +kernel
theorem dX8_forget_29 : decode cX8_forget 29 = .ok (.iload_n 1, 1) := by decide +kernel
theorem dX8_forget_30 : decode cX8_forget 30 = .ok (.putfield 113, 3) := by decide +kernel
theorem dX8_forget_33 : decode cX8_forget 33 = .ok (.iload_n 2, 1) := by decide +kernel
theorem dX8_forget_34 : decode cX8_forget 34 = .ok (.ireturn, 1) := by decide +kernel
theorem dX8_kinds_0 : decode cX8_kinds 0 = .ok (.aload_n 0, 1) := by decide +kernel
theorem dX8_kinds_1 : decode cX8_kinds 1 = .ok (.getfield 10, 3) := by decide +kernel
theorem dX8_kinds_4 : decode cX8_kinds 4 = .ok (.iload_n 1, 1) := by decide +kernel
theorem dX8_kinds_5 : decode cX8_kinds 5 = .ok (.invokevirtual 159, 3) := by decide +kernel
theorem dX8_kinds_8 : decode cX8_kinds 8 = .ok (.ifCond .ne 5, 3) := by decide +kernel
theorem dX8_kinds_11 : decode cX8_kinds 11 = .ok (.iconst (-1), 1) := by decide +kernel
theorem dX8_kinds_12 : decode cX8_kinds 12 = .ok (.ireturn, 1) := by decide +kernel
theorem dX8_kinds_13 : decode cX8_kinds 13 = .ok (.iconst 0, 1) := by decide +kernel
theorem dX8_kinds_14 : decode cX8_kinds 14 = .ok (.istore_n 2, 1) := by decide +kernel
theorem dX8_kinds_15 : decode cX8_kinds 15 = .ok (.iconst 0, 1) := by decide +kernel
theorem dX8_kinds_16 : decode cX8_kinds 16 = .ok (.istore_n 3, 1) := by decide +kernel
theorem dX8_kinds_17 : decode cX8_kinds 17 = .ok (.iload_n 3, 1) := by decide +kernel
theorem dX8_kinds_18 : decode cX8_kinds 18 = .ok (.iconst 3, 1) := by decide +kernel
theorem dX8_kinds_19 : decode cX8_kinds 19 = .ok (.if_icmp .gt 43, 3) := by decide +kernel
theorem dX8_kinds_22 : decode cX8_kinds 22 = .ok (.aload_n 0, 1) := by decide +kernel
theorem dX8_kinds_23 : decode cX8_kinds 23 = .ok (.invokevirtual 205, 3) := by decide +kernel
theorem dX8_kinds_26 : decode cX8_kinds 26 = .ok (.aload_n 0, 1) := by decide +kernel
theorem dX8_kinds_27 : decode cX8_kinds 27 = .ok (.getfield 16, 3) := by decide +kernel
theorem dX8_kinds_30 : decode cX8_kinds 30 = .ok (.getfield 162, 3) := by decide +kernel
theorem dX8_kinds_33 : decode cX8_kinds 33 = .ok (.iload_n 1, 1) := by decide +kernel
theorem dX8_kinds_34 : decode cX8_kinds 34 = .ok (.iload_n 3, 1) := by decide +kernel
theorem dX8_kinds_35 : decode cX8_kinds 35 = .ok (.iastore, 1) := by decide +kernel
theorem dX8_kinds_36 : decode cX8_kinds 36 = .ok (.aload_n 0, 1) := by decide +kernel
theorem dX8_kinds_37 : decode cX8_kinds 37 = .ok (.getfield 29, 3) := by decide +kernel
theorem dX8_kinds_40 : decode cX8_kinds 40 = .ok (.aload_n 0, 1) := by decide +kernel
theorem dX8_kinds_41 : decode cX8_kinds 41 = .ok (.getfield 16, 3) := by decide +kernel
theorem dX8_kinds_44 : decode cX8_kinds 44 = .ok (.invokevirtual 275, 3) := by decide +kernel
theorem dX8_kinds_47 : decode cX8_kinds 47 = .ok (.ifCond .eq 9, 3) := by decide +kernel
theorem dX8_kinds_50 : decode cX8_kinds 50 = .ok (.iload_n 2, 1) := by decide +kernel
theorem dX8_kinds_51 : decode cX8_kinds 51 = .ok (.iconst 1, 1) := by decide +kernel
theorem dX8_kinds_52 : decode cX8_kinds 52 = .ok (.iload_n 3, 1) := by decide +kernel
theorem dX8_kinds_53 : decode cX8_kinds 53 = .ok (.ishl, 1) := by decide +kernel
theorem dX8_kinds_54 : decode cX8_kinds 54 = .ok (.ior, 1) := by decide +kernel
theorem dX8_kinds_55 : decode cX8_kinds 55 = .ok (.istore_n 2, 1) := by decide +kernel
theorem dX8_kinds_56 : decode cX8_kinds 56 = .ok (.iinc 3 1, 3) := by decide +kernel
theorem dX8_kinds_59 : decode cX8_kinds 59 = .ok (.goto (-42), 3) := by decide +kernel
theorem dX8_kinds_62 : decode cX8_kinds 62 = .ok (.iload_n 2, 1) := by decide +kernel
theorem dX8_kinds_63 : decode cX8_kinds 63 = .ok (.ireturn, 1) := by decide +kernel
theorem dX8_heights_0 : decode cX8_heights 0 = .ok (.aload_n 0, 1) := by decide +kernel
theorem dX8_heights_1 : decode cX8_heights 1 = .ok (.getfield 10, 3) := by decide +kernel
theorem dX8_heights_4 : decode cX8_heights 4 = .ok (.iload_n 1, 1) := by decide +kernel
theorem dX8_heights_5 : decode cX8_heights 5 = .ok (.invokevirtual 142, 3) := by decide +kernel
theorem dX8_heights_8 : decode cX8_heights 8 = .ok (.ifCond .eq 11, 3) := by decide +kernel
theorem dX8_heights_11 : decode cX8_heights 11 = .ok (.aload_n 0, 1) := by decide +kernel
theorem dX8_heights_12 : decode cX8_heights 12 = .ok (.iload_n 1, 1) := by decide +kernel
theorem dX8_heights_13 : decode cX8_heights 13 = .ok (.invokevirtual 279, 3) := by decide +kernel
theorem dX8_heights_16 : decode cX8_heights 16 = .ok (.goto 4, 3) := by decide +kernel
theorem dX8_heights_19 : decode cX8_heights 19 = .ok (.iconst (-1), 1) := by decide +kernel
theorem dX8_heights_20 : decode cX8_heights 20 = .ok (.ireturn, 1) := by decide +kernel
theorem dX8_ask_0 : decode cX8_ask 0 = .ok (.aload_n 0, 1) := by decide +kernel
theorem dX8_ask_1 : decode cX8_ask 1 = .ok (.getfield 10, 3) := by decide +kernel
theorem dX8_ask_4 : decode cX8_ask 4 = .ok (.iload_n 1, 1) := by decide +kernel
theorem dX8_ask_5 : decode cX8_ask 5 = .ok (.invokevirtual 142, 3) := by decide +kernel
theorem dX8_ask_8 : decode cX8_ask 8 = .ok (.ifCond .eq 12, 3) := by decide +kernel
theorem dX8_ask_11 : decode cX8_ask 11 = .ok (.iload_n 2, 1) := by decide +kernel
theorem dX8_ask_12 : decode cX8_ask 12 = .ok (.iconst 0, 1) := by decide +kernel
theorem dX8_ask_13 : decode cX8_ask 13 = .ok (.iconst 1, 1) := by decide +kernel
theorem dX8_ask_14 : decode cX8_ask 14 = .ok (.invokestatic 68, 3) := by decide +kernel
theorem dX8_ask_17 : decode cX8_ask 17 = .ok (.ifCond .eq 5, 3) := by decide +kernel
theorem dX8_ask_20 : decode cX8_ask 20 = .ok (.iconst (-1), 1) := by decide +kernel
theorem dX8_ask_21 : decode cX8_ask 21 = .ok (.ireturn, 1) := by decide +kernel
theorem dX8_ask_22 : decode cX8_ask 22 = .ok (.aload_n 0, 1) := by decide +kernel
theorem dX8_ask_23 : decode cX8_ask 23 = .ok (.iload_n 1, 1) := by decide +kernel
theorem dX8_ask_24 : decode cX8_ask 24 = .ok (.invokevirtual 279, 3) := by decide +kernel
theorem dX8_ask_27 : decode cX8_ask 27 = .ok (.istore_n 3, 1) := by decide +kernel
theorem dX8_ask_28 : decode cX8_ask 28 = .ok (.aload_n 0, 1) := by decide +kernel
theorem dX8_ask_29 : decode cX8_ask 29 = .ok (.getfield 62, 3) := by decide +kernel
theorem dX8_ask_32 : decode cX8_ask 32 = .ok (.aload_n 0, 1) := by decide +kernel
theorem dX8_ask_33 : decode cX8_ask 33 = .ok (.getfield 10, 3) := by decide +kernel
theorem dX8_ask_36 : decode cX8_ask 36 = .ok (.aload_n 0, 1) := by decide +kernel
theorem dX8_ask_37 : decode cX8_ask 37 = .ok (.getfield 16, 3) := by decide +kernel
theorem dX8_ask_40 : decode cX8_ask 40 = .ok (.iload_n 1, 1) := by decide +kernel
theorem dX8_ask_41 : decode cX8_ask 41 = .ok (.iload_n 3, 1) := by decide +kernel
theorem dX8_ask_42 : decode cX8_ask 42 = .ok (.invokevirtual 282, 3) := by decide +kernel
theorem dX8_ask_45 : decode cX8_ask 45 = .ok (.bipush (-4), 2) := by decide +kernel
theorem dX8_ask_47 : decode cX8_ask 47 = .ok (.istore 4, 2) := by decide +kernel
theorem dX8_ask_49 : decode cX8_ask 49 = .ok (.iload_n 3, 1) := by decide +kernel
theorem dX8_ask_50 : decode cX8_ask 50 = .ok (.invokestatic 194, 3) := by decide +kernel
theorem dX8_ask_53 : decode cX8_ask 53 = .ok (.istore 5, 2) := by decide +kernel
theorem dX8_ask_55 : decode cX8_ask 55 = .ok (.iconst 0, 1) := by decide +kernel
theorem dX8_ask_56 : decode cX8_ask 56 = .ok (.istore 6, 2) := by decide +kernel
theorem dX8_ask_58 : decode cX8_ask 58 = .ok (.iload 6, 2) := by decide +kernel
theorem dX8_ask_60 : decode cX8_ask 60 = .ok (.bipush 20, 2) := by decide +kernel
theorem dX8_ask_62 : decode cX8_ask 62 = .ok (.if_icmp .gt 65, 3) := by decide +kernel
theorem dX8_ask_65 : decode cX8_ask 65 = .ok (.iconst 0, 1) := by decide +kernel
theorem dX8_ask_66 : decode cX8_ask 66 = .ok (.istore 7, 2) := by decide +kernel
theorem dX8_ask_68 : decode cX8_ask 68 = .ok (.iload 7, 2) := by decide +kernel
theorem dX8_ask_70 : decode cX8_ask 70 = .ok (.aload_n 0, 1) := by decide +kernel
theorem dX8_ask_71 : decode cX8_ask 71 = .ok (.getfield 10, 3) := by decide +kernel
theorem dX8_ask_74 : decode cX8_ask 74 = .ok (.getfield 126, 3) := by decide +kernel
theorem dX8_ask_77 : decode cX8_ask 77 = .ok (.if_icmp .ge 44, 3) := by decide +kernel
theorem dX8_ask_80 : decode cX8_ask 80 = .ok (.aload_n 0, 1) := by decide +kernel
theorem dX8_ask_81 : decode cX8_ask 81 = .ok (.getfield 62, 3) := by decide +kernel
theorem dX8_ask_84 : decode cX8_ask 84 = .ok (.iload_n 3, 1) := by decide +kernel
theorem dX8_ask_85 : decode cX8_ask 85 = .ok (.iload 6, 2) := by decide +kernel
theorem dX8_ask_87 : decode cX8_ask 87 = .ok (.iload 7, 2) := by decide +kernel
theorem dX8_ask_89 : decode cX8_ask 89 = .ok (.invokevirtual 285, 3) := by decide +kernel
theorem dX8_ask_92 : decode cX8_ask 92 = .ok (.istore 8, 2) := by decide +kernel
theorem dX8_ask_94 : decode cX8_ask 94 = .ok (.iload 8, 2) := by decide +kernel
theorem dX8_ask_96 : decode cX8_ask 96 = .ok (.iload 5, 2) := by decide +kernel
theorem dX8_ask_98 : decode cX8_ask 98 = .ok (.if_icmp .ge 17, 3) := by decide +kernel
theorem dX8_ask_101 : decode cX8_ask 101 = .ok (.iload 8, 2) := by decide +kernel
theorem dX8_ask_103 : decode cX8_ask 103 = .ok (.istore 5, 2) := by decide +kernel
theorem dX8_ask_105 : decode cX8_ask 105 = .ok (.bipush 10, 2) := by decide +kernel
theorem dX8_ask_107 : decode cX8_ask 107 = .ok (.iload 6, 2) := by decide +kernel
theorem dX8_ask_109 : decode cX8_ask 109 = .ok (.imul, 1) := by decide +kernel
theorem dX8_ask_110 : decode cX8_ask 110 = .ok (.iload 7, 2) := by decide +kernel
theorem dX8_ask_112 : decode cX8_ask 112 = .ok (.iadd, 1) := by decide +kernel
theorem dX8_ask_113 : decode cX8_ask 113 = .ok (.istore 4, 2) := by decide +kernel
theorem dX8_ask_115 : decode cX8_ask 115 = .ok (.iinc 7 1, 3) := by decide +kernel
theorem dX8_ask_118 : decode cX8_ask 118 = .ok (.goto (-50), 3) := by decide +kernel
theorem dX8_ask_121 : decode cX8_ask 121 = .ok (.iinc 6 1, 3) := by decide +kernel
theorem dX8_ask_124 : decode cX8_ask 124 = .ok (.goto (-66), 3) := by decide +kernel
theorem dX8_ask_127 : decode cX8_ask 127 = .ok (.iload 4, 2) := by decide +kernel
theorem dX8_ask_129 : decode cX8_ask 129 = .ok (.bipush (-4), 2) := by decide +kernel
theorem dX8_ask_131 : decode cX8_ask 131 = .ok (.if_icmp .eq 7, 3) := by decide +kernel
theorem dX8_ask_134 : decode cX8_ask 134 = .ok (.iload_n 2, 1) := by decide +kernel
theorem dX8_ask_135 : decode cX8_ask 135 = .ok (.ifCond .ne 8, 3) := by decide +kernel
theorem dX8_ask_138 : decode cX8_ask 138 = .ok (.iload 4, 2) := by decide +kernel
theorem dX8_ask_140 : decode cX8_ask 140 = .ok (.goto 5, 3) := by decide +kernel
theorem dX8_ask_143 : decode cX8_ask 143 = .ok (.iload 5, 2) := by decide +kernel
theorem dX8_ask_145 : decode cX8_ask 145 = .ok (.ireturn, 1) := by decide +kernel
theorem dX8_drift_0 : decode cX8_drift 0 = .ok (.iload_n 2, 1) := by decide +kernel
theorem dX8_drift_1 : decode cX8_drift 1 = .ok (.iconst 1, 1) := by decide +kernel
theorem dX8_drift_2 : decode cX8_drift 2 = .ok (.bipush 60, 2) := by decide +kernel
theorem dX8_drift_4 : decode cX8_drift 4 = .ok (.invokestatic 68, 3) := by decide +kernel
theorem dX8_drift_7 : decode cX8_drift 7 = .ok (.ifCond .ne 12, 3) := by decide +kernel
theorem dX8_drift_10 : decode cX8_drift 10 = .ok (.iload_n 3, 1) := by decide +kernel
theorem dX8_drift_11 : decode cX8_drift 11 = .ok (.iconst 0, 1) := by decide +kernel
theorem dX8_drift_12 : decode cX8_drift 12 = .ok (.iconst 1, 1) := by decide +kernel
theorem dX8_drift_13 : decode cX8_drift 13 = .ok (.invokestatic 68, 3) := by decide +kernel
theorem dX8_drift_16 : decode cX8_drift 16 = .ok (.ifCond .eq 5, 3) := by decide +kernel
theorem dX8_drift_19 : decode cX8_drift 19 = .ok (.iconst (-1), 1) := by decide +kernel
theorem dX8_drift_20 : decode cX8_drift 20 = .ok (.ireturn, 1) := by decide +kernel
theorem dX8_drift_21 : decode cX8_drift 21 = .ok (.aload_n 0, 1) := by decide +kernel
theorem dX8_drift_22 : decode cX8_drift 22 = .ok (.getfield 10, 3) := by decide +kernel
theorem dX8_drift_25 : decode cX8_drift 25 = .ok (.getfield 123, 3) := by decide +kernel
theorem dX8_drift_28 : decode cX8_drift 28 = .ok (.istore 4, 2) := by decide +kernel
theorem dX8_drift_30 : decode cX8_drift 30 = .ok (.aload_n 0, 1) := by decide +kernel
theorem dX8_drift_31 : decode cX8_drift 31 = .ok (.getfield 10, 3) := by decide +kernel
theorem dX8_drift_34 : decode cX8_drift 34 = .ok (.getfield 126, 3) := by decide +kernel
theorem dX8_drift_37 : decode cX8_drift 37 = .ok (.istore 5, 2) := by decide +kernel
theorem dX8_drift_39 : decode cX8_drift 39 = .ok (.iload 4, 2) := by decide +kernel
theorem dX8_drift_41 : decode cX8_drift 41 = .ok (.ifCond .le 8, 3) := by decide +kernel
theorem dX8_drift_44 : decode cX8_drift 44 = .ok (.iload 5, 2) := by decide +kernel
theorem dX8_drift_46 : decode cX8_drift 46 = .ok (.ifCond .gt 6, 3) := by decide +kernel
theorem dX8_drift_49 : decode cX8_drift 49 = .ok (.bipush (-2), 2) := by decide +kernel
theorem dX8_drift_51 : decode cX8_drift 51 = .ok (.ireturn, 1) := by decide +kernel
theorem dX8_drift_52 : decode cX8_drift 52 = .ok (.aload_n 0, 1) := by decide +kernel
theorem dX8_drift_53 : decode cX8_drift 53 = .ok (.invokevirtual 205, 3) := by decide +kernel
theorem dX8_drift_56 : decode cX8_drift 56 = .ok (.iload_n 1, 1) := by decide +kernel
theorem dX8_drift_57 : decode cX8_drift 57 = .ok (.istore 6, 2) := by decide +kernel
theorem dX8_drift_59 : decode cX8_drift 59 = .ok (.iconst 0, 1) := by decide +kernel
theorem dX8_drift_60 : decode cX8_drift 60 = .ok (.istore 7, 2) := by decide +kernel
theorem dX8_drift_62 : decode cX8_drift 62 = .ok (.iload 7, 2) := by decide +kernel
theorem dX8_drift_64 : decode cX8_drift 64 = .ok (.iload_n 2, 1) := by decide +kernel
theorem dX8_drift_65 : decode cX8_drift 65 = .ok (.if_icmp .ge 90, 3) := by decide +kernel
theorem dX8_drift_68 : decode cX8_drift 68 = .ok (.iload 6, 2) := by decide +kernel
theorem dX8_drift_70 : decode cX8_drift 70 = .ok (.ldc_w 289, 3) := by decide +kernel
theorem dX8_drift_73 : decode cX8_drift 73 = .ok (.imul, 1) := by decide +kernel
theorem dX8_drift_74 : decode cX8_drift 74 = .ok (.sipush 12345, 3) := by decide +kernel
theorem dX8_drift_77 : decode cX8_drift 77 = .ok (.iadd, 1) := by decide +kernel
theorem dX8_drift_78 : decode cX8_drift 78 = .ok (.istore 6, 2) := by decide +kernel
theorem dX8_drift_80 : decode cX8_drift 80 = .ok (.iload 6, 2) := by decide +kernel
theorem dX8_drift_82 : decode cX8_drift 82 = .ok (.bipush 16, 2) := by decide +kernel
theorem dX8_drift_84 : decode cX8_drift 84 = .ok (.iushr, 1) := by decide +kernel
theorem dX8_drift_85 : decode cX8_drift 85 = .ok (.sipush 32767, 3) := by decide +kernel
theorem dX8_drift_88 : decode cX8_drift 88 = .ok (.iand, 1) := by decide +kernel
theorem dX8_drift_89 : decode cX8_drift 89 = .ok (.istore 8, 2) := by decide +kernel
theorem dX8_drift_91 : decode cX8_drift 91 = .ok (.iload 8, 2) := by decide +kernel
theorem dX8_drift_93 : decode cX8_drift 93 = .ok (.iload 5, 2) := by decide +kernel
theorem dX8_drift_95 : decode cX8_drift 95 = .ok (.irem, 1) := by decide +kernel
theorem dX8_drift_96 : decode cX8_drift 96 = .ok (.istore 9, 2) := by decide +kernel
theorem dX8_drift_98 : decode cX8_drift 98 = .ok (.aload_n 0, 1) := by decide +kernel
theorem dX8_drift_99 : decode cX8_drift 99 = .ok (.getfield 16, 3) := by decide +kernel
theorem dX8_drift_102 : decode cX8_drift 102 = .ok (.getfield 165, 3) := by decide +kernel
theorem dX8_drift_105 : decode cX8_drift 105 = .ok (.iload 9, 2) := by decide +kernel
theorem dX8_drift_107 : decode cX8_drift 107 = .ok (.iload 8, 2) := by decide +kernel
theorem dX8_drift_109 : decode cX8_drift 109 = .ok (.bipush 8, 2) := by decide +kernel
theorem dX8_drift_111 : decode cX8_drift 111 = .ok (.idiv, 1) := by decide +kernel
theorem dX8_drift_112 : decode cX8_drift 112 = .ok (.iload 4, 2) := by decide +kernel
theorem dX8_drift_114 : decode cX8_drift 114 = .ok (.irem, 1) := by decide +kernel
theorem dX8_drift_115 : decode cX8_drift 115 = .ok (.iastore, 1) := by decide +kernel
theorem dX8_drift_116 : decode cX8_drift 116 = .ok (.aload_n 0, 1) := by decide +kernel
theorem dX8_drift_117 : decode cX8_drift 117 = .ok (.getfield 16, 3) := by decide +kernel
theorem dX8_drift_120 : decode cX8_drift 120 = .ok (.getfield 171, 3) := by decide +kernel
theorem dX8_drift_123 : decode cX8_drift 123 = .ok (.iload 9, 2) := by decide +kernel
theorem dX8_drift_125 : decode cX8_drift 125 = .ok (.iconst 0, 1) := by decide +kernel
theorem dX8_drift_126 : decode cX8_drift 126 = .ok (.iastore, 1) := by decide +kernel
theorem dX8_drift_127 : decode cX8_drift 127 = .ok (.aload_n 0, 1) := by decide +kernel
theorem dX8_drift_128 : decode cX8_drift 128 = .ok (.getfield 16, 3) := by decide +kernel
theorem dX8_drift_131 : decode cX8_drift 131 = .ok (.iload 8, 2) := by decide +kernel
theorem dX8_drift_133 : decode cX8_drift 133 = .ok (.bipush 64, 2) := by decide +kernel
theorem dX8_drift_135 : decode cX8_drift 135 = .ok (.idiv, 1) := by decide +kernel
theorem dX8_drift_136 : decode cX8_drift 136 = .ok (.bipush 8, 2) := by decide +kernel
theorem dX8_drift_138 : decode cX8_drift 138 = .ok (.irem, 1) := by decide +kernel
theorem dX8_drift_139 : decode cX8_drift 139 = .ok (.putfield 129, 3) := by decide +kernel
theorem dX8_drift_142 : decode cX8_drift 142 = .ok (.aload_n 0, 1) := by decide +kernel
theorem dX8_drift_143 : decode cX8_drift 143 = .ok (.getfield 16, 3) := by decide +kernel
theorem dX8_drift_146 : decode cX8_drift 146 = .ok (.invokevirtual 290, 3) := by decide +kernel
theorem dX8_drift_149 : decode cX8_drift 149 = .ok (.iinc 7 1, 3) := by decide +kernel
theorem dX8_drift_152 : decode cX8_drift 152 = .ok (.goto (-90), 3) := by decide +kernel
theorem dX8_drift_155 : decode cX8_drift 155 = .ok (.iload_n 3, 1) := by decide +kernel
theorem dX8_drift_156 : decode cX8_drift 156 = .ok (.ifCond .ne 13, 3) := by decide +kernel
theorem dX8_drift_159 : decode cX8_drift 159 = .ok (.aload_n 0, 1) := by decide +kernel
theorem dX8_drift_160 : decode cX8_drift 160 = .ok (.getfield 16, 3) := by decide +kernel
theorem dX8_drift_163 : decode cX8_drift 163 = .ok (.getfield 212, 3) := by decide +kernel
theorem dX8_drift_166 : decode cX8_drift 166 = .ok (.goto 7, 3) := by decide +kernel
theorem dX8_drift_169 : decode cX8_drift 169 = .ok (.aload_n 0, 1) := by decide +kernel
theorem dX8_drift_170 : decode cX8_drift 170 = .ok (.invokevirtual 218, 3) := by decide +kernel
theorem dX8_drift_173 : decode cX8_drift 173 = .ok (.ireturn, 1) := by decide +kernel
theorem dX8_keep_0 : decode cX8_keep 0 = .ok (.iload_n 1, 1) := by decide +kernel
theorem dX8_keep_1 : decode cX8_keep 1 = .ok (.iconst 0, 1) := by decide +kernel
theorem dX8_keep_2 : decode cX8_keep 2 = .ok (.iconst 1, 1) := by decide +kernel
theorem dX8_keep_3 : decode cX8_keep 3 = .ok (.invokestatic 68, 3) := by decide +kernel
theorem dX8_keep_6 : decode cX8_keep 6 = .ok (.ifCond .eq 5, 3) := by decide +kernel
theorem dX8_keep_9 : decode cX8_keep 9 = .ok (.iconst (-1), 1) := by decide +kernel
theorem dX8_keep_10 : decode cX8_keep 10 = .ok (.ireturn, 1) := by decide +kernel
theorem dX8_keep_11 : decode cX8_keep 11 = .ok (.aload_n 0, 1) := by decide +kernel
theorem dX8_keep_12 : decode cX8_keep 12 = .ok (.getfield 35, 3) := by decide +kernel
theorem dX8_keep_15 : decode cX8_keep 15 = .ok (.iload_n 1, 1) := by decide +kernel
theorem dX8_keep_16 : decode cX8_keep 16 = .ok (.aaload, 1) := by decide +kernel
theorem dX8_keep_17 : decode cX8_keep 17 = .ok (.getfield 116, 3) := by decide +kernel
theorem dX8_keep_20 : decode cX8_keep 20 = .ok (.ifCond .eq 7, 3) := by decide +kernel
theorem dX8_keep_23 : decode cX8_keep 23 = .ok (.iconst 1, 1) := by decide +kernel
theorem dX8_keep_24 : decode cX8_keep 24 = .ok (.goto 4, 3) := by decide +kernel
theorem dX8_keep_27 : decode cX8_keep 27 = .ok (.iconst 0, 1) := by decide +kernel
theorem dX8_keep_28 : decode cX8_keep 28 = .ok (.istore_n 2, 1) := by decide +kernel
theorem dX8_keep_29 : decode cX8_keep 29 = .ok (.aload_n 0, 1) := by decide +kernel
theorem dX8_keep_30 : decode cX8_keep 30 = .ok (.getfield 35, 3) := by decide +kernel
theorem dX8_keep_33 : decode cX8_keep 33 = .ok (.iload_n 1, 1) := by decide +kernel
theorem dX8_keep_34 : decode cX8_keep 34 = .ok (.aaload, 1) := by decide +kernel
theorem dX8_keep_35 : decode cX8_keep 35 = .ok (.getfield 293, 3) := by decide +kernel
theorem dX8_keep_38 : decode cX8_keep 38 = .ok (.aload_n 0, 1) := by decide +kernel
theorem dX8_keep_39 : decode cX8_keep 39 = .ok (.getfield 10, 3) := by decide +kernel
theorem dX8_keep_42 : decode cX8_keep 42 = .ok (.invokevirtual 109, 3) := by decide +kernel
theorem dX8_keep_45 : decode cX8_keep 45 = .ok (.aload_n 0, 1) := by decide +kernel
theorem dX8_keep_46 : decode cX8_keep 46 = .ok (.getfield 35, 3) := by decide +kernel
theorem dX8_keep_49 : decode cX8_keep 49 = .ok (.iload_n 1, 1) := by decide +kernel
theorem dX8_keep_50 : decode cX8_keep 50 = .ok (.aaload, 1) := by decide +kernel
theorem dX8_keep_51 : decode cX8_keep 51 = .ok (.getfield 294, 3) := by decide +kernel
theorem dX8_keep_54 : decode cX8_keep 54 = .ok (.aload_n 0, 1) := by decide +kernel
theorem dX8_keep_55 : decode cX8_keep 55 = .ok (.getfield 29, 3) := by decide +kernel
theorem dX8_keep_58 : decode cX8_keep 58 = .ok (.invokevirtual 295, 3) := by decide +kernel
theorem dX8_keep_61 : decode cX8_keep 61 = .ok (.aload_n 0, 1) := by decide +kernel
theorem dX8_keep_62 : decode cX8_keep 62 = .ok (.getfield 35, 3) := by decide +kernel
theorem dX8_keep_65 : decode cX8_keep 65 = .ok (.iload_n 1, 1) := by decide +kernel
theorem dX8_keep_66 : decode cX8_keep 66 = .ok (.aaload, 1) := by decide +kernel
theorem dX8_keep_67 : decode cX8_keep 67 = .ok (.iconst 1, 1) := by decide +kernel
theorem dX8_keep_68 : decode cX8_keep 68 = .ok (.putfield 116, 3) := by decide +kernel
theorem dX8_keep_71 : decode cX8_keep 71 = .ok (.iload_n 2, 1) := by decide +kernel
theorem dX8_keep_72 : decode cX8_keep 72 = .ok (.ireturn, 1) := by decide +kernel
theorem dX8_back_0 : decode cX8_back 0 = .ok (.iload_n 1, 1) := by decide +kernel
theorem dX8_back_1 : decode cX8_back 1 = .ok (.iconst 0, 1) := by decide +kernel
theorem dX8_back_2 : decode cX8_back 2 = .ok (.iconst 1, 1) := by decide +kernel
theorem dX8_back_3 : decode cX8_back 3 = .ok (.invokestatic 68, 3) := by decide +kernel
theorem dX8_back_6 : decode cX8_back 6 = .ok (.ifCond .eq 5, 3) := by decide +kernel
theorem dX8_back_9 : decode cX8_back 9 = .ok (.iconst (-1), 1) := by decide +kernel
theorem dX8_back_10 : decode cX8_back 10 = .ok (.ireturn, 1) := by decide +kernel
theorem dX8_back_11 : decode cX8_back 11 = .ok (.aload_n 0, 1) := by decide +kernel
theorem dX8_back_12 : decode cX8_back 12 = .ok (.getfield 35, 3) := by decide +kernel
theorem dX8_back_15 : decode cX8_back 15 = .ok (.iload_n 1, 1) := by decide +kernel
theorem dX8_back_16 : decode cX8_back 16 = .ok (.aaload, 1) := by decide +kernel
theorem dX8_back_17 : decode cX8_back 17 = .ok (.getfield 116, 3) := by decide +kernel
theorem dX8_back_20 : decode cX8_back 20 = .ok (.ifCond .ne 6, 3) := by decide +kernel
theorem dX8_back_23 : decode cX8_back 23 = .ok (.bipush (-2), 2) := by decide +kernel
theorem dX8_back_25 : decode cX8_back 25 = .ok (.ireturn, 1) := by decide +kernel
theorem dX8_back_26 : decode cX8_back 26 = .ok (.aload_n 0, 1) := by decide +kernel
theorem dX8_back_27 : decode cX8_back 27 = .ok (.getfield 10, 3) := by decide +kernel
theorem dX8_back_30 : decode cX8_back 30 = .ok (.aload_n 0, 1) := by decide +kernel
theorem dX8_back_31 : decode cX8_back 31 = .ok (.getfield 35, 3) := by decide +kernel
theorem dX8_back_34 : decode cX8_back 34 = .ok (.iload_n 1, 1) := by decide +kernel
theorem dX8_back_35 : decode cX8_back 35 = .ok (.aaload, 1) := by decide +kernel
theorem dX8_back_36 : decode cX8_back 36 = .ok (.getfield 293, 3) := by decide +kernel
theorem dX8_back_39 : decode cX8_back 39 = .ok (.invokevirtual 109, 3) := by decide +kernel
theorem dX8_back_42 : decode cX8_back 42 = .ok (.aload_n 0, 1) := by decide +kernel
theorem dX8_back_43 : decode cX8_back 43 = .ok (.getfield 29, 3) := by decide +kernel
theorem dX8_back_46 : decode cX8_back 46 = .ok (.aload_n 0, 1) := by decide +kernel
theorem dX8_back_47 : decode cX8_back 47 = .ok (.getfield 35, 3) := by decide +kernel
theorem dX8_back_50 : decode cX8_back 50 = .ok (.iload_n 1, 1) := by decide +kernel
theorem dX8_back_51 : decode cX8_back 51 = .ok (.aaload, 1) := by decide +kernel
theorem dX8_back_52 : decode cX8_back 52 = .ok (.getfield 294, 3) := by decide +kernel
theorem dX8_back_55 : decode cX8_back 55 = .ok (.invokevirtual 295, 3) := by decide +kernel
theorem dX8_back_58 : decode cX8_back 58 = .ok (.aload_n 0, 1) := by decide +kernel
theorem dX8_back_59 : decode cX8_back 59 = .ok (.getfield 10, 3) := by decide +kernel
theorem dX8_back_62 : decode cX8_back 62 = .ok (.getfield 132, 3) := by decide +kernel
theorem dX8_back_65 : decode cX8_back 65 = .ok (.ireturn, 1) := by decide +kernel
theorem dX8_sheet_0 : decode cX8_sheet 0 = .ok (.iload_n 1, 1) := by decide +kernel
theorem dX8_sheet_1 : decode cX8_sheet 1 = .ok (.iconst 0, 1) := by decide +kernel
theorem dX8_sheet_2 : decode cX8_sheet 2 = .ok (.iconst 3, 1) := by decide +kernel
theorem dX8_sheet_3 : decode cX8_sheet 3 = .ok (.invokestatic 68, 3) := by decide +kernel
theorem dX8_sheet_6 : decode cX8_sheet 6 = .ok (.ifCond .ne 18, 3) := by decide +kernel
theorem dX8_sheet_9 : decode cX8_sheet 9 = .ok (.iload_n 2, 1) := by decide +kernel
theorem dX8_sheet_10 : decode cX8_sheet 10 = .ok (.iconst 0, 1) := by decide +kernel
theorem dX8_sheet_11 : decode cX8_sheet 11 = .ok (.iconst 2, 1) := by decide +kernel
theorem dX8_sheet_12 : decode cX8_sheet 12 = .ok (.invokestatic 68, 3) := by decide +kernel
theorem dX8_sheet_15 : decode cX8_sheet 15 = .ok (.ifCond .ne 9, 3) := by decide +kernel
theorem dX8_sheet_18 : decode cX8_sheet 18 = .ok (.iload_n 3, 1) := by decide +kernel
theorem dX8_sheet_19 : decode cX8_sheet 19 = .ok (.bipush 40, 2) := by decide +kernel
theorem dX8_sheet_21 : decode cX8_sheet 21 = .ok (.if_icmp .le 5, 3) := by decide +kernel
theorem dX8_sheet_24 : decode cX8_sheet 24 = .ok (.iconst (-1), 1) := by decide +kernel
theorem dX8_sheet_25 : decode cX8_sheet 25 = .ok (.ireturn, 1) := by decide +kernel
theorem dX8_sheet_26 : decode cX8_sheet 26 = .ok (.iload_n 3, 1) := by decide +kernel
theorem dX8_sheet_27 : decode cX8_sheet 27 = .ok (.ifCond .ge 6, 3) := by decide +kernel
theorem dX8_sheet_30 : decode cX8_sheet 30 = .ok (.bipush (-14), 2) := by decide +kernel
theorem dX8_sheet_32 : decode cX8_sheet 32 = .ok (.ireturn, 1) := by decide +kernel
theorem dX8_sheet_33 : decode cX8_sheet 33 = .ok (.aload_n 0, 1) := by decide +kernel
theorem dX8_sheet_34 : decode cX8_sheet 34 = .ok (.getfield 41, 3) := by decide +kernel
theorem dX8_sheet_37 : decode cX8_sheet 37 = .ok (.iload_n 1, 1) := by decide +kernel
theorem dX8_sheet_38 : decode cX8_sheet 38 = .ok (.aaload, 1) := by decide +kernel
theorem dX8_sheet_39 : decode cX8_sheet 39 = .ok (.iload_n 2, 1) := by decide +kernel
theorem dX8_sheet_40 : decode cX8_sheet 40 = .ok (.iload_n 3, 1) := by decide +kernel
theorem dX8_sheet_41 : decode cX8_sheet 41 = .ok (.invokevirtual 298, 3) := by decide +kernel
theorem dX8_sheet_44 : decode cX8_sheet 44 = .ok (.iconst 1, 1) := by decide +kernel
theorem dX8_sheet_45 : decode cX8_sheet 45 = .ok (.ireturn, 1) := by decide +kernel
theorem dX8_lay_0 : decode cX8_lay 0 = .ok (.iload_n 1, 1) := by decide +kernel
theorem dX8_lay_1 : decode cX8_lay 1 = .ok (.iconst 0, 1) := by decide +kernel
theorem dX8_lay_2 : decode cX8_lay 2 = .ok (.iconst 3, 1) := by decide +kernel
theorem dX8_lay_3 : decode cX8_lay 3 = .ok (.invokestatic 68, 3) := by decide +kernel
theorem dX8_lay_6 : decode cX8_lay 6 = .ok (.ifCond .eq 5, 3) := by decide +kernel
theorem dX8_lay_9 : decode cX8_lay 9 = .ok (.iconst (-1), 1) := by decide +kernel
theorem dX8_lay_10 : decode cX8_lay 10 = .ok (.ireturn, 1) := by decide +kernel
theorem dX8_lay_11 : decode cX8_lay 11 = .ok (.aload_n 0, 1) := by decide +kernel
theorem dX8_lay_12 : decode cX8_lay 12 = .ok (.getfield 41, 3) := by decide +kernel
theorem dX8_lay_15 : decode cX8_lay 15 = .ok (.iload_n 1, 1) := by decide +kernel
theorem dX8_lay_16 : decode cX8_lay 16 = .ok (.aaload, 1) := by decide +kernel
theorem dX8_lay_17 : decode cX8_lay 17 = .ok (.astore 4, 2) := by decide +kernel
theorem dX8_lay_19 : decode cX8_lay 19 = .ok (.aload 4, 2) := by decide +kernel
theorem dX8_lay_21 : decode cX8_lay 21 = .ok (.aload 4, 2) := by decide +kernel
theorem dX8_lay_23 : decode cX8_lay 23 = .ok (.getfield 301, 3) := by decide +kernel
theorem dX8_lay_26 : decode cX8_lay 26 = .ok (.iload_n 2, 1) := by decide +kernel
theorem dX8_lay_27 : decode cX8_lay 27 = .ok (.invokevirtual 304, 3) := by decide +kernel
theorem dX8_lay_30 : decode cX8_lay 30 = .ok (.istore 5, 2) := by decide +kernel
theorem dX8_lay_32 : decode cX8_lay 32 = .ok (.iload 5, 2) := by decide +kernel
theorem dX8_lay_34 : decode cX8_lay 34 = .ok (.ifCond .eq 9, 3) := by decide +kernel
theorem dX8_lay_37 : decode cX8_lay 37 = .ok (.bipush (-10), 2) := by decide +kernel
theorem dX8_lay_39 : decode cX8_lay 39 = .ok (.iload 5, 2) := by decide +kernel
theorem dX8_lay_41 : decode cX8_lay 41 = .ok (.isub, 1) := by decide +kernel
theorem dX8_lay_42 : decode cX8_lay 42 = .ok (.ireturn, 1) := by decide +kernel
theorem dX8_lay_43 : decode cX8_lay 43 = .ok (.aload 4, 2) := by decide +kernel
theorem dX8_lay_45 : decode cX8_lay 45 = .ok (.iload_n 2, 1) := by decide +kernel
theorem dX8_lay_46 : decode cX8_lay 46 = .ok (.iload_n 3, 1) := by decide +kernel
theorem dX8_lay_47 : decode cX8_lay 47 = .ok (.invokevirtual 307, 3) := by decide +kernel
theorem dX8_lay_50 : decode cX8_lay 50 = .ok (.iconst 1, 1) := by decide +kernel
theorem dX8_lay_51 : decode cX8_lay 51 = .ok (.ireturn, 1) := by decide +kernel
theorem dX8_read_0 : decode cX8_read 0 = .ok (.iload_n 1, 1) := by decide +kernel
theorem dX8_read_1 : decode cX8_read 1 = .ok (.iconst 0, 1) := by decide +kernel
theorem dX8_read_2 : decode cX8_read 2 = .ok (.iconst 3, 1) := by decide +kernel
theorem dX8_read_3 : decode cX8_read 3 = .ok (.invokestatic 68, 3) := by decide +kernel
theorem dX8_read_6 : decode cX8_read 6 = .ok (.ifCond .ne 23, 3) := by decide +kernel
theorem dX8_read_9 : decode cX8_read 9 = .ok (.iload_n 2, 1) := by decide +kernel
theorem dX8_read_10 : decode cX8_read 10 = .ok (.iconst 0, 1) := by decide +kernel
theorem dX8_read_11 : decode cX8_read 11 = .ok (.iconst 2, 1) := by decide +kernel
theorem dX8_read_12 : decode cX8_read 12 = .ok (.invokestatic 68, 3) := by decide +kernel
theorem dX8_read_15 : decode cX8_read 15 = .ok (.ifCond .ne 14, 3) := by decide +kernel
theorem dX8_read_18 : decode cX8_read 18 = .ok (.iload 4, 2) := by decide +kernel
theorem dX8_read_20 : decode cX8_read 20 = .ok (.iconst 0, 1) := by decide +kernel
theorem dX8_read_21 : decode cX8_read 21 = .ok (.bipush 20, 2) := by decide +kernel
theorem dX8_read_23 : decode cX8_read 23 = .ok (.invokestatic 68, 3) := by decide +kernel
theorem dX8_read_26 : decode cX8_read 26 = .ok (.ifCond .eq 5, 3) := by decide +kernel
theorem dX8_read_29 : decode cX8_read 29 = .ok (.iconst (-1), 1) := by decide +kernel
theorem dX8_read_30 : decode cX8_read 30 = .ok (.ireturn, 1) := by decide +kernel
theorem dX8_read_31 : decode cX8_read 31 = .ok (.aload_n 0, 1) := by decide +kernel
theorem dX8_read_32 : decode cX8_read 32 = .ok (.getfield 41, 3) := by decide +kernel
theorem dX8_read_35 : decode cX8_read 35 = .ok (.iload_n 1, 1) := by decide +kernel
theorem dX8_read_36 : decode cX8_read 36 = .ok (.aaload, 1) := by decide +kernel
theorem dX8_read_37 : decode cX8_read 37 = .ok (.astore 5, 2) := by decide +kernel
theorem dX8_read_39 : decode cX8_read 39 = .ok (.aload_n 0, 1) := by decide +kernel
theorem dX8_read_40 : decode cX8_read 40 = .ok (.invokevirtual 205, 3) := by decide +kernel
theorem dX8_read_43 : decode cX8_read 43 = .ok (.iconst 0, 1) := by decide +kernel
theorem dX8_read_44 : decode cX8_read 44 = .ok (.istore 6, 2) := by decide +kernel
theorem dX8_read_46 : decode cX8_read 46 = .ok (.iconst 0, 1) := by decide +kernel
theorem dX8_read_47 : decode cX8_read 47 = .ok (.istore 7, 2) := by decide +kernel
theorem dX8_read_49 : decode cX8_read 49 = .ok (.iconst 0, 1) := by decide +kernel
theorem dX8_read_50 : decode cX8_read 50 = .ok (.istore 8, 2) := by decide +kernel
theorem dX8_read_52 : decode cX8_read 52 = .ok (.iload 8, 2) := by decide +kernel
theorem dX8_read_54 : decode cX8_read 54 = .ok (.iload 4, 2) := by decide +kernel
theorem dX8_read_56 : decode cX8_read 56 = .ok (.if_icmp .ge 92, 3) := by decide +kernel
theorem dX8_read_59 : decode cX8_read 59 = .ok (.iload_n 3, 1) := by decide +kernel
theorem dX8_read_60 : decode cX8_read 60 = .ok (.iconst 2, 1) := by decide +kernel
theorem dX8_read_61 : decode cX8_read 61 = .ok (.iload 8, 2) := by decide +kernel
theorem dX8_read_63 : decode cX8_read 63 = .ok (.imul, 1) := by decide +kernel
theorem dX8_read_64 : decode cX8_read 64 = .ok (.iadd, 1) := by decide +kernel
theorem dX8_read_65 : decode cX8_read 65 = .ok (.istore 9, 2) := by decide +kernel
theorem dX8_read_67 : decode cX8_read 67 = .ok (.aload 5, 2) := by decide +kernel
theorem dX8_read_69 : decode cX8_read 69 = .ok (.iload_n 2, 1) := by decide +kernel
theorem dX8_read_70 : decode cX8_read 70 = .ok (.iload 9, 2) := by decide +kernel
theorem dX8_read_72 : decode cX8_read 72 = .ok (.invokevirtual 309, 3) := by decide +kernel
theorem dX8_read_75 : decode cX8_read 75 = .ok (.istore 7, 2) := by decide +kernel
theorem dX8_read_77 : decode cX8_read 77 = .ok (.iload 7, 2) := by decide +kernel
theorem dX8_read_79 : decode cX8_read 79 = .ok (.ifCond .eq 6, 3) := by decide +kernel
theorem dX8_read_82 : decode cX8_read 82 = .ok (.goto 66, 3) := by decide +kernel
theorem dX8_read_85 : decode cX8_read 85 = .ok (.aload 5, 2) := by decide +kernel
theorem dX8_read_87 : decode cX8_read 87 = .ok (.getfield 312, 3) := by decide +kernel
theorem dX8_read_90 : decode cX8_read 90 = .ok (.iload 9, 2) := by decide +kernel
theorem dX8_read_92 : decode cX8_read 92 = .ok (.iaload, 1) := by decide +kernel
theorem dX8_read_93 : decode cX8_read 93 = .ok (.istore 10, 2) := by decide +kernel
theorem dX8_read_95 : decode cX8_read 95 = .ok (.aload 5, 2) := by decide +kernel
theorem dX8_read_97 : decode cX8_read 97 = .ok (.getfield 312, 3) := by decide +kernel
theorem dX8_read_100 : decode cX8_read 100 = .ok (.iload 9, 2) := by decide +kernel
theorem dX8_read_102 : decode cX8_read 102 = .ok (.iconst 1, 1) := by decide +kernel
theorem dX8_read_103 : decode cX8_read 103 = .ok (.iadd, 1) := by decide +kernel
theorem dX8_read_104 : decode cX8_read 104 = .ok (.iaload, 1) := by decide +kernel
theorem dX8_read_105 : decode cX8_read 105 = .ok (.istore 11, 2) := by decide +kernel
theorem dX8_read_107 : decode cX8_read 107 = .ok (.aload_n 0, 1) := by decide +kernel
theorem dX8_read_108 : decode cX8_read 108 = .ok (.getfield 16, 3) := by decide +kernel
theorem dX8_read_111 : decode cX8_read 111 = .ok (.iload 10, 2) := by decide +kernel
theorem dX8_read_113 : decode cX8_read 113 = .ok (.iload 11, 2) := by decide +kernel
theorem dX8_read_115 : decode cX8_read 115 = .ok (.invokevirtual 199, 3) := by decide +kernel
theorem dX8_read_118 : decode cX8_read 118 = .ok (.ifCond .eq 9, 3) := by decide +kernel
theorem dX8_read_121 : decode cX8_read 121 = .ok (.bipush (-20), 2) := by decide +kernel
theorem dX8_read_123 : decode cX8_read 123 = .ok (.iload 8, 2) := by decide +kernel
theorem dX8_read_125 : decode cX8_read 125 = .ok (.isub, 1) := by decide +kernel
theorem dX8_read_126 : decode cX8_read 126 = .ok (.ireturn, 1) := by decide +kernel
theorem dX8_read_127 : decode cX8_read 127 = .ok (.aload_n 0, 1) := by decide +kernel
theorem dX8_read_128 : decode cX8_read 128 = .ok (.getfield 16, 3) := by decide +kernel
theorem dX8_read_131 : decode cX8_read 131 = .ok (.iload 10, 2) := by decide +kernel
theorem dX8_read_133 : decode cX8_read 133 = .ok (.iload 11, 2) := by decide +kernel
theorem dX8_read_135 : decode cX8_read 135 = .ok (.invokevirtual 202, 3) := by decide +kernel
theorem dX8_read_138 : decode cX8_read 138 = .ok (.pop, 1) := by decide +kernel
theorem dX8_read_139 : decode cX8_read 139 = .ok (.iinc 6 1, 3) := by decide +kernel
theorem dX8_read_142 : decode cX8_read 142 = .ok (.iinc 8 1, 3) := by decide +kernel
theorem dX8_read_145 : decode cX8_read 145 = .ok (.goto (-93), 3) := by decide +kernel
theorem dX8_read_148 : decode cX8_read 148 = .ok (.aload_n 0, 1) := by decide +kernel
theorem dX8_read_149 : decode cX8_read 149 = .ok (.getfield 10, 3) := by decide +kernel
theorem dX8_read_152 : decode cX8_read 152 = .ok (.aload_n 0, 1) := by decide +kernel
theorem dX8_read_153 : decode cX8_read 153 = .ok (.getfield 16, 3) := by decide +kernel
theorem dX8_read_156 : decode cX8_read 156 = .ok (.invokevirtual 109, 3) := by decide +kernel
theorem dX8_read_159 : decode cX8_read 159 = .ok (.aload_n 0, 1) := by decide +kernel
theorem dX8_read_160 : decode cX8_read 160 = .ok (.iload 7, 2) := by decide +kernel
theorem dX8_read_162 : decode cX8_read 162 = .ok (.putfield 315, 3) := by decide +kernel
theorem dX8_read_165 : decode cX8_read 165 = .ok (.iload 6, 2) := by decide +kernel
theorem dX8_read_167 : decode cX8_read 167 = .ok (.ireturn, 1) := by decide +kernel
theorem dX8_torn_0 : decode cX8_torn 0 = .ok (.aload_n 0, 1) := by decide +kernel
theorem dX8_torn_1 : decode cX8_torn 1 = .ok (.getfield 315, 3) := by decide +kernel
theorem dX8_torn_4 : decode cX8_torn 4 = .ok (.ireturn, 1) := by decide +kernel
theorem dX8_count_0 : decode cX8_count 0 = .ok (.iload_n 1, 1) := by decide +kernel
theorem dX8_count_1 : decode cX8_count 1 = .ok (.tableswitch 128 0 5 #[39, 47, 52, 63, 92, 110], 39) := by decide +kernel
theorem dX8_count_40 : decode cX8_count 40 = .ok (.aload_n 0, 1) := by decide +kernel
theorem dX8_count_41 : decode cX8_count 41 = .ok (.getfield 29, 3) := by decide +kernel
theorem dX8_count_44 : decode cX8_count 44 = .ok (.getfield 113, 3) := by decide +kernel
theorem dX8_count_47 : decode cX8_count 47 = .ok (.ireturn, 1) := by decide +kernel
theorem dX8_count_48 : decode cX8_count 48 = .ok (.aload_n 0, 1) := by decide +kernel
theorem dX8_count_49 : decode cX8_count 49 = .ok (.invokevirtual 318, 3) := by decide +kernel
theorem dX8_count_52 : decode cX8_count 52 = .ok (.ireturn, 1) := by decide +kernel
theorem dX8_count_53 : decode cX8_count 53 = .ok (.aload_n 0, 1) := by decide +kernel
theorem dX8_count_54 : decode cX8_count 54 = .ok (.getfield 22, 3) := by decide +kernel
theorem dX8_count_57 : decode cX8_count 57 = .ok (.getfield 72, 3) := by decide +kernel
theorem dX8_count_60 : decode cX8_count 60 = .ok (.getfield 76, 3) := by decide +kernel
theorem dX8_count_63 : decode cX8_count 63 = .ok (.ireturn, 1) := by decide +kernel
theorem dX8_count_64 : decode cX8_count 64 = .ok (.aload_n 0, 1) := by decide +kernel
theorem dX8_count_65 : decode cX8_count 65 = .ok (.getfield 41, 3) := by decide +kernel
theorem dX8_count_68 : decode cX8_count 68 = .ok (.iconst 0, 1) := by decide +kernel
theorem dX8_count_69 : decode cX8_count 69 = .ok (.aaload, 1) := by decide +kernel
theorem dX8_count_70 : decode cX8_count 70 = .ok (.getfield 301, 3) := by decide +kernel
theorem dX8_count_73 : decode cX8_count 73 = .ok (.bipush (-4), 2) := by decide +kernel
theorem dX8_count_75 : decode cX8_count 75 = .ok (.if_icmp .ne 8, 3) := by decide +kernel
theorem dX8_count_78 : decode cX8_count 78 = .ok (.bipush (-4), 2) := by decide +kernel
theorem dX8_count_80 : decode cX8_count 80 = .ok (.goto 12, 3) := by decide +kernel
theorem dX8_count_83 : decode cX8_count 83 = .ok (.aload_n 0, 1) := by decide +kernel
theorem dX8_count_84 : decode cX8_count 84 = .ok (.getfield 41, 3) := by decide +kernel
theorem dX8_count_87 : decode cX8_count 87 = .ok (.iconst 0, 1) := by decide +kernel
theorem dX8_count_88 : decode cX8_count 88 = .ok (.aaload, 1) := by decide +kernel
theorem dX8_count_89 : decode cX8_count 89 = .ok (.getfield 321, 3) := by decide +kernel
theorem dX8_count_92 : decode cX8_count 92 = .ok (.ireturn, 1) := by decide +kernel
theorem dX8_count_93 : decode cX8_count 93 = .ok (.aload_n 0, 1) := by decide +kernel
theorem dX8_count_94 : decode cX8_count 94 = .ok (.getfield 10, 3) := by decide +kernel
theorem dX8_count_97 : decode cX8_count 97 = .ok (.getfield 149, 3) := by decide +kernel
theorem dX8_count_100 : decode cX8_count 100 = .ok (.aload_n 0, 1) := by decide +kernel
theorem dX8_count_101 : decode cX8_count 101 = .ok (.getfield 10, 3) := by decide +kernel
theorem dX8_count_104 : decode cX8_count 104 = .ok (.getfield 123, 3) := by decide +kernel
theorem dX8_count_107 : decode cX8_count 107 = .ok (.invokestatic 322, 3) := by decide +kernel
theorem dX8_count_110 : decode cX8_count 110 = .ok (.ireturn, 1) := by decide +kernel
theorem dX8_count_111 : decode cX8_count 111 = .ok (.aload_n 0, 1) := by decide +kernel
theorem dX8_count_112 : decode cX8_count 112 = .ok (.getfield 10, 3) := by decide +kernel
theorem dX8_count_115 : decode cX8_count 115 = .ok (.getfield 168, 3) := by decide +kernel
theorem dX8_count_118 : decode cX8_count 118 = .ok (.aload_n 0, 1) := by decide +kernel
theorem dX8_count_119 : decode cX8_count 119 = .ok (.getfield 10, 3) := by decide +kernel
theorem dX8_count_122 : decode cX8_count 122 = .ok (.getfield 126, 3) := by decide +kernel
theorem dX8_count_125 : decode cX8_count 125 = .ok (.invokestatic 322, 3) := by decide +kernel
theorem dX8_count_128 : decode cX8_count 128 = .ok (.ireturn, 1) := by decide +kernel
theorem dX8_count_129 : decode cX8_count 129 = .ok (.iconst (-1), 1) := by decide +kernel
theorem dX8_count_130 : decode cX8_count 130 = .ok (.ireturn, 1) := by decide +kernel
theorem dX8_outside_0 : decode cX8_outside 0 = .ok (.iload_n 0, 1) := by decide +kernel
theorem dX8_outside_1 : decode cX8_outside 1 = .ok (.iload_n 1, 1) := by decide +kernel
theorem dX8_outside_2 : decode cX8_outside 2 = .ok (.if_icmp .lt 8, 3) := by decide +kernel
theorem dX8_outside_5 : decode cX8_outside 5 = .ok (.iload_n 0, 1) := by decide +kernel
theorem dX8_outside_6 : decode cX8_outside 6 = .ok (.iload_n 2, 1) := by decide +kernel
theorem dX8_outside_7 : decode cX8_outside 7 = .ok (.if_icmp .le 7, 3) := by decide +kernel
theorem dX8_outside_10 : decode cX8_outside 10 = .ok (.iconst 1, 1) := by decide +kernel
theorem dX8_outside_11 : decode cX8_outside 11 = .ok (.goto 4, 3) := by decide +kernel
theorem dX8_outside_14 : decode cX8_outside 14 = .ok (.iconst 0, 1) := by decide +kernel
theorem dX8_outside_15 : decode cX8_outside 15 = .ok (.ireturn, 1) := by decide +kernel
theorem dX8_tellsBookOrNone_0 : decode cX8_tellsBookOrNone 0 = .ok (.iload_n 0, 1) := by decide +kernel
theorem dX8_tellsBookOrNone_1 : decode cX8_tellsBookOrNone 1 = .ok (.bipush 9, 2) := by decide +kernel
theorem dX8_tellsBookOrNone_3 : decode cX8_tellsBookOrNone 3 = .ok (.if_icmp .eq 13, 3) := by decide +kernel
theorem dX8_tellsBookOrNone_6 : decode cX8_tellsBookOrNone 6 = .ok (.iload_n 0, 1) := by decide +kernel
theorem dX8_tellsBookOrNone_7 : decode cX8_tellsBookOrNone 7 = .ok (.iconst 0, 1) := by decide +kernel
theorem dX8_tellsBookOrNone_8 : decode cX8_tellsBookOrNone 8 = .ok (.bipush 7, 2) := by decide +kernel
theorem dX8_tellsBookOrNone_10 : decode cX8_tellsBookOrNone 10 = .ok (.invokestatic 68, 3) := by decide +kernel
theorem dX8_tellsBookOrNone_13 : decode cX8_tellsBookOrNone 13 = .ok (.ifCond .ne 7, 3) := by decide +kernel
theorem dX8_tellsBookOrNone_16 : decode cX8_tellsBookOrNone 16 = .ok (.iconst 1, 1) := by decide +kernel
theorem dX8_tellsBookOrNone_17 : decode cX8_tellsBookOrNone 17 = .ok (.goto 4, 3) := by decide +kernel
theorem dX8_tellsBookOrNone_20 : decode cX8_tellsBookOrNone 20 = .ok (.iconst 0, 1) := by decide +kernel
theorem dX8_tellsBookOrNone_21 : decode cX8_tellsBookOrNone 21 = .ok (.ireturn, 1) := by decide +kernel
theorem dX8_bookSaid_0 : decode cX8_bookSaid 0 = .ok (.iload_n 0, 1) := by decide +kernel
theorem dX8_bookSaid_1 : decode cX8_bookSaid 1 = .ok (.bipush 9, 2) := by decide +kernel
theorem dX8_bookSaid_3 : decode cX8_bookSaid 3 = .ok (.if_icmp .ne 8, 3) := by decide +kernel
theorem dX8_bookSaid_6 : decode cX8_bookSaid 6 = .ok (.bipush (-4), 2) := by decide +kernel
theorem dX8_bookSaid_8 : decode cX8_bookSaid 8 = .ok (.goto 4, 3) := by decide +kernel
theorem dX8_bookSaid_11 : decode cX8_bookSaid 11 = .ok (.iload_n 0, 1) := by decide +kernel
theorem dX8_bookSaid_12 : decode cX8_bookSaid 12 = .ok (.ireturn, 1) := by decide +kernel
theorem dX8_replace_0 : decode cX8_replace 0 = .ok (.aload_n 0, 1) := by decide +kernel
theorem dX8_replace_1 : decode cX8_replace 1 = .ok (.iload_n 1, 1) := by decide +kernel
theorem dX8_replace_2 : decode cX8_replace 2 = .ok (.iaload, 1) := by decide +kernel
theorem dX8_replace_3 : decode cX8_replace 3 = .ok (.istore_n 3, 1) := by decide +kernel
theorem dX8_replace_4 : decode cX8_replace 4 = .ok (.aload_n 0, 1) := by decide +kernel
theorem dX8_replace_5 : decode cX8_replace 5 = .ok (.iload_n 1, 1) := by decide +kernel
theorem dX8_replace_6 : decode cX8_replace 6 = .ok (.iload_n 2, 1) := by decide +kernel
theorem dX8_replace_7 : decode cX8_replace 7 = .ok (.iastore, 1) := by decide +kernel
theorem dX8_replace_8 : decode cX8_replace 8 = .ok (.iload_n 3, 1) := by decide +kernel
theorem dX8_replace_9 : decode cX8_replace 9 = .ok (.ireturn, 1) := by decide +kernel
theorem dX8_sumOf_0 : decode cX8_sumOf 0 = .ok (.iconst 0, 1) := by decide +kernel
theorem dX8_sumOf_1 : decode cX8_sumOf 1 = .ok (.istore_n 2, 1) := by decide +kernel
theorem dX8_sumOf_2 : decode cX8_sumOf 2 = .ok (.iconst 0, 1) := by decide +kernel
theorem dX8_sumOf_3 : decode cX8_sumOf 3 = .ok (.istore_n 3, 1) := by decide +kernel
theorem dX8_sumOf_4 : decode cX8_sumOf 4 = .ok (.iload_n 3, 1) := by decide +kernel
theorem dX8_sumOf_5 : decode cX8_sumOf 5 = .ok (.iload_n 1, 1) := by decide +kernel
theorem dX8_sumOf_6 : decode cX8_sumOf 6 = .ok (.if_icmp .ge 15, 3) := by decide +kernel
theorem dX8_sumOf_9 : decode cX8_sumOf 9 = .ok (.iload_n 2, 1) := by decide +kernel
theorem dX8_sumOf_10 : decode cX8_sumOf 10 = .ok (.aload_n 0, 1) := by decide +kernel
theorem dX8_sumOf_11 : decode cX8_sumOf 11 = .ok (.iload_n 3, 1) := by decide +kernel
theorem dX8_sumOf_12 : decode cX8_sumOf 12 = .ok (.iaload, 1) := by decide +kernel
theorem dX8_sumOf_13 : decode cX8_sumOf 13 = .ok (.iadd, 1) := by decide +kernel
theorem dX8_sumOf_14 : decode cX8_sumOf 14 = .ok (.istore_n 2, 1) := by decide +kernel
theorem dX8_sumOf_15 : decode cX8_sumOf 15 = .ok (.iinc 3 1, 3) := by decide +kernel
theorem dX8_sumOf_18 : decode cX8_sumOf 18 = .ok (.goto (-14), 3) := by decide +kernel
theorem dX8_sumOf_21 : decode cX8_sumOf 21 = .ok (.iload_n 2, 1) := by decide +kernel
theorem dX8_sumOf_22 : decode cX8_sumOf 22 = .ok (.ireturn, 1) := by decide +kernel
theorem dX8_partOfFraction_0 : decode cX8_partOfFraction 0 = .ok (.lload_n 2, 1) := by decide +kernel
theorem dX8_partOfFraction_1 : decode cX8_partOfFraction 1 = .ok (.lstore 5, 2) := by decide +kernel
theorem dX8_partOfFraction_3 : decode cX8_partOfFraction 3 = .ok (.lload_n 0, 1) := by decide +kernel
theorem dX8_partOfFraction_4 : decode cX8_partOfFraction 4 = .ok (.lstore 7, 2) := by decide +kernel
theorem dX8_partOfFraction_6 : decode cX8_partOfFraction 6 = .ok (.iconst 0, 1) := by decide +kernel
theorem dX8_partOfFraction_7 : decode cX8_partOfFraction 7 = .ok (.istore 9, 2) := by decide +kernel
theorem dX8_partOfFraction_9 : decode cX8_partOfFraction 9 = .ok (.iload 9, 2) := by decide +kernel
theorem dX8_partOfFraction_11 : decode cX8_partOfFraction 11 = .ok (.bipush 100, 2) := by decide +kernel
theorem dX8_partOfFraction_13 : decode cX8_partOfFraction 13 = .ok (.if_icmp .ge 31, 3) := by decide +kernel
theorem dX8_partOfFraction_16 : decode cX8_partOfFraction 16 = .ok (.lload 7, 2) := by decide +kernel
theorem dX8_partOfFraction_18 : decode cX8_partOfFraction 18 = .ok (.lconst 0, 1) := by decide +kernel
theorem dX8_partOfFraction_19 : decode cX8_partOfFraction 19 = .ok (.lcmp, 1) := by decide +kernel
theorem dX8_partOfFraction_20 : decode cX8_partOfFraction 20 = .ok (.ifCond .eq 24, 3) := by decide +kernel
theorem dX8_partOfFraction_23 : decode cX8_partOfFraction 23 = .ok (.lload 5, 2) := by decide +kernel
theorem dX8_partOfFraction_25 : decode cX8_partOfFraction 25 = .ok (.lload 7, 2) := by decide +kernel
theorem dX8_partOfFraction_27 : decode cX8_partOfFraction 27 = .ok (.lrem, 1) := by decide +kernel
theorem dX8_partOfFraction_28 : decode cX8_partOfFraction 28 = .ok (.lstore 10, 2) := by decide +kernel
theorem dX8_partOfFraction_30 : decode cX8_partOfFraction 30 = .ok (.lload 7, 2) := by decide +kernel
theorem dX8_partOfFraction_32 : decode cX8_partOfFraction 32 = .ok (.lstore 5, 2) := by decide +kernel
theorem dX8_partOfFraction_34 : decode cX8_partOfFraction 34 = .ok (.lload 10, 2) := by decide +kernel
theorem dX8_partOfFraction_36 : decode cX8_partOfFraction 36 = .ok (.lstore 7, 2) := by decide +kernel
theorem dX8_partOfFraction_38 : decode cX8_partOfFraction 38 = .ok (.iinc 9 1, 3) := by decide +kernel
theorem dX8_partOfFraction_41 : decode cX8_partOfFraction 41 = .ok (.goto (-32), 3) := by decide +kernel
theorem dX8_partOfFraction_44 : decode cX8_partOfFraction 44 = .ok (.lload 5, 2) := by decide +kernel
theorem dX8_partOfFraction_46 : decode cX8_partOfFraction 46 = .ok (.lconst 0, 1) := by decide +kernel
theorem dX8_partOfFraction_47 : decode cX8_partOfFraction 47 = .ok (.lcmp, 1) := by decide +kernel
theorem dX8_partOfFraction_48 : decode cX8_partOfFraction 48 = .ok (.ifCond .ne 7, 3) := by decide +kernel
theorem dX8_partOfFraction_51 : decode cX8_partOfFraction 51 = .ok (.ldc2_w 248, 3) := by decide +kernel
theorem dX8_partOfFraction_54 : decode cX8_partOfFraction 54 = .ok (.lreturn, 1) := by decide +kernel
theorem dX8_partOfFraction_55 : decode cX8_partOfFraction 55 = .ok (.iload 4, 2) := by decide +kernel
theorem dX8_partOfFraction_57 : decode cX8_partOfFraction 57 = .ok (.ifCond .ne 7, 3) := by decide +kernel
theorem dX8_partOfFraction_60 : decode cX8_partOfFraction 60 = .ok (.lload_n 0, 1) := by decide +kernel
theorem dX8_partOfFraction_61 : decode cX8_partOfFraction 61 = .ok (.goto 4, 3) := by decide +kernel
theorem dX8_partOfFraction_64 : decode cX8_partOfFraction 64 = .ok (.lload_n 2, 1) := by decide +kernel
theorem dX8_partOfFraction_65 : decode cX8_partOfFraction 65 = .ok (.lload 5, 2) := by decide +kernel
theorem dX8_partOfFraction_67 : decode cX8_partOfFraction 67 = .ok (.ldiv, 1) := by decide +kernel
theorem dX8_partOfFraction_68 : decode cX8_partOfFraction 68 = .ok (.lreturn, 1) := by decide +kernel
theorem dX8_beginTrial_0 : decode cX8_beginTrial 0 = .ok (.aload_n 0, 1) := by decide +kernel
theorem dX8_beginTrial_1 : decode cX8_beginTrial 1 = .ok (.getfield 16, 3) := by decide +kernel
theorem dX8_beginTrial_4 : decode cX8_beginTrial 4 = .ok (.aload_n 0, 1) := by decide +kernel
theorem dX8_beginTrial_5 : decode cX8_beginTrial 5 = .ok (.getfield 10, 3) := by decide +kernel
theorem dX8_beginTrial_8 : decode cX8_beginTrial 8 = .ok (.invokevirtual 109, 3) := by decide +kernel
theorem dX8_beginTrial_11 : decode cX8_beginTrial 11 = .ok (.return_, 1) := by decide +kernel
theorem dX8_trialMinutes_0 : decode cX8_trialMinutes 0 = .ok (.aload_n 0, 1) := by decide +kernel
theorem dX8_trialMinutes_1 : decode cX8_trialMinutes 1 = .ok (.getfield 16, 3) := by decide +kernel
theorem dX8_trialMinutes_4 : decode cX8_trialMinutes 4 = .ok (.getfield 132, 3) := by decide +kernel
theorem dX8_trialMinutes_7 : decode cX8_trialMinutes 7 = .ok (.aload_n 0, 1) := by decide +kernel
theorem dX8_trialMinutes_8 : decode cX8_trialMinutes 8 = .ok (.getfield 10, 3) := by decide +kernel
theorem dX8_trialMinutes_11 : decode cX8_trialMinutes 11 = .ok (.getfield 132, 3) := by decide +kernel
theorem dX8_trialMinutes_14 : decode cX8_trialMinutes 14 = .ok (.isub, 1) := by decide +kernel
theorem dX8_trialMinutes_15 : decode cX8_trialMinutes 15 = .ok (.ireturn, 1) := by decide +kernel
theorem dX8_daysTillAllDone_0 : decode cX8_daysTillAllDone 0 = .ok (.iconst 1, 1) := by decide +kernel
theorem dX8_daysTillAllDone_1 : decode cX8_daysTillAllDone 1 = .ok (.aload_n 0, 1) := by decide +kernel
theorem dX8_daysTillAllDone_2 : decode cX8_daysTillAllDone 2 = .ok (.getfield 16, 3) := by decide +kernel
theorem dX8_daysTillAllDone_5 : decode cX8_daysTillAllDone 5 = .ok (.getfield 126, 3) := by decide +kernel
theorem dX8_daysTillAllDone_8 : decode cX8_daysTillAllDone 8 = .ok (.ishl, 1) := by decide +kernel
theorem dX8_daysTillAllDone_9 : decode cX8_daysTillAllDone 9 = .ok (.iconst 1, 1) := by decide +kernel
theorem dX8_daysTillAllDone_10 : decode cX8_daysTillAllDone 10 = .ok (.isub, 1) := by decide +kernel
theorem dX8_daysTillAllDone_11 : decode cX8_daysTillAllDone 11 = .ok (.istore_n 2, 1) := by decide +kernel
theorem dX8_daysTillAllDone_12 : decode cX8_daysTillAllDone 12 = .ok (.iconst 0, 1) := by decide +kernel
theorem dX8_daysTillAllDone_13 : decode cX8_daysTillAllDone 13 = .ok (.istore_n 3, 1) := by decide +kernel
theorem dX8_daysTillAllDone_14 : decode cX8_daysTillAllDone 14 = .ok (.iload_n 3, 1) := by decide +kernel
theorem dX8_daysTillAllDone_15 : decode cX8_daysTillAllDone 15 = .ok (.iload_n 1, 1) := by decide +kernel
theorem dX8_daysTillAllDone_16 : decode cX8_daysTillAllDone 16 = .ok (.if_icmp .gt 29, 3) := by decide +kernel
theorem dX8_daysTillAllDone_19 : decode cX8_daysTillAllDone 19 = .ok (.aload_n 0, 1) := by decide +kernel
theorem dX8_daysTillAllDone_20 : decode cX8_daysTillAllDone 20 = .ok (.getfield 16, 3) := by decide +kernel
theorem dX8_daysTillAllDone_23 : decode cX8_daysTillAllDone 23 = .ok (.invokevirtual 138, 3) := by decide +kernel
theorem dX8_daysTillAllDone_26 : decode cX8_daysTillAllDone 26 = .ok (.iload_n 2, 1) := by decide +kernel
theorem dX8_daysTillAllDone_27 : decode cX8_daysTillAllDone 27 = .ok (.if_icmp .ne 5, 3) := by decide +kernel
theorem dX8_daysTillAllDone_30 : decode cX8_daysTillAllDone 30 = .ok (.iload_n 3, 1) := by decide +kernel
theorem dX8_daysTillAllDone_31 : decode cX8_daysTillAllDone 31 = .ok (.ireturn, 1) := by decide +kernel
theorem dX8_daysTillAllDone_32 : decode cX8_daysTillAllDone 32 = .ok (.aload_n 0, 1) := by decide +kernel
theorem dX8_daysTillAllDone_33 : decode cX8_daysTillAllDone 33 = .ok (.getfield 16, 3) := by decide +kernel
theorem dX8_daysTillAllDone_36 : decode cX8_daysTillAllDone 36 = .ok (.invokevirtual 290, 3) := by decide +kernel
theorem dX8_daysTillAllDone_39 : decode cX8_daysTillAllDone 39 = .ok (.iinc 3 1, 3) := by decide +kernel
theorem dX8_daysTillAllDone_42 : decode cX8_daysTillAllDone 42 = .ok (.goto (-28), 3) := by decide +kernel
theorem dX8_daysTillAllDone_45 : decode cX8_daysTillAllDone 45 = .ok (.bipush (-4), 2) := by decide +kernel
theorem dX8_daysTillAllDone_47 : decode cX8_daysTillAllDone 47 = .ok (.ireturn, 1) := by decide +kernel
theorem dX8_findOrder_0 : decode cX8_findOrder 0 = .ok (.aload_n 0, 1) := by decide +kernel
theorem dX8_findOrder_1 : decode cX8_findOrder 1 = .ok (.getfield 10, 3) := by decide +kernel
theorem dX8_findOrder_4 : decode cX8_findOrder 4 = .ok (.getfield 126, 3) := by decide +kernel
theorem dX8_findOrder_7 : decode cX8_findOrder 7 = .ok (.istore_n 1, 1) := by decide +kernel
theorem dX8_findOrder_8 : decode cX8_findOrder 8 = .ok (.iconst 0, 1) := by decide +kernel
theorem dX8_findOrder_9 : decode cX8_findOrder 9 = .ok (.istore_n 2, 1) := by decide +kernel
theorem dX8_findOrder_10 : decode cX8_findOrder 10 = .ok (.iload_n 2, 1) := by decide +kernel
theorem dX8_findOrder_11 : decode cX8_findOrder 11 = .ok (.iload_n 1, 1) := by decide +kernel
theorem dX8_findOrder_12 : decode cX8_findOrder 12 = .ok (.if_icmp .ge 16, 3) := by decide +kernel
theorem dX8_findOrder_15 : decode cX8_findOrder 15 = .ok (.aload_n 0, 1) := by decide +kernel
theorem dX8_findOrder_16 : decode cX8_findOrder 16 = .ok (.getfield 45, 3) := by decide +kernel
theorem dX8_findOrder_19 : decode cX8_findOrder 19 = .ok (.iload_n 2, 1) := by decide +kernel
theorem dX8_findOrder_20 : decode cX8_findOrder 20 = .ok (.iload_n 2, 1) := by decide +kernel
theorem dX8_findOrder_21 : decode cX8_findOrder 21 = .ok (.iastore, 1) := by decide +kernel
theorem dX8_findOrder_22 : decode cX8_findOrder 22 = .ok (.iinc 2 1, 3) := by decide +kernel
theorem dX8_findOrder_25 : decode cX8_findOrder 25 = .ok (.goto (-15), 3) := by decide +kernel
theorem dX8_findOrder_28 : decode cX8_findOrder 28 = .ok (.ldc 237, 2) := by decide +kernel
theorem dX8_findOrder_30 : decode cX8_findOrder 30 = .ok (.istore_n 2, 1) := by decide +kernel
theorem dX8_findOrder_31 : decode cX8_findOrder 31 = .ok (.iconst 1, 1) := by decide +kernel
theorem dX8_findOrder_32 : decode cX8_findOrder 32 = .ok (.istore_n 3, 1) := by decide +kernel
theorem dX8_findOrder_33 : decode cX8_findOrder 33 = .ok (.iconst 0, 1) := by decide +kernel
theorem dX8_findOrder_34 : decode cX8_findOrder 34 = .ok (.istore 4, 2) := by decide +kernel
theorem dX8_findOrder_36 : decode cX8_findOrder 36 = .ok (.iload 4, 2) := by decide +kernel
theorem dX8_findOrder_38 : decode cX8_findOrder 38 = .ok (.bipush 24, 2) := by decide +kernel
theorem dX8_findOrder_40 : decode cX8_findOrder 40 = .ok (.if_icmp .ge 83, 3) := by decide +kernel
theorem dX8_findOrder_43 : decode cX8_findOrder 43 = .ok (.iload_n 3, 1) := by decide +kernel
theorem dX8_findOrder_44 : decode cX8_findOrder 44 = .ok (.ifCond .eq 79, 3) := by decide +kernel
theorem dX8_findOrder_47 : decode cX8_findOrder 47 = .ok (.aload_n 0, 1) := by decide +kernel
theorem dX8_findOrder_48 : decode cX8_findOrder 48 = .ok (.invokevirtual 205, 3) := by decide +kernel
theorem dX8_findOrder_51 : decode cX8_findOrder 51 = .ok (.iconst 0, 1) := by decide +kernel
theorem dX8_findOrder_52 : decode cX8_findOrder 52 = .ok (.istore 5, 2) := by decide +kernel
theorem dX8_findOrder_54 : decode cX8_findOrder 54 = .ok (.iload 5, 2) := by decide +kernel
theorem dX8_findOrder_56 : decode cX8_findOrder 56 = .ok (.iload_n 1, 1) := by decide +kernel
theorem dX8_findOrder_57 : decode cX8_findOrder 57 = .ok (.if_icmp .ge 24, 3) := by decide +kernel
theorem dX8_findOrder_60 : decode cX8_findOrder 60 = .ok (.aload_n 0, 1) := by decide +kernel
theorem dX8_findOrder_61 : decode cX8_findOrder 61 = .ok (.getfield 16, 3) := by decide +kernel
theorem dX8_findOrder_64 : decode cX8_findOrder 64 = .ok (.aload_n 0, 1) := by decide +kernel
theorem dX8_findOrder_65 : decode cX8_findOrder 65 = .ok (.getfield 45, 3) := by decide +kernel
theorem dX8_findOrder_68 : decode cX8_findOrder 68 = .ok (.iload 5, 2) := by decide +kernel
theorem dX8_findOrder_70 : decode cX8_findOrder 70 = .ok (.iaload, 1) := by decide +kernel
theorem dX8_findOrder_71 : decode cX8_findOrder 71 = .ok (.invokevirtual 231, 3) := by decide +kernel
theorem dX8_findOrder_74 : decode cX8_findOrder 74 = .ok (.pop, 1) := by decide +kernel
theorem dX8_findOrder_75 : decode cX8_findOrder 75 = .ok (.iinc 5 1, 3) := by decide +kernel
theorem dX8_findOrder_78 : decode cX8_findOrder 78 = .ok (.goto (-24), 3) := by decide +kernel
theorem dX8_findOrder_81 : decode cX8_findOrder 81 = .ok (.aload_n 0, 1) := by decide +kernel
theorem dX8_findOrder_82 : decode cX8_findOrder 82 = .ok (.invokevirtual 218, 3) := by decide +kernel
theorem dX8_findOrder_85 : decode cX8_findOrder 85 = .ok (.iload_n 2, 1) := by decide +kernel
theorem dX8_findOrder_86 : decode cX8_findOrder 86 = .ok (.if_icmp .ge 22, 3) := by decide +kernel
theorem dX8_findOrder_89 : decode cX8_findOrder 89 = .ok (.aload_n 0, 1) := by decide +kernel
theorem dX8_findOrder_90 : decode cX8_findOrder 90 = .ok (.invokevirtual 218, 3) := by decide +kernel
theorem dX8_findOrder_93 : decode cX8_findOrder 93 = .ok (.istore_n 2, 1) := by decide +kernel
theorem dX8_findOrder_94 : decode cX8_findOrder 94 = .ok (.aload_n 0, 1) := by decide +kernel
theorem dX8_findOrder_95 : decode cX8_findOrder 95 = .ok (.getfield 45, 3) := by decide +kernel
theorem dX8_findOrder_98 : decode cX8_findOrder 98 = .ok (.iconst 0, 1) := by decide +kernel
theorem dX8_findOrder_99 : decode cX8_findOrder 99 = .ok (.aload_n 0, 1) := by decide +kernel
theorem dX8_findOrder_100 : decode cX8_findOrder 100 = .ok (.getfield 49, 3) := by decide +kernel
theorem dX8_findOrder_103 : decode cX8_findOrder 103 = .ok (.iconst 0, 1) := by decide +kernel
theorem dX8_findOrder_104 : decode cX8_findOrder 104 = .ok (.iload_n 1, 1) := by decide +kernel
theorem dX8_findOrder_105 : decode cX8_findOrder 105 = .ok (.invokestatic 326, 3) := by decide +kernel
theorem dX8_findOrder_108 : decode cX8_findOrder 108 = .ok (.aload_n 0, 1) := by decide +kernel
theorem dX8_findOrder_109 : decode cX8_findOrder 109 = .ok (.getfield 45, 3) := by decide +kernel
theorem dX8_findOrder_112 : decode cX8_findOrder 112 = .ok (.iload_n 1, 1) := by decide +kernel
theorem dX8_findOrder_113 : decode cX8_findOrder 113 = .ok (.invokestatic 332, 3) := by decide +kernel
theorem dX8_findOrder_116 : decode cX8_findOrder 116 = .ok (.istore_n 3, 1) := by decide +kernel
theorem dX8_findOrder_117 : decode cX8_findOrder 117 = .ok (.iinc 4 1, 3) := by decide +kernel
theorem dX8_findOrder_120 : decode cX8_findOrder 120 = .ok (.goto (-84), 3) := by decide +kernel
theorem dX8_findOrder_123 : decode cX8_findOrder 123 = .ok (.iload_n 2, 1) := by decide +kernel
theorem dX8_findOrder_124 : decode cX8_findOrder 124 = .ok (.ireturn, 1) := by decide +kernel
theorem dX8_turnToNextOrder_0 : decode cX8_turnToNextOrder 0 = .ok (.iload_n 1, 1) := by decide +kernel
theorem dX8_turnToNextOrder_1 : decode cX8_turnToNextOrder 1 = .ok (.iconst 2, 1) := by decide +kernel
theorem dX8_turnToNextOrder_2 : decode cX8_turnToNextOrder 2 = .ok (.isub, 1) := by decide +kernel
theorem dX8_turnToNextOrder_3 : decode cX8_turnToNextOrder 3 = .ok (.istore_n 2, 1) := by decide +kernel
theorem dX8_turnToNextOrder_4 : decode cX8_turnToNextOrder 4 = .ok (.iload_n 2, 1) := by decide +kernel
theorem dX8_turnToNextOrder_5 : decode cX8_turnToNextOrder 5 = .ok (.ifCond .lt 20, 3) := by decide +kernel
theorem dX8_turnToNextOrder_8 : decode cX8_turnToNextOrder 8 = .ok (.aload_n 0, 1) := by decide +kernel
theorem dX8_turnToNextOrder_9 : decode cX8_turnToNextOrder 9 = .ok (.iload_n 2, 1) := by decide +kernel
theorem dX8_turnToNextOrder_10 : decode cX8_turnToNextOrder 10 = .ok (.iaload, 1) := by decide +kernel
theorem dX8_turnToNextOrder_11 : decode cX8_turnToNextOrder 11 = .ok (.aload_n 0, 1) := by decide +kernel
theorem dX8_turnToNextOrder_12 : decode cX8_turnToNextOrder 12 = .ok (.iload_n 2, 1) := by decide +kernel
theorem dX8_turnToNextOrder_13 : decode cX8_turnToNextOrder 13 = .ok (.iconst 1, 1) := by decide +kernel
theorem dX8_turnToNextOrder_14 : decode cX8_turnToNextOrder 14 = .ok (.iadd, 1) := by decide +kernel
theorem dX8_turnToNextOrder_15 : decode cX8_turnToNextOrder 15 = .ok (.iaload, 1) := by decide +kernel
theorem dX8_turnToNextOrder_16 : decode cX8_turnToNextOrder 16 = .ok (.if_icmp .le 9, 3) := by decide +kernel
theorem dX8_turnToNextOrder_19 : decode cX8_turnToNextOrder 19 = .ok (.iinc 2 (-1), 3) := by decide +kernel
theorem dX8_turnToNextOrder_22 : decode cX8_turnToNextOrder 22 = .ok (.goto (-18), 3) := by decide +kernel
theorem dX8_turnToNextOrder_25 : decode cX8_turnToNextOrder 25 = .ok (.iload_n 2, 1) := by decide +kernel
theorem dX8_turnToNextOrder_26 : decode cX8_turnToNextOrder 26 = .ok (.ifCond .ge 5, 3) := by decide +kernel
theorem dX8_turnToNextOrder_29 : decode cX8_turnToNextOrder 29 = .ok (.iconst 0, 1) := by decide +kernel
theorem dX8_turnToNextOrder_30 : decode cX8_turnToNextOrder 30 = .ok (.ireturn, 1) := by decide +kernel
theorem dX8_turnToNextOrder_31 : decode cX8_turnToNextOrder 31 = .ok (.iload_n 1, 1) := by decide +kernel
theorem dX8_turnToNextOrder_32 : decode cX8_turnToNextOrder 32 = .ok (.iconst 1, 1) := by decide +kernel
theorem dX8_turnToNextOrder_33 : decode cX8_turnToNextOrder 33 = .ok (.isub, 1) := by decide +kernel
theorem dX8_turnToNextOrder_34 : decode cX8_turnToNextOrder 34 = .ok (.istore_n 3, 1) := by decide +kernel
theorem dX8_turnToNextOrder_35 : decode cX8_turnToNextOrder 35 = .ok (.iload_n 3, 1) := by decide +kernel
theorem dX8_turnToNextOrder_36 : decode cX8_turnToNextOrder 36 = .ok (.iload_n 2, 1) := by decide +kernel
theorem dX8_turnToNextOrder_37 : decode cX8_turnToNextOrder 37 = .ok (.if_icmp .le 18, 3) := by decide +kernel
theorem dX8_turnToNextOrder_40 : decode cX8_turnToNextOrder 40 = .ok (.aload_n 0, 1) := by decide +kernel
theorem dX8_turnToNextOrder_41 : decode cX8_turnToNextOrder 41 = .ok (.iload_n 3, 1) := by decide +kernel
theorem dX8_turnToNextOrder_42 : decode cX8_turnToNextOrder 42 = .ok (.iaload, 1) := by decide +kernel
theorem dX8_turnToNextOrder_43 : decode cX8_turnToNextOrder 43 = .ok (.aload_n 0, 1) := by decide +kernel
theorem dX8_turnToNextOrder_44 : decode cX8_turnToNextOrder 44 = .ok (.iload_n 2, 1) := by decide +kernel
theorem dX8_turnToNextOrder_45 : decode cX8_turnToNextOrder 45 = .ok (.iaload, 1) := by decide +kernel
theorem dX8_turnToNextOrder_46 : decode cX8_turnToNextOrder 46 = .ok (.if_icmp .ge 9, 3) := by decide +kernel
theorem dX8_turnToNextOrder_49 : decode cX8_turnToNextOrder 49 = .ok (.iinc 3 (-1), 3) := by decide +kernel
theorem dX8_turnToNextOrder_52 : decode cX8_turnToNextOrder 52 = .ok (.goto (-17), 3) := by decide +kernel
theorem dX8_turnToNextOrder_55 : decode cX8_turnToNextOrder 55 = .ok (.aload_n 0, 1) := by decide +kernel
theorem dX8_turnToNextOrder_56 : decode cX8_turnToNextOrder 56 = .ok (.iload_n 2, 1) := by decide +kernel
theorem dX8_turnToNextOrder_57 : decode cX8_turnToNextOrder 57 = .ok (.iload_n 3, 1) := by decide +kernel
theorem dX8_turnToNextOrder_58 : decode cX8_turnToNextOrder 58 = .ok (.invokestatic 336, 3) := by decide +kernel
theorem dX8_turnToNextOrder_61 : decode cX8_turnToNextOrder 61 = .ok (.iload_n 1, 1) := by decide +kernel
theorem dX8_turnToNextOrder_62 : decode cX8_turnToNextOrder 62 = .ok (.iconst 1, 1) := by decide +kernel
theorem dX8_turnToNextOrder_63 : decode cX8_turnToNextOrder 63 = .ok (.isub, 1) := by decide +kernel
theorem dX8_turnToNextOrder_64 : decode cX8_turnToNextOrder 64 = .ok (.istore 4, 2) := by decide +kernel
theorem dX8_turnToNextOrder_66 : decode cX8_turnToNextOrder 66 = .ok (.iload_n 2, 1) := by decide +kernel
theorem dX8_turnToNextOrder_67 : decode cX8_turnToNextOrder 67 = .ok (.iconst 1, 1) := by decide +kernel
theorem dX8_turnToNextOrder_68 : decode cX8_turnToNextOrder 68 = .ok (.iadd, 1) := by decide +kernel
theorem dX8_turnToNextOrder_69 : decode cX8_turnToNextOrder 69 = .ok (.istore 5, 2) := by decide +kernel
theorem dX8_turnToNextOrder_71 : decode cX8_turnToNextOrder 71 = .ok (.iload 5, 2) := by decide +kernel
theorem dX8_turnToNextOrder_73 : decode cX8_turnToNextOrder 73 = .ok (.iload 4, 2) := by decide +kernel
theorem dX8_turnToNextOrder_75 : decode cX8_turnToNextOrder 75 = .ok (.if_icmp .ge 20, 3) := by decide +kernel
theorem dX8_turnToNextOrder_78 : decode cX8_turnToNextOrder 78 = .ok (.aload_n 0, 1) := by decide +kernel
theorem dX8_turnToNextOrder_79 : decode cX8_turnToNextOrder 79 = .ok (.iload 5, 2) := by decide +kernel
theorem dX8_turnToNextOrder_81 : decode cX8_turnToNextOrder 81 = .ok (.iload 4, 2) := by decide +kernel
theorem dX8_turnToNextOrder_83 : decode cX8_turnToNextOrder 83 = .ok (.invokestatic 336, 3) := by decide +kernel
theorem dX8_turnToNextOrder_86 : decode cX8_turnToNextOrder 86 = .ok (.iinc 4 (-1), 3) := by decide +kernel
theorem dX8_turnToNextOrder_89 : decode cX8_turnToNextOrder 89 = .ok (.iinc 5 1, 3) := by decide +kernel
theorem dX8_turnToNextOrder_92 : decode cX8_turnToNextOrder 92 = .ok (.goto (-21), 3) := by decide +kernel
theorem dX8_turnToNextOrder_95 : decode cX8_turnToNextOrder 95 = .ok (.iconst 1, 1) := by decide +kernel
theorem dX8_turnToNextOrder_96 : decode cX8_turnToNextOrder 96 = .ok (.ireturn, 1) := by decide +kernel
theorem dX8_exchange_0 : decode cX8_exchange 0 = .ok (.aload_n 0, 1) := by decide +kernel
theorem dX8_exchange_1 : decode cX8_exchange 1 = .ok (.iload_n 1, 1) := by decide +kernel
theorem dX8_exchange_2 : decode cX8_exchange 2 = .ok (.aload_n 0, 1) := by decide +kernel
theorem dX8_exchange_3 : decode cX8_exchange 3 = .ok (.iload_n 2, 1) := by decide +kernel
theorem dX8_exchange_4 : decode cX8_exchange 4 = .ok (.aload_n 0, 1) := by decide +kernel
theorem dX8_exchange_5 : decode cX8_exchange 5 = .ok (.iload_n 1, 1) := by decide +kernel
theorem dX8_exchange_6 : decode cX8_exchange 6 = .ok (.iaload, 1) := by decide +kernel
theorem dX8_exchange_7 : decode cX8_exchange 7 = .ok (.invokestatic 184, 3) := by decide +kernel
theorem dX8_exchange_10 : decode cX8_exchange 10 = .ok (.iastore, 1) := by decide +kernel
theorem dX8_exchange_11 : decode cX8_exchange 11 = .ok (.return_, 1) := by decide +kernel
theorem dX8_heightsAsSeen_0 : decode cX8_heightsAsSeen 0 = .ok (.iconst 0, 1) := by decide +kernel
theorem dX8_heightsAsSeen_1 : decode cX8_heightsAsSeen 1 = .ok (.istore_n 2, 1) := by decide +kernel
theorem dX8_heightsAsSeen_2 : decode cX8_heightsAsSeen 2 = .ok (.iconst 0, 1) := by decide +kernel
theorem dX8_heightsAsSeen_3 : decode cX8_heightsAsSeen 3 = .ok (.istore_n 3, 1) := by decide +kernel
theorem dX8_heightsAsSeen_4 : decode cX8_heightsAsSeen 4 = .ok (.iload_n 3, 1) := by decide +kernel
theorem dX8_heightsAsSeen_5 : decode cX8_heightsAsSeen 5 = .ok (.bipush 9, 2) := by decide +kernel
theorem dX8_heightsAsSeen_7 : decode cX8_heightsAsSeen 7 = .ok (.if_icmp .gt 43, 3) := by decide +kernel
theorem dX8_heightsAsSeen_10 : decode cX8_heightsAsSeen 10 = .ok (.aload_n 0, 1) := by decide +kernel
theorem dX8_heightsAsSeen_11 : decode cX8_heightsAsSeen 11 = .ok (.invokevirtual 205, 3) := by decide +kernel
theorem dX8_heightsAsSeen_14 : decode cX8_heightsAsSeen 14 = .ok (.aload_n 0, 1) := by decide +kernel
theorem dX8_heightsAsSeen_15 : decode cX8_heightsAsSeen 15 = .ok (.getfield 16, 3) := by decide +kernel
theorem dX8_heightsAsSeen_18 : decode cX8_heightsAsSeen 18 = .ok (.getfield 149, 3) := by decide +kernel
theorem dX8_heightsAsSeen_21 : decode cX8_heightsAsSeen 21 = .ok (.iload_n 1, 1) := by decide +kernel
theorem dX8_heightsAsSeen_22 : decode cX8_heightsAsSeen 22 = .ok (.iload_n 3, 1) := by decide +kernel
theorem dX8_heightsAsSeen_23 : decode cX8_heightsAsSeen 23 = .ok (.iastore, 1) := by decide +kernel
theorem dX8_heightsAsSeen_24 : decode cX8_heightsAsSeen 24 = .ok (.aload_n 0, 1) := by decide +kernel
theorem dX8_heightsAsSeen_25 : decode cX8_heightsAsSeen 25 = .ok (.getfield 29, 3) := by decide +kernel
theorem dX8_heightsAsSeen_28 : decode cX8_heightsAsSeen 28 = .ok (.aload_n 0, 1) := by decide +kernel
theorem dX8_heightsAsSeen_29 : decode cX8_heightsAsSeen 29 = .ok (.getfield 16, 3) := by decide +kernel
theorem dX8_heightsAsSeen_32 : decode cX8_heightsAsSeen 32 = .ok (.invokevirtual 275, 3) := by decide +kernel
theorem dX8_heightsAsSeen_35 : decode cX8_heightsAsSeen 35 = .ok (.ifCond .eq 9, 3) := by decide +kernel
theorem dX8_heightsAsSeen_38 : decode cX8_heightsAsSeen 38 = .ok (.iload_n 2, 1) := by decide +kernel
theorem dX8_heightsAsSeen_39 : decode cX8_heightsAsSeen 39 = .ok (.iconst 1, 1) := by decide +kernel
theorem dX8_heightsAsSeen_40 : decode cX8_heightsAsSeen 40 = .ok (.iload_n 3, 1) := by decide +kernel
theorem dX8_heightsAsSeen_41 : decode cX8_heightsAsSeen 41 = .ok (.ishl, 1) := by decide +kernel
theorem dX8_heightsAsSeen_42 : decode cX8_heightsAsSeen 42 = .ok (.ior, 1) := by decide +kernel
theorem dX8_heightsAsSeen_43 : decode cX8_heightsAsSeen 43 = .ok (.istore_n 2, 1) := by decide +kernel
theorem dX8_heightsAsSeen_44 : decode cX8_heightsAsSeen 44 = .ok (.iinc 3 1, 3) := by decide +kernel
theorem dX8_heightsAsSeen_47 : decode cX8_heightsAsSeen 47 = .ok (.goto (-43), 3) := by decide +kernel
theorem dX8_heightsAsSeen_50 : decode cX8_heightsAsSeen 50 = .ok (.iload_n 2, 1) := by decide +kernel
theorem dX8_heightsAsSeen_51 : decode cX8_heightsAsSeen 51 = .ok (.ireturn, 1) := by decide +kernel
theorem dX8_imagesTaken_0 : decode cX8_imagesTaken 0 = .ok (.iconst 0, 1) := by decide +kernel
theorem dX8_imagesTaken_1 : decode cX8_imagesTaken 1 = .ok (.istore_n 1, 1) := by decide +kernel
theorem dX8_imagesTaken_2 : decode cX8_imagesTaken 2 = .ok (.iconst 0, 1) := by decide +kernel
theorem dX8_imagesTaken_3 : decode cX8_imagesTaken 3 = .ok (.istore_n 2, 1) := by decide +kernel
theorem dX8_imagesTaken_4 : decode cX8_imagesTaken 4 = .ok (.iload_n 2, 1) := by decide +kernel
theorem dX8_imagesTaken_5 : decode cX8_imagesTaken 5 = .ok (.iconst 2, 1) := by decide +kernel
theorem dX8_imagesTaken_6 : decode cX8_imagesTaken 6 = .ok (.if_icmp .ge 24, 3) := by decide +kernel
theorem dX8_imagesTaken_9 : decode cX8_imagesTaken 9 = .ok (.aload_n 0, 1) := by decide +kernel
theorem dX8_imagesTaken_10 : decode cX8_imagesTaken 10 = .ok (.getfield 35, 3) := by decide +kernel
theorem dX8_imagesTaken_13 : decode cX8_imagesTaken 13 = .ok (.iload_n 2, 1) := by decide +kernel
theorem dX8_imagesTaken_14 : decode cX8_imagesTaken 14 = .ok (.aaload, 1) := by decide +kernel
theorem dX8_imagesTaken_15 : decode cX8_imagesTaken 15 = .ok (.getfield 116, 3) := by decide +kernel
theorem dX8_imagesTaken_18 : decode cX8_imagesTaken 18 = .ok (.ifCond .eq 6, 3) := by decide +kernel
theorem dX8_imagesTaken_21 : decode cX8_imagesTaken 21 = .ok (.iinc 1 1, 3) := by decide +kernel
theorem dX8_imagesTaken_24 : decode cX8_imagesTaken 24 = .ok (.iinc 2 1, 3) := by decide +kernel
theorem dX8_imagesTaken_27 : decode cX8_imagesTaken 27 = .ok (.goto (-23), 3) := by decide +kernel
theorem dX8_imagesTaken_30 : decode cX8_imagesTaken 30 = .ok (.iload_n 1, 1) := by decide +kernel
theorem dX8_imagesTaken_31 : decode cX8_imagesTaken 31 = .ok (.ireturn, 1) := by decide +kernel
end
section
theorem dX9_init_0 : decode cX9_init 0 = .ok (.aload_n 0, 1) := by decide +kernel
theorem dX9_init_1 : decode cX9_init 1 = .ok (.invokespecial 1, 3) := by decide +kernel
theorem dX9_init_4 : decode cX9_init 4 = .ok (.aload_n 0, 1) := by decide +kernel
theorem dX9_init_5 : decode cX9_init 5 = .ok (.sipush 186, 3) := by decide +kernel
theorem dX9_init_8 : decode cX9_init 8 = .ok (.newarray .int, 2) := by decide +kernel
theorem dX9_init_10 : decode cX9_init 10 = .ok (.putfield 7, 3) := by decide +kernel
theorem dX9_init_13 : decode cX9_init 13 = .ok (.aload_n 0, 1) := by decide +kernel
theorem dX9_init_14 : decode cX9_init 14 = .ok (.bipush 62, 2) := by decide +kernel
theorem dX9_init_16 : decode cX9_init 16 = .ok (.newarray .int, 2) := by decide +kernel
theorem dX9_init_18 : decode cX9_init 18 = .ok (.putfield 13, 3) := by decide +kernel
theorem dX9_init_21 : decode cX9_init 21 = .ok (.aload_n 0, 1) := by decide +kernel
theorem dX9_init_22 : decode cX9_init 22 = .ok (.iconst 2, 1) := by decide +kernel
theorem dX9_init_23 : decode cX9_init 23 = .ok (.newarray .boolean, 2) := by decide +kernel
theorem dX9_init_25 : decode cX9_init 25 = .ok (.putfield 16, 3) := by decide +kernel
theorem dX9_init_28 : decode cX9_init 28 = .ok (.aload_n 0, 1) := by decide +kernel
theorem dX9_init_29 : decode cX9_init 29 = .ok (.bipush 62, 2) := by decide +kernel
theorem dX9_init_31 : decode cX9_init 31 = .ok (.newarray .int, 2) := by decide +kernel
theorem dX9_init_33 : decode cX9_init 33 = .ok (.putfield 20, 3) := by decide +kernel
theorem dX9_init_36 : decode cX9_init 36 = .ok (.aload_n 0, 1) := by decide +kernel
theorem dX9_init_37 : decode cX9_init 37 = .ok (.sipush 160, 3) := by decide +kernel
theorem dX9_init_40 : decode cX9_init 40 = .ok (.newarray .int, 2) := by decide +kernel
theorem dX9_init_42 : decode cX9_init 42 = .ok (.putfield 23, 3) := by decide +kernel
theorem dX9_init_45 : decode cX9_init 45 = .ok (.aload_n 0, 1) := by decide +kernel
theorem dX9_init_46 : decode cX9_init 46 = .ok (.iconst 4, 1) := by decide +kernel
theorem dX9_init_47 : decode cX9_init 47 = .ok (.newarray .int, 2) := by decide +kernel
theorem dX9_init_49 : decode cX9_init 49 = .ok (.putfield 26, 3) := by decide +kernel
theorem dX9_init_52 : decode cX9_init 52 = .ok (.aload_n 0, 1) := by decide +kernel
theorem dX9_init_53 : decode cX9_init 53 = .ok (.iconst 4, 1) := by decide +kernel
theorem dX9_init_54 : decode cX9_init 54 = .ok (.newarray .int, 2) := by decide +kernel
theorem dX9_init_56 : decode cX9_init 56 = .ok (.putfield 29, 3) := by decide +kernel
theorem dX9_init_59 : decode cX9_init 59 = .ok (.aload_n 0, 1) := by decide +kernel
theorem dX9_init_60 : decode cX9_init 60 = .ok (.bipush 84, 2) := by decide +kernel
theorem dX9_init_62 : decode cX9_init 62 = .ok (.newarray .int, 2) := by decide +kernel
theorem dX9_init_64 : decode cX9_init 64 = .ok (.putfield 32, 3) := by decide +kernel
theorem dX9_init_67 : decode cX9_init 67 = .ok (.aload_n 0, 1) := by decide +kernel
theorem dX9_init_68 : decode cX9_init 68 = .ok (.sipush 840, 3) := by decide +kernel
theorem dX9_init_71 : decode cX9_init 71 = .ok (.newarray .int, 2) := by decide +kernel
theorem dX9_init_73 : decode cX9_init 73 = .ok (.putfield 35, 3) := by decide +kernel
theorem dX9_init_76 : decode cX9_init 76 = .ok (.aload_n 0, 1) := by decide +kernel
theorem dX9_init_77 : decode cX9_init 77 = .ok (.iconst 4, 1) := by decide +kernel
theorem dX9_init_78 : decode cX9_init 78 = .ok (.newarray .int, 2) := by decide +kernel
theorem dX9_init_80 : decode cX9_init 80 = .ok (.putfield 38, 3) := by decide +kernel
theorem dX9_init_83 : decode cX9_init 83 = .ok (.aload_n 0, 1) := by decide +kernel
theorem dX9_init_84 : decode cX9_init 84 = .ok (.iconst 4, 1) := by decide +kernel
theorem dX9_init_85 : decode cX9_init 85 = .ok (.newarray .int, 2) := by decide +kernel
theorem dX9_init_87 : decode cX9_init 87 = .ok (.putfield 41, 3) := by decide +kernel
theorem dX9_init_90 : decode cX9_init 90 = .ok (.aload_n 0, 1) := by decide +kernel
theorem dX9_init_91 : decode cX9_init 91 = .ok (.sipush 160, 3) := by decide +kernel
theorem dX9_init_94 : decode cX9_init 94 = .ok (.newarray .int, 2) := by decide +kernel
theorem dX9_init_96 : decode cX9_init 96 = .ok (.putfield 44, 3) := by decide +kernel
theorem dX9_init_99 : decode cX9_init 99 = .ok (.aload_n 0, 1) := by decide +kernel
theorem dX9_init_100 : decode cX9_init 100 = .ok (.bipush 62, 2) := by decide +kernel
theorem dX9_init_102 : decode cX9_init 102 = .ok (.newarray .int, 2) := by decide +kernel
theorem dX9_init_104 : decode cX9_init 104 = .ok (.putfield 47, 3) := by decide +kernel
theorem dX9_init_107 : decode cX9_init 107 = .ok (.iconst 0, 1) := by decide +kernel
theorem dX9_init_108 : decode cX9_init 108 = .ok (.istore_n 1, 1) := by decide +kernel
theorem dX9_init_109 : decode cX9_init 109 = .ok (.iload_n 1, 1) := by decide +kernel
theorem dX9_init_110 : decode cX9_init 110 = .ok (.iconst 4, 1) := by decide +kernel
theorem dX9_init_111 : decode cX9_init 111 = .ok (.if_icmp .ge 17, 3) := by decide +kernel
theorem dX9_init_114 : decode cX9_init 114 = .ok (.aload_n 0, 1) := by decide +kernel
theorem dX9_init_115 : decode cX9_init 115 = .ok (.getfield 38, 3) := by decide +kernel
theorem dX9_init_118 : decode cX9_init 118 = .ok (.iload_n 1, 1) := by decide +kernel
theorem dX9_init_119 : decode cX9_init 119 = .ok (.bipush (-4), 2) := by decide +kernel
theorem dX9_init_121 : decode cX9_init 121 = .ok (.iastore, 1) := by decide +kernel
theorem dX9_init_122 : decode cX9_init 122 = .ok (.iinc 1 1, 3) := by decide +kernel
theorem dX9_init_125 : decode cX9_init 125 = .ok (.goto (-16), 3) := by decide +kernel
theorem dX9_init_128 : decode cX9_init 128 = .ok (.aload_n 0, 1) := by decide +kernel
theorem dX9_init_129 : decode cX9_init 129 = .ok (.invokevirtual 50, 3) := by decide +kernel
theorem dX9_init_132 : decode cX9_init 132 = .ok (.aload_n 0, 1) := by decide +kernel
theorem dX9_init_133 : decode cX9_init 133 = .ok (.invokevirtual 53, 3) := by decide +kernel
theorem dX9_init_136 : decode cX9_init 136 = .ok (.return_, 1) := by decide +kernel
theorem dX9_in_0 : decode cX9_in 0 = .ok (.lload_n 0, 1) := by decide +kernel
theorem dX9_in_1 : decode cX9_in 1 = .ok (.lload_n 2, 1) := by decide +kernel
theorem dX9_in_2 : decode cX9_in 2 = .ok (.lcmp, 1) := by decide +kernel
theorem dX9_in_3 : decode cX9_in 3 = .ok (.ifCond .lt 14, 3) := by decide +kernel
theorem dX9_in_6 : decode cX9_in 6 = .ok (.lload_n 0, 1) := by decide +kernel
theorem dX9_in_7 : decode cX9_in 7 = .ok (.lload 4, 2) := by decide +kernel
theorem dX9_in_9 : decode cX9_in 9 = .ok (.lcmp, 1) := by decide +kernel
theorem dX9_in_10 : decode cX9_in 10 = .ok (.ifCond .gt 7, 3) := by decide +kernel
theorem dX9_in_13 : decode cX9_in 13 = .ok (.iconst 1, 1) := by decide +kernel
theorem dX9_in_14 : decode cX9_in 14 = .ok (.goto 4, 3) := by decide +kernel
theorem dX9_in_17 : decode cX9_in 17 = .ok (.iconst 0, 1) := by decide +kernel
theorem dX9_in_18 : decode cX9_in 18 = .ok (.ireturn, 1) := by decide +kernel
theorem dX9_flag_0 : decode cX9_flag 0 = .ok (.iload_n 0, 1) := by decide +kernel
theorem dX9_flag_1 : decode cX9_flag 1 = .ok (.ifCond .eq 7, 3) := by decide +kernel
theorem dX9_flag_4 : decode cX9_flag 4 = .ok (.iconst 1, 1) := by decide +kernel
theorem dX9_flag_5 : decode cX9_flag 5 = .ok (.goto 4, 3) := by decide +kernel
theorem dX9_flag_8 : decode cX9_flag 8 = .ok (.iconst 0, 1) := by decide +kernel
theorem dX9_flag_9 : decode cX9_flag 9 = .ok (.ireturn, 1) := by decide +kernel
theorem dX9_lesser_0 : decode cX9_lesser 0 = .ok (.iload_n 0, 1) := by decide +kernel
theorem dX9_lesser_1 : decode cX9_lesser 1 = .ok (.iload_n 1, 1) := by decide +kernel
theorem dX9_lesser_2 : decode cX9_lesser 2 = .ok (.if_icmp .ge 7, 3) := by decide +kernel
theorem dX9_lesser_5 : decode cX9_lesser 5 = .ok (.iload_n 0, 1) := by decide +kernel
theorem dX9_lesser_6 : decode cX9_lesser 6 = .ok (.goto 4, 3) := by decide +kernel
theorem dX9_lesser_9 : decode cX9_lesser 9 = .ok (.iload_n 1, 1) := by decide +kernel
theorem dX9_lesser_10 : decode cX9_lesser 10 = .ok (.ireturn, 1) := by decide +kernel
theorem dX9_bitsOf_0 : decode cX9_bitsOf 0 = .ok (.iconst 0, 1) := by decide +kernel
theorem dX9_bitsOf_1 : decode cX9_bitsOf 1 = .ok (.istore_n 1, 1) := by decide +kernel
theorem dX9_bitsOf_2 : decode cX9_bitsOf 2 = .ok (.iconst 0, 1) := by decide +kernel
theorem dX9_bitsOf_3 : decode cX9_bitsOf 3 = .ok (.istore_n 2, 1) := by decide +kernel
theorem dX9_bitsOf_4 : decode cX9_bitsOf 4 = .ok (.iload_n 2, 1) := by decide +kernel
theorem dX9_bitsOf_5 : decode cX9_bitsOf 5 = .ok (.bipush 8, 2) := by decide +kernel
theorem dX9_bitsOf_7 : decode cX9_bitsOf 7 = .ok (.if_icmp .ge 17, 3) := by decide +kernel
theorem dX9_bitsOf_10 : decode cX9_bitsOf 10 = .ok (.iload_n 1, 1) := by decide +kernel
theorem dX9_bitsOf_11 : decode cX9_bitsOf 11 = .ok (.iload_n 0, 1) := by decide +kernel
theorem dX9_bitsOf_12 : decode cX9_bitsOf 12 = .ok (.iload_n 2, 1) := by decide +kernel
theorem dX9_bitsOf_13 : decode cX9_bitsOf 13 = .ok (.ishr, 1) := by decide +kernel
theorem dX9_bitsOf_14 : decode cX9_bitsOf 14 = .ok (.iconst 1, 1) := by decide +kernel
theorem dX9_bitsOf_15 : decode cX9_bitsOf 15 = .ok (.iand, 1) := by decide +kernel
theorem dX9_bitsOf_16 : decode cX9_bitsOf 16 = .ok (.iadd, 1) := by decide +kernel
theorem dX9_bitsOf_17 : decode cX9_bitsOf 17 = .ok (.istore_n 1, 1) := by decide +kernel
theorem dX9_bitsOf_18 : decode cX9_bitsOf 18 = .ok (.iinc 2 1, 3) := by decide +kernel
theorem dX9_bitsOf_21 : decode cX9_bitsOf 21 = .ok (.goto (-17), 3) := by decide +kernel
theorem dX9_bitsOf_24 : decode cX9_bitsOf 24 = .ok (.iload_n 1, 1) := by decide +kernel
theorem dX9_bitsOf_25 : decode cX9_bitsOf 25 = .ok (.ireturn, 1) := by decide +kernel
theorem dX9_firstDraft_0 : decode cX9_firstDraft 0 = .ok (.iconst 0, 1) := by decide +kernel
theorem dX9_firstDraft_1 : decode cX9_firstDraft 1 = .ok (.istore_n 1, 1) := by decide +kernel
theorem dX9_firstDraft_2 : decode cX9_firstDraft 2 = .ok (.iload_n 1, 1) := by decide +kernel
theorem dX9_firstDraft_3 : decode cX9_firstDraft 3 = .ok (.bipush 62, 2) := by decide +kernel
theorem dX9_firstDraft_5 : decode cX9_firstDraft 5 = .ok (.if_icmp .ge 16, 3) := by decide +kernel
theorem dX9_firstDraft_8 : decode cX9_firstDraft 8 = .ok (.aload_n 0, 1) := by decide +kernel
theorem dX9_firstDraft_9 : decode cX9_firstDraft 9 = .ok (.getfield 20, 3) := by decide +kernel
theorem dX9_firstDraft_12 : decode cX9_firstDraft 12 = .ok (.iload_n 1, 1) := by decide +kernel
theorem dX9_firstDraft_13 : decode cX9_firstDraft 13 = .ok (.iconst 0, 1) := by decide +kernel
theorem dX9_firstDraft_14 : decode cX9_firstDraft 14 = .ok (.iastore, 1) := by decide +kernel
theorem dX9_firstDraft_15 : decode cX9_firstDraft 15 = .ok (.iinc 1 1, 3) := by decide +kernel
theorem dX9_firstDraft_18 : decode cX9_firstDraft 18 = .ok (.goto (-16), 3) := by decide +kernel
theorem dX9_firstDraft_21 : decode cX9_firstDraft 21 = .ok (.aload_n 0, 1) := by decide +kernel
theorem dX9_firstDraft_22 : decode cX9_firstDraft 22 = .ok (.iconst 0, 1) := by decide +kernel
theorem dX9_firstDraft_23 : decode cX9_firstDraft 23 = .ok (.putfield 56, 3) := by decide +kernel
theorem dX9_firstDraft_26 : decode cX9_firstDraft 26 = .ok (.aload_n 0, 1) := by decide +kernel
theorem dX9_firstDraft_27 : decode cX9_firstDraft 27 = .ok (.iconst 0, 1) := by decide +kernel
theorem dX9_firstDraft_28 : decode cX9_firstDraft 28 = .ok (.putfield 60, 3) := by decide +kernel
theorem dX9_firstDraft_31 : decode cX9_firstDraft 31 = .ok (.aload_n 0, 1) := by decide +kernel
theorem dX9_firstDraft_32 : decode cX9_firstDraft 32 = .ok (.iconst 0, 1) := by decide +kernel
theorem dX9_firstDraft_33 : decode cX9_firstDraft 33 = .ok (.putfield 63, 3) := by decide +kernel
theorem dX9_firstDraft_36 : decode cX9_firstDraft 36 = .ok (.aload_n 0, 1) := by decide +kernel
theorem dX9_firstDraft_37 : decode cX9_firstDraft 37 = .ok (.bipush (-4), 2) := by decide +kernel
theorem dX9_firstDraft_39 : decode cX9_firstDraft 39 = .ok (.putfield 67, 3) := by decide +kernel
theorem dX9_firstDraft_42 : decode cX9_firstDraft 42 = .ok (.return_, 1) := by decide +kernel
theorem dX9_keepDraft_0 : decode cX9_keepDraft 0 = .ok (.iconst 0, 1) := by decide +kernel
theorem dX9_keepDraft_1 : decode cX9_keepDraft 1 = .ok (.istore_n 1, 1) := by decide +kernel
theorem dX9_keepDraft_2 : decode cX9_keepDraft 2 = .ok (.iload_n 1, 1) := by decide +kernel
theorem dX9_keepDraft_3 : decode cX9_keepDraft 3 = .ok (.bipush 62, 2) := by decide +kernel
theorem dX9_keepDraft_5 : decode cX9_keepDraft 5 = .ok (.if_icmp .ge 21, 3) := by decide +kernel
theorem dX9_keepDraft_8 : decode cX9_keepDraft 8 = .ok (.aload_n 0, 1) := by decide +kernel
theorem dX9_keepDraft_9 : decode cX9_keepDraft 9 = .ok (.getfield 7, 3) := by decide +kernel
theorem dX9_keepDraft_12 : decode cX9_keepDraft 12 = .ok (.iload_n 1, 1) := by decide +kernel
theorem dX9_keepDraft_13 : decode cX9_keepDraft 13 = .ok (.aload_n 0, 1) := by decide +kernel
theorem dX9_keepDraft_14 : decode cX9_keepDraft 14 = .ok (.getfield 20, 3) := by decide +kernel
theorem dX9_keepDraft_17 : decode cX9_keepDraft 17 = .ok (.iload_n 1, 1) := by decide +kernel
theorem dX9_keepDraft_18 : decode cX9_keepDraft 18 = .ok (.iaload, 1) := by decide +kernel
theorem dX9_keepDraft_19 : decode cX9_keepDraft 19 = .ok (.iastore, 1) := by decide +kernel
theorem dX9_keepDraft_20 : decode cX9_keepDraft 20 = .ok (.iinc 1 1, 3) := by decide +kernel
theorem dX9_keepDraft_23 : decode cX9_keepDraft 23 = .ok (.goto (-21), 3) := by decide +kernel
theorem dX9_keepDraft_26 : decode cX9_keepDraft 26 = .ok (.aload_n 0, 1) := by decide +kernel
theorem dX9_keepDraft_27 : decode cX9_keepDraft 27 = .ok (.aload_n 0, 1) := by decide +kernel
theorem dX9_keepDraft_28 : decode cX9_keepDraft 28 = .ok (.getfield 56, 3) := by decide +kernel
theorem dX9_keepDraft_31 : decode cX9_keepDraft 31 = .ok (.putfield 70, 3) := by decide +kernel
theorem dX9_keepDraft_34 : decode cX9_keepDraft 34 = .ok (.aload_n 0, 1) := by decide +kernel
theorem dX9_keepDraft_35 : decode cX9_keepDraft 35 = .ok (.aload_n 0, 1) := by decide +kernel
theorem dX9_keepDraft_36 : decode cX9_keepDraft 36 = .ok (.getfield 60, 3) := by decide +kernel
theorem dX9_keepDraft_39 : decode cX9_keepDraft 39 = .ok (.putfield 73, 3) := by decide +kernel
theorem dX9_keepDraft_42 : decode cX9_keepDraft 42 = .ok (.aload_n 0, 1) := by decide +kernel
theorem dX9_keepDraft_43 : decode cX9_keepDraft 43 = .ok (.getfield 16, 3) := by decide +kernel
theorem dX9_keepDraft_46 : decode cX9_keepDraft 46 = .ok (.iconst 0, 1) := by decide +kernel
theorem dX9_keepDraft_47 : decode cX9_keepDraft 47 = .ok (.iconst 0, 1) := by decide +kernel
theorem dX9_keepDraft_48 : decode cX9_keepDraft 48 = .ok (.bastore, 1) := by decide +kernel
theorem dX9_keepDraft_49 : decode cX9_keepDraft 49 = .ok (.aload_n 0, 1) := by decide +kernel
theorem dX9_keepDraft_50 : decode cX9_keepDraft 50 = .ok (.getfield 16, 3) := by decide +kernel
theorem dX9_keepDraft_53 : decode cX9_keepDraft 53 = .ok (.iconst 1, 1) := by decide +kernel
theorem dX9_keepDraft_54 : decode cX9_keepDraft 54 = .ok (.iconst 0, 1) := by decide +kernel
theorem dX9_keepDraft_55 : decode cX9_keepDraft 55 = .ok (.bastore, 1) := by decide +kernel
theorem dX9_keepDraft_56 : decode cX9_keepDraft 56 = .ok (.return_, 1) := by decide +kernel
theorem dX9_feed_0 : decode cX9_feed 0 = .ok (.iload_n 1, 1) := by decide +kernel
theorem dX9_feed_1 : decode cX9_feed 1 = .ok (.i2l, 1) := by decide +kernel
theorem dX9_feed_2 : decode cX9_feed 2 = .ok (.lconst 0, 1) := by decide +kernel
theorem dX9_feed_3 : decode cX9_feed 3 = .ok (.ldc2_w 76, 3) := by decide +kernel
theorem dX9_feed_6 : decode cX9_feed 6 = .ok (.invokestatic 78, 3) := by decide +kernel
theorem dX9_feed_9 : decode cX9_feed 9 = .ok (.ifCond .ne 5, 3) := by decide +kernel
theorem dX9_feed_12 : decode cX9_feed 12 = .ok (.iconst (-1), 1) := by decide +kernel
theorem dX9_feed_13 : decode cX9_feed 13 = .ok (.ireturn, 1) := by decide +kernel
theorem dX9_feed_14 : decode cX9_feed 14 = .ok (.aload_n 0, 1) := by decide +kernel
theorem dX9_feed_15 : decode cX9_feed 15 = .ok (.getfield 82, 3) := by decide +kernel
theorem dX9_feed_18 : decode cX9_feed 18 = .ok (.sipush 160, 3) := by decide +kernel
theorem dX9_feed_21 : decode cX9_feed 21 = .ok (.if_icmp .ne 6, 3) := by decide +kernel
theorem dX9_feed_24 : decode cX9_feed 24 = .ok (.bipush (-3), 2) := by decide +kernel
theorem dX9_feed_26 : decode cX9_feed 26 = .ok (.ireturn, 1) := by decide +kernel
theorem dX9_feed_27 : decode cX9_feed 27 = .ok (.aload_n 0, 1) := by decide +kernel
theorem dX9_feed_28 : decode cX9_feed 28 = .ok (.getfield 23, 3) := by decide +kernel
theorem dX9_feed_31 : decode cX9_feed 31 = .ok (.aload_n 0, 1) := by decide +kernel
theorem dX9_feed_32 : decode cX9_feed 32 = .ok (.getfield 82, 3) := by decide +kernel
theorem dX9_feed_35 : decode cX9_feed 35 = .ok (.iload_n 1, 1) := by decide +kernel
theorem dX9_feed_36 : decode cX9_feed 36 = .ok (.iastore, 1) := by decide +kernel
theorem dX9_feed_37 : decode cX9_feed 37 = .ok (.aload_n 0, 1) := by decide +kernel
theorem dX9_feed_38 : decode cX9_feed 38 = .ok (.dup, 1) := by decide +kernel
theorem dX9_feed_39 : decode cX9_feed 39 = .ok (.getfield 82, 3) := by decide +kernel
theorem dX9_feed_42 : decode cX9_feed 42 = .ok (.iconst 1, 1) := by decide +kernel
theorem dX9_feed_43 : decode cX9_feed 43 = .ok (.iadd, 1) := by decide +kernel
theorem dX9_feed_44 : decode cX9_feed 44 = .ok (.putfield 82, 3) := by decide +kernel
theorem dX9_feed_47 : decode cX9_feed 47 = .ok (.aload_n 0, 1) := by decide +kernel
theorem dX9_feed_48 : decode cX9_feed 48 = .ok (.getfield 82, 3) := by decide +kernel
theorem dX9_feed_51 : decode cX9_feed 51 = .ok (.ireturn, 1) := by decide +kernel
theorem dX9_end_0 : decode cX9_end 0 = .ok (.iload_n 1, 1) := by decide +kernel
theorem dX9_end_1 : decode cX9_end 1 = .ok (.i2l, 1) := by decide +kernel
theorem dX9_end_2 : decode cX9_end 2 = .ok (.lconst 0, 1) := by decide +kernel
theorem dX9_end_3 : decode cX9_end 3 = .ok (.aload_n 0, 1) := by decide +kernel
theorem dX9_end_4 : decode cX9_end 4 = .ok (.getfield 82, 3) := by decide +kernel
theorem dX9_end_7 : decode cX9_end 7 = .ok (.i2l, 1) := by decide +kernel
theorem dX9_end_8 : decode cX9_end 8 = .ok (.invokestatic 78, 3) := by decide +kernel
theorem dX9_end_11 : decode cX9_end 11 = .ok (.ifCond .ne 5, 3) := by decide +kernel
theorem dX9_end_14 : decode cX9_end 14 = .ok (.iconst (-1), 1) := by decide +kernel
theorem dX9_end_15 : decode cX9_end 15 = .ok (.ireturn, 1) := by decide +kernel
theorem dX9_end_16 : decode cX9_end 16 = .ok (.aload_n 0, 1) := by decide +kernel
theorem dX9_end_17 : decode cX9_end 17 = .ok (.getfield 82, 3) := by decide +kernel
theorem dX9_end_20 : decode cX9_end 20 = .ok (.istore_n 2, 1) := by decide +kernel
theorem dX9_end_21 : decode cX9_end 21 = .ok (.aload_n 0, 1) := by decide +kernel
theorem dX9_end_22 : decode cX9_end 22 = .ok (.iload_n 1, 1) := by decide +kernel
theorem dX9_end_23 : decode cX9_end 23 = .ok (.putfield 82, 3) := by decide +kernel
theorem dX9_end_26 : decode cX9_end 26 = .ok (.iload_n 2, 1) := by decide +kernel
theorem dX9_end_27 : decode cX9_end 27 = .ok (.ireturn, 1) := by decide +kernel
theorem dX9_needs_0 : decode cX9_needs 0 = .ok (.iload_n 1, 1) := by decide +kernel
theorem dX9_needs_1 : decode cX9_needs 1 = .ok (.ifCond .ne 23, 3) := by decide +kernel
theorem dX9_needs_4 : decode cX9_needs 4 = .ok (.aload_n 0, 1) := by decide +kernel
theorem dX9_needs_5 : decode cX9_needs 5 = .ok (.getfield 85, 3) := by decide +kernel
theorem dX9_needs_8 : decode cX9_needs 8 = .ok (.ifCond .ne 16, 3) := by decide +kernel
theorem dX9_needs_11 : decode cX9_needs 11 = .ok (.aload_n 0, 1) := by decide +kernel
theorem dX9_needs_12 : decode cX9_needs 12 = .ok (.iload_n 2, 1) := by decide +kernel
theorem dX9_needs_13 : decode cX9_needs 13 = .ok (.putfield 85, 3) := by decide +kernel
theorem dX9_needs_16 : decode cX9_needs 16 = .ok (.aload_n 0, 1) := by decide +kernel
theorem dX9_needs_17 : decode cX9_needs 17 = .ok (.aload_n 0, 1) := by decide +kernel
theorem dX9_needs_18 : decode cX9_needs 18 = .ok (.getfield 88, 3) := by decide +kernel
theorem dX9_needs_21 : decode cX9_needs 21 = .ok (.putfield 91, 3) := by decide +kernel
theorem dX9_needs_24 : decode cX9_needs 24 = .ok (.return_, 1) := by decide +kernel
theorem dX9_byteAt_0 : decode cX9_byteAt 0 = .ok (.iload_n 1, 1) := by decide +kernel
theorem dX9_byteAt_1 : decode cX9_byteAt 1 = .ok (.aload_n 0, 1) := by decide +kernel
theorem dX9_byteAt_2 : decode cX9_byteAt 2 = .ok (.getfield 82, 3) := by decide +kernel
theorem dX9_byteAt_5 : decode cX9_byteAt 5 = .ok (.if_icmp .ge 12, 3) := by decide +kernel
theorem dX9_byteAt_8 : decode cX9_byteAt 8 = .ok (.aload_n 0, 1) := by decide +kernel
theorem dX9_byteAt_9 : decode cX9_byteAt 9 = .ok (.getfield 23, 3) := by decide +kernel
theorem dX9_byteAt_12 : decode cX9_byteAt 12 = .ok (.iload_n 1, 1) := by decide +kernel
theorem dX9_byteAt_13 : decode cX9_byteAt 13 = .ok (.iaload, 1) := by decide +kernel
theorem dX9_byteAt_14 : decode cX9_byteAt 14 = .ok (.goto 4, 3) := by decide +kernel
theorem dX9_byteAt_17 : decode cX9_byteAt 17 = .ok (.iconst (-1), 1) := by decide +kernel
theorem dX9_byteAt_18 : decode cX9_byteAt 18 = .ok (.ireturn, 1) := by decide +kernel
theorem dX9_is_0 : decode cX9_is 0 = .ok (.aload_n 0, 1) := by decide +kernel
theorem dX9_is_1 : decode cX9_is 1 = .ok (.getfield 94, 3) := by decide +kernel
theorem dX9_is_4 : decode cX9_is 4 = .ok (.aload_n 0, 1) := by decide +kernel
theorem dX9_is_5 : decode cX9_is 5 = .ok (.getfield 88, 3) := by decide +kernel
theorem dX9_is_8 : decode cX9_is 8 = .ok (.isub, 1) := by decide +kernel
theorem dX9_is_9 : decode cX9_is 9 = .ok (.iload_n 1, 1) := by decide +kernel
theorem dX9_is_10 : decode cX9_is 10 = .ok (.if_icmp .ne 63, 3) := by decide +kernel
theorem dX9_is_13 : decode cX9_is 13 = .ok (.aload_n 0, 1) := by decide +kernel
theorem dX9_is_14 : decode cX9_is 14 = .ok (.aload_n 0, 1) := by decide +kernel
theorem dX9_is_15 : decode cX9_is 15 = .ok (.getfield 88, 3) := by decide +kernel
theorem dX9_is_18 : decode cX9_is 18 = .ok (.invokevirtual 97, 3) := by decide +kernel
theorem dX9_is_21 : decode cX9_is 21 = .ok (.iload_n 2, 1) := by decide +kernel
theorem dX9_is_22 : decode cX9_is 22 = .ok (.if_icmp .ne 51, 3) := by decide +kernel
theorem dX9_is_25 : decode cX9_is 25 = .ok (.aload_n 0, 1) := by decide +kernel
theorem dX9_is_26 : decode cX9_is 26 = .ok (.aload_n 0, 1) := by decide +kernel
theorem dX9_is_27 : decode cX9_is 27 = .ok (.getfield 88, 3) := by decide +kernel
theorem dX9_is_30 : decode cX9_is 30 = .ok (.iconst 1, 1) := by decide +kernel
theorem dX9_is_31 : decode cX9_is 31 = .ok (.iadd, 1) := by decide +kernel
theorem dX9_is_32 : decode cX9_is 32 = .ok (.invokevirtual 97, 3) := by decide +kernel
theorem dX9_is_35 : decode cX9_is 35 = .ok (.iload_n 3, 1) := by decide +kernel
theorem dX9_is_36 : decode cX9_is 36 = .ok (.if_icmp .ne 37, 3) := by decide +kernel
theorem dX9_is_39 : decode cX9_is 39 = .ok (.aload_n 0, 1) := by decide +kernel
theorem dX9_is_40 : decode cX9_is 40 = .ok (.aload_n 0, 1) := by decide +kernel
theorem dX9_is_41 : decode cX9_is 41 = .ok (.getfield 88, 3) := by decide +kernel
theorem dX9_is_44 : decode cX9_is 44 = .ok (.iconst 2, 1) := by decide +kernel
theorem dX9_is_45 : decode cX9_is 45 = .ok (.iadd, 1) := by decide +kernel
theorem dX9_is_46 : decode cX9_is 46 = .ok (.invokevirtual 97, 3) := by decide +kernel
theorem dX9_is_49 : decode cX9_is 49 = .ok (.iload 4, 2) := by decide +kernel
theorem dX9_is_51 : decode cX9_is 51 = .ok (.if_icmp .ne 22, 3) := by decide +kernel
theorem dX9_is_54 : decode cX9_is 54 = .ok (.aload_n 0, 1) := by decide +kernel
theorem dX9_is_55 : decode cX9_is 55 = .ok (.aload_n 0, 1) := by decide +kernel
theorem dX9_is_56 : decode cX9_is 56 = .ok (.getfield 88, 3) := by decide +kernel
theorem dX9_is_59 : decode cX9_is 59 = .ok (.iconst 3, 1) := by decide +kernel
theorem dX9_is_60 : decode cX9_is 60 = .ok (.iadd, 1) := by decide +kernel
theorem dX9_is_61 : decode cX9_is 61 = .ok (.invokevirtual 97, 3) := by decide +kernel
theorem dX9_is_64 : decode cX9_is 64 = .ok (.iload 5, 2) := by decide +kernel
theorem dX9_is_66 : decode cX9_is 66 = .ok (.if_icmp .ne 7, 3) := by decide +kernel
theorem dX9_is_69 : decode cX9_is 69 = .ok (.iconst 1, 1) := by decide +kernel
theorem dX9_is_70 : decode cX9_is 70 = .ok (.goto 4, 3) := by decide +kernel
theorem dX9_is_73 : decode cX9_is 73 = .ok (.iconst 0, 1) := by decide +kernel
theorem dX9_is_74 : decode cX9_is 74 = .ok (.ireturn, 1) := by decide +kernel
theorem dX9_ends_0 : decode cX9_ends 0 = .ok (.aload_n 0, 1) := by decide +kernel
theorem dX9_ends_1 : decode cX9_ends 1 = .ok (.aload_n 0, 1) := by decide +kernel
theorem dX9_ends_2 : decode cX9_ends 2 = .ok (.getfield 88, 3) := by decide +kernel
theorem dX9_ends_5 : decode cX9_ends 5 = .ok (.iconst 4, 1) := by decide +kernel
theorem dX9_ends_6 : decode cX9_ends 6 = .ok (.iadd, 1) := by decide +kernel
theorem dX9_ends_7 : decode cX9_ends 7 = .ok (.invokevirtual 97, 3) := by decide +kernel
theorem dX9_ends_10 : decode cX9_ends 10 = .ok (.iload_n 1, 1) := by decide +kernel
theorem dX9_ends_11 : decode cX9_ends 11 = .ok (.if_icmp .ne 25, 3) := by decide +kernel
theorem dX9_ends_14 : decode cX9_ends 14 = .ok (.iload_n 2, 1) := by decide +kernel
theorem dX9_ends_15 : decode cX9_ends 15 = .ok (.ifCond .eq 17, 3) := by decide +kernel
theorem dX9_ends_18 : decode cX9_ends 18 = .ok (.aload_n 0, 1) := by decide +kernel
theorem dX9_ends_19 : decode cX9_ends 19 = .ok (.aload_n 0, 1) := by decide +kernel
theorem dX9_ends_20 : decode cX9_ends 20 = .ok (.getfield 88, 3) := by decide +kernel
theorem dX9_ends_23 : decode cX9_ends 23 = .ok (.iconst 5, 1) := by decide +kernel
theorem dX9_ends_24 : decode cX9_ends 24 = .ok (.iadd, 1) := by decide +kernel
theorem dX9_ends_25 : decode cX9_ends 25 = .ok (.invokevirtual 97, 3) := by decide +kernel
theorem dX9_ends_28 : decode cX9_ends 28 = .ok (.iload_n 2, 1) := by decide +kernel
theorem dX9_ends_29 : decode cX9_ends 29 = .ok (.if_icmp .ne 7, 3) := by decide +kernel
theorem dX9_ends_32 : decode cX9_ends 32 = .ok (.iconst 1, 1) := by decide +kernel
theorem dX9_ends_33 : decode cX9_ends 33 = .ok (.goto 4, 3) := by decide +kernel
theorem dX9_ends_36 : decode cX9_ends 36 = .ok (.iconst 0, 1) := by decide +kernel
theorem dX9_ends_37 : decode cX9_ends 37 = .ok (.ireturn, 1) := by decide +kernel
theorem dX9_lineNow_0 : decode cX9_lineNow 0 = .ok (.aload_n 0, 1) := by decide +kernel
theorem dX9_lineNow_1 : decode cX9_lineNow 1 = .ok (.iconst 5, 1) := by decide +kernel
theorem dX9_lineNow_2 : decode cX9_lineNow 2 = .ok (.bipush 103, 2) := by decide +kernel
theorem dX9_lineNow_4 : decode cX9_lineNow 4 = .ok (.bipush 117, 2) := by decide +kernel
theorem dX9_lineNow_6 : decode cX9_lineNow 6 = .ok (.bipush 101, 2) := by decide +kernel
theorem dX9_lineNow_8 : decode cX9_lineNow 8 = .ok (.bipush 115, 2) := by decide +kernel
theorem dX9_lineNow_10 : decode cX9_lineNow 10 = .ok (.invokevirtual 101, 3) := by decide +kernel
theorem dX9_lineNow_13 : decode cX9_lineNow 13 = .ok (.ifCond .eq 15, 3) := by decide +kernel
theorem dX9_lineNow_16 : decode cX9_lineNow 16 = .ok (.aload_n 0, 1) := by decide +kernel
theorem dX9_lineNow_17 : decode cX9_lineNow 17 = .ok (.bipush 116, 2) := by decide +kernel
theorem dX9_lineNow_19 : decode cX9_lineNow 19 = .ok (.iconst 0, 1) := by decide +kernel
theorem dX9_lineNow_20 : decode cX9_lineNow 20 = .ok (.invokevirtual 105, 3) := by decide +kernel
theorem dX9_lineNow_23 : decode cX9_lineNow 23 = .ok (.ifCond .eq 5, 3) := by decide +kernel
theorem dX9_lineNow_26 : decode cX9_lineNow 26 = .ok (.iconst 0, 1) := by decide +kernel
theorem dX9_lineNow_27 : decode cX9_lineNow 27 = .ok (.ireturn, 1) := by decide +kernel
theorem dX9_lineNow_28 : decode cX9_lineNow 28 = .ok (.aload_n 0, 1) := by decide +kernel
theorem dX9_lineNow_29 : decode cX9_lineNow 29 = .ok (.bipush 6, 2) := by decide +kernel
theorem dX9_lineNow_31 : decode cX9_lineNow 31 = .ok (.bipush 110, 2) := by decide +kernel
theorem dX9_lineNow_33 : decode cX9_lineNow 33 = .ok (.bipush 101, 2) := by decide +kernel
theorem dX9_lineNow_35 : decode cX9_lineNow 35 = .ok (.bipush 112, 2) := by decide +kernel
theorem dX9_lineNow_37 : decode cX9_lineNow 37 = .ok (.bipush 104, 2) := by decide +kernel
theorem dX9_lineNow_39 : decode cX9_lineNow 39 = .ok (.invokevirtual 101, 3) := by decide +kernel
theorem dX9_lineNow_42 : decode cX9_lineNow 42 = .ok (.ifCond .eq 16, 3) := by decide +kernel
theorem dX9_lineNow_45 : decode cX9_lineNow 45 = .ok (.aload_n 0, 1) := by decide +kernel
theorem dX9_lineNow_46 : decode cX9_lineNow 46 = .ok (.bipush 101, 2) := by decide +kernel
theorem dX9_lineNow_48 : decode cX9_lineNow 48 = .ok (.bipush 119, 2) := by decide +kernel
theorem dX9_lineNow_50 : decode cX9_lineNow 50 = .ok (.invokevirtual 105, 3) := by decide +kernel
theorem dX9_lineNow_53 : decode cX9_lineNow 53 = .ok (.ifCond .eq 5, 3) := by decide +kernel
theorem dX9_lineNow_56 : decode cX9_lineNow 56 = .ok (.iconst 1, 1) := by decide +kernel
theorem dX9_lineNow_57 : decode cX9_lineNow 57 = .ok (.ireturn, 1) := by decide +kernel
theorem dX9_lineNow_58 : decode cX9_lineNow 58 = .ok (.aload_n 0, 1) := by decide +kernel
theorem dX9_lineNow_59 : decode cX9_lineNow 59 = .ok (.iconst 4, 1) := by decide +kernel
theorem dX9_lineNow_60 : decode cX9_lineNow 60 = .ok (.bipush 108, 2) := by decide +kernel
theorem dX9_lineNow_62 : decode cX9_lineNow 62 = .ok (.bipush 111, 2) := by decide +kernel
theorem dX9_lineNow_64 : decode cX9_lineNow 64 = .ok (.bipush 114, 2) := by decide +kernel
theorem dX9_lineNow_66 : decode cX9_lineNow 66 = .ok (.bipush 100, 2) := by decide +kernel
theorem dX9_lineNow_68 : decode cX9_lineNow 68 = .ok (.invokevirtual 101, 3) := by decide +kernel
theorem dX9_lineNow_71 : decode cX9_lineNow 71 = .ok (.ifCond .eq 5, 3) := by decide +kernel
theorem dX9_lineNow_74 : decode cX9_lineNow 74 = .ok (.iconst 2, 1) := by decide +kernel
theorem dX9_lineNow_75 : decode cX9_lineNow 75 = .ok (.ireturn, 1) := by decide +kernel
theorem dX9_lineNow_76 : decode cX9_lineNow 76 = .ok (.aload_n 0, 1) := by decide +kernel
theorem dX9_lineNow_77 : decode cX9_lineNow 77 = .ok (.iconst 4, 1) := by decide +kernel
theorem dX9_lineNow_78 : decode cX9_lineNow 78 = .ok (.bipush 109, 2) := by decide +kernel
theorem dX9_lineNow_80 : decode cX9_lineNow 80 = .ok (.bipush 97, 2) := by decide +kernel
theorem dX9_lineNow_82 : decode cX9_lineNow 82 = .ok (.bipush 105, 2) := by decide +kernel
theorem dX9_lineNow_84 : decode cX9_lineNow 84 = .ok (.bipush 100, 2) := by decide +kernel
theorem dX9_lineNow_86 : decode cX9_lineNow 86 = .ok (.invokevirtual 101, 3) := by decide +kernel
theorem dX9_lineNow_89 : decode cX9_lineNow 89 = .ok (.ifCond .eq 5, 3) := by decide +kernel
theorem dX9_lineNow_92 : decode cX9_lineNow 92 = .ok (.iconst 3, 1) := by decide +kernel
theorem dX9_lineNow_93 : decode cX9_lineNow 93 = .ok (.ireturn, 1) := by decide +kernel
theorem dX9_lineNow_94 : decode cX9_lineNow 94 = .ok (.aload_n 0, 1) := by decide +kernel
theorem dX9_lineNow_95 : decode cX9_lineNow 95 = .ok (.iconst 4, 1) := by decide +kernel
theorem dX9_lineNow_96 : decode cX9_lineNow 96 = .ok (.bipush 98, 2) := by decide +kernel
theorem dX9_lineNow_98 : decode cX9_lineNow 98 = .ok (.bipush 111, 2) := by decide +kernel
theorem dX9_lineNow_100 : decode cX9_lineNow 100 = .ok (.bipush 111, 2) := by decide +kernel
theorem dX9_lineNow_102 : decode cX9_lineNow 102 = .ok (.bipush 107, 2) := by decide +kernel
theorem dX9_lineNow_104 : decode cX9_lineNow 104 = .ok (.invokevirtual 101, 3) := by decide +kernel
theorem dX9_lineNow_107 : decode cX9_lineNow 107 = .ok (.ifCond .eq 7, 3) := by decide +kernel
theorem dX9_lineNow_110 : decode cX9_lineNow 110 = .ok (.iconst 4, 1) := by decide +kernel
theorem dX9_lineNow_111 : decode cX9_lineNow 111 = .ok (.goto 35, 3) := by decide +kernel
theorem dX9_lineNow_114 : decode cX9_lineNow 114 = .ok (.aload_n 0, 1) := by decide +kernel
theorem dX9_lineNow_115 : decode cX9_lineNow 115 = .ok (.iconst 5, 1) := by decide +kernel
theorem dX9_lineNow_116 : decode cX9_lineNow 116 = .ok (.bipush 115, 2) := by decide +kernel
theorem dX9_lineNow_118 : decode cX9_lineNow 118 = .ok (.bipush 116, 2) := by decide +kernel
theorem dX9_lineNow_120 : decode cX9_lineNow 120 = .ok (.bipush 101, 2) := by decide +kernel
theorem dX9_lineNow_122 : decode cX9_lineNow 122 = .ok (.bipush 112, 2) := by decide +kernel
theorem dX9_lineNow_124 : decode cX9_lineNow 124 = .ok (.invokevirtual 101, 3) := by decide +kernel
theorem dX9_lineNow_127 : decode cX9_lineNow 127 = .ok (.ifCond .eq 17, 3) := by decide +kernel
theorem dX9_lineNow_130 : decode cX9_lineNow 130 = .ok (.aload_n 0, 1) := by decide +kernel
theorem dX9_lineNow_131 : decode cX9_lineNow 131 = .ok (.bipush 115, 2) := by decide +kernel
theorem dX9_lineNow_133 : decode cX9_lineNow 133 = .ok (.iconst 0, 1) := by decide +kernel
theorem dX9_lineNow_134 : decode cX9_lineNow 134 = .ok (.invokevirtual 105, 3) := by decide +kernel
theorem dX9_lineNow_137 : decode cX9_lineNow 137 = .ok (.ifCond .eq 7, 3) := by decide +kernel
theorem dX9_lineNow_140 : decode cX9_lineNow 140 = .ok (.iconst 5, 1) := by decide +kernel
theorem dX9_lineNow_141 : decode cX9_lineNow 141 = .ok (.goto 5, 3) := by decide +kernel
theorem dX9_lineNow_144 : decode cX9_lineNow 144 = .ok (.bipush (-4), 2) := by decide +kernel
theorem dX9_lineNow_146 : decode cX9_lineNow 146 = .ok (.ireturn, 1) := by decide +kernel
theorem dX9_takes_0 : decode cX9_takes 0 = .ok (.aload_n 0, 1) := by decide +kernel
theorem dX9_takes_1 : decode cX9_takes 1 = .ok (.getfield 85, 3) := by decide +kernel
theorem dX9_takes_4 : decode cX9_takes 4 = .ok (.ifCond .le 4, 3) := by decide +kernel
theorem dX9_takes_7 : decode cX9_takes 7 = .ok (.return_, 1) := by decide +kernel
theorem dX9_takes_8 : decode cX9_takes 8 = .ok (.aload_n 0, 1) := by decide +kernel
theorem dX9_takes_9 : decode cX9_takes 9 = .ok (.aload_n 0, 1) := by decide +kernel
theorem dX9_takes_10 : decode cX9_takes 10 = .ok (.getfield 94, 3) := by decide +kernel
theorem dX9_takes_13 : decode cX9_takes 13 = .ok (.invokevirtual 97, 3) := by decide +kernel
theorem dX9_takes_16 : decode cX9_takes 16 = .ok (.bipush 32, 2) := by decide +kernel
theorem dX9_takes_18 : decode cX9_takes 18 = .ok (.if_icmp .ne 16, 3) := by decide +kernel
theorem dX9_takes_21 : decode cX9_takes 21 = .ok (.aload_n 0, 1) := by decide +kernel
theorem dX9_takes_22 : decode cX9_takes 22 = .ok (.dup, 1) := by decide +kernel
theorem dX9_takes_23 : decode cX9_takes 23 = .ok (.getfield 94, 3) := by decide +kernel
theorem dX9_takes_26 : decode cX9_takes 26 = .ok (.iconst 1, 1) := by decide +kernel
theorem dX9_takes_27 : decode cX9_takes 27 = .ok (.iadd, 1) := by decide +kernel
theorem dX9_takes_28 : decode cX9_takes 28 = .ok (.putfield 94, 3) := by decide +kernel
theorem dX9_takes_31 : decode cX9_takes 31 = .ok (.goto (-23), 3) := by decide +kernel
theorem dX9_takes_34 : decode cX9_takes 34 = .ok (.aload_n 0, 1) := by decide +kernel
theorem dX9_takes_35 : decode cX9_takes 35 = .ok (.aload_n 0, 1) := by decide +kernel
theorem dX9_takes_36 : decode cX9_takes 36 = .ok (.getfield 94, 3) := by decide +kernel
theorem dX9_takes_39 : decode cX9_takes 39 = .ok (.putfield 88, 3) := by decide +kernel
theorem dX9_takes_42 : decode cX9_takes 42 = .ok (.aload_n 0, 1) := by decide +kernel
theorem dX9_takes_43 : decode cX9_takes 43 = .ok (.aload_n 0, 1) := by decide +kernel
theorem dX9_takes_44 : decode cX9_takes 44 = .ok (.getfield 94, 3) := by decide +kernel
theorem dX9_takes_47 : decode cX9_takes 47 = .ok (.invokevirtual 97, 3) := by decide +kernel
theorem dX9_takes_50 : decode cX9_takes 50 = .ok (.istore_n 1, 1) := by decide +kernel
theorem dX9_takes_51 : decode cX9_takes 51 = .ok (.iload_n 1, 1) := by decide +kernel
theorem dX9_takes_52 : decode cX9_takes 52 = .ok (.ifCond .ge 11, 3) := by decide +kernel
theorem dX9_takes_55 : decode cX9_takes 55 = .ok (.aload_n 0, 1) := by decide +kernel
theorem dX9_takes_56 : decode cX9_takes 56 = .ok (.iconst 0, 1) := by decide +kernel
theorem dX9_takes_57 : decode cX9_takes 57 = .ok (.putfield 109, 3) := by decide +kernel
theorem dX9_takes_60 : decode cX9_takes 60 = .ok (.goto 214, 3) := by decide +kernel
theorem dX9_takes_63 : decode cX9_takes 63 = .ok (.iload_n 1, 1) := by decide +kernel
theorem dX9_takes_64 : decode cX9_takes 64 = .ok (.i2l, 1) := by decide +kernel
theorem dX9_takes_65 : decode cX9_takes 65 = .ok (.ldc2_w 112, 3) := by decide +kernel
theorem dX9_takes_68 : decode cX9_takes 68 = .ok (.ldc2_w 114, 3) := by decide +kernel
theorem dX9_takes_71 : decode cX9_takes 71 = .ok (.invokestatic 78, 3) := by decide +kernel
theorem dX9_takes_74 : decode cX9_takes 74 = .ok (.ifCond .eq 42, 3) := by decide +kernel
theorem dX9_takes_77 : decode cX9_takes 77 = .ok (.aload_n 0, 1) := by decide +kernel
theorem dX9_takes_78 : decode cX9_takes 78 = .ok (.iconst 1, 1) := by decide +kernel
theorem dX9_takes_79 : decode cX9_takes 79 = .ok (.putfield 109, 3) := by decide +kernel
theorem dX9_takes_82 : decode cX9_takes 82 = .ok (.aload_n 0, 1) := by decide +kernel
theorem dX9_takes_83 : decode cX9_takes 83 = .ok (.aload_n 0, 1) := by decide +kernel
theorem dX9_takes_84 : decode cX9_takes 84 = .ok (.getfield 94, 3) := by decide +kernel
theorem dX9_takes_87 : decode cX9_takes 87 = .ok (.invokevirtual 97, 3) := by decide +kernel
theorem dX9_takes_90 : decode cX9_takes 90 = .ok (.i2l, 1) := by decide +kernel
theorem dX9_takes_91 : decode cX9_takes 91 = .ok (.ldc2_w 112, 3) := by decide +kernel
theorem dX9_takes_94 : decode cX9_takes 94 = .ok (.ldc2_w 114, 3) := by decide +kernel
theorem dX9_takes_97 : decode cX9_takes 97 = .ok (.invokestatic 78, 3) := by decide +kernel
theorem dX9_takes_100 : decode cX9_takes 100 = .ok (.ifCond .eq 174, 3) := by decide +kernel
theorem dX9_takes_103 : decode cX9_takes 103 = .ok (.aload_n 0, 1) := by decide +kernel
theorem dX9_takes_104 : decode cX9_takes 104 = .ok (.dup, 1) := by decide +kernel
theorem dX9_takes_105 : decode cX9_takes 105 = .ok (.getfield 94, 3) := by decide +kernel
theorem dX9_takes_108 : decode cX9_takes 108 = .ok (.iconst 1, 1) := by decide +kernel
theorem dX9_takes_109 : decode cX9_takes 109 = .ok (.iadd, 1) := by decide +kernel
theorem dX9_takes_110 : decode cX9_takes 110 = .ok (.putfield 94, 3) := by decide +kernel
theorem dX9_takes_113 : decode cX9_takes 113 = .ok (.goto (-31), 3) := by decide +kernel
theorem dX9_takes_116 : decode cX9_takes 116 = .ok (.iload_n 1, 1) := by decide +kernel
theorem dX9_takes_117 : decode cX9_takes 117 = .ok (.i2l, 1) := by decide +kernel
theorem dX9_takes_118 : decode cX9_takes 118 = .ok (.ldc2_w 116, 3) := by decide +kernel
theorem dX9_takes_121 : decode cX9_takes 121 = .ok (.ldc2_w 118, 3) := by decide +kernel
theorem dX9_takes_124 : decode cX9_takes 124 = .ok (.invokestatic 78, 3) := by decide +kernel
theorem dX9_takes_127 : decode cX9_takes 127 = .ok (.ifCond .eq 116, 3) := by decide +kernel
theorem dX9_takes_130 : decode cX9_takes 130 = .ok (.aload_n 0, 1) := by decide +kernel
theorem dX9_takes_131 : decode cX9_takes 131 = .ok (.iconst 2, 1) := by decide +kernel
theorem dX9_takes_132 : decode cX9_takes 132 = .ok (.putfield 109, 3) := by decide +kernel
theorem dX9_takes_135 : decode cX9_takes 135 = .ok (.aload_n 0, 1) := by decide +kernel
theorem dX9_takes_136 : decode cX9_takes 136 = .ok (.iconst 0, 1) := by decide +kernel
theorem dX9_takes_137 : decode cX9_takes 137 = .ok (.putfield 120, 3) := by decide +kernel
theorem dX9_takes_140 : decode cX9_takes 140 = .ok (.aload_n 0, 1) := by decide +kernel
theorem dX9_takes_141 : decode cX9_takes 141 = .ok (.aload_n 0, 1) := by decide +kernel
theorem dX9_takes_142 : decode cX9_takes 142 = .ok (.getfield 94, 3) := by decide +kernel
theorem dX9_takes_145 : decode cX9_takes 145 = .ok (.invokevirtual 97, 3) := by decide +kernel
theorem dX9_takes_148 : decode cX9_takes 148 = .ok (.i2l, 1) := by decide +kernel
theorem dX9_takes_149 : decode cX9_takes 149 = .ok (.ldc2_w 116, 3) := by decide +kernel
theorem dX9_takes_152 : decode cX9_takes 152 = .ok (.ldc2_w 118, 3) := by decide +kernel
theorem dX9_takes_155 : decode cX9_takes 155 = .ok (.invokestatic 78, 3) := by decide +kernel
theorem dX9_takes_158 : decode cX9_takes 158 = .ok (.ifCond .eq 59, 3) := by decide +kernel
theorem dX9_takes_161 : decode cX9_takes 161 = .ok (.aload_n 0, 1) := by decide +kernel
theorem dX9_takes_162 : decode cX9_takes 162 = .ok (.aload_n 0, 1) := by decide +kernel
theorem dX9_takes_163 : decode cX9_takes 163 = .ok (.getfield 94, 3) := by decide +kernel
theorem dX9_takes_166 : decode cX9_takes 166 = .ok (.aload_n 0, 1) := by decide +kernel
theorem dX9_takes_167 : decode cX9_takes 167 = .ok (.getfield 88, 3) := by decide +kernel
theorem dX9_takes_170 : decode cX9_takes 170 = .ok (.isub, 1) := by decide +kernel
theorem dX9_takes_171 : decode cX9_takes 171 = .ok (.iconst 2, 1) := by decide +kernel
theorem dX9_takes_172 : decode cX9_takes 172 = .ok (.if_icmp .ge 25, 3) := by decide +kernel
theorem dX9_takes_175 : decode cX9_takes 175 = .ok (.bipush 10, 2) := by decide +kernel
theorem dX9_takes_177 : decode cX9_takes 177 = .ok (.aload_n 0, 1) := by decide +kernel
theorem dX9_takes_178 : decode cX9_takes 178 = .ok (.getfield 120, 3) := by decide +kernel
theorem dX9_takes_181 : decode cX9_takes 181 = .ok (.imul, 1) := by decide +kernel
theorem dX9_takes_182 : decode cX9_takes 182 = .ok (.aload_n 0, 1) := by decide +kernel
theorem dX9_takes_183 : decode cX9_takes 183 = .ok (.aload_n 0, 1) := by decide +kernel
theorem dX9_takes_184 : decode cX9_takes 184 = .ok (.getfield 94, 3) := by decide +kernel
theorem dX9_takes_187 : decode cX9_takes 187 = .ok (.invokevirtual 97, 3) := by decide +kernel
theorem dX9_takes_190 : decode cX9_takes 190 = .ok (.iadd, 1) := by decide +kernel
theorem dX9_takes_191 : decode cX9_takes 191 = .ok (.bipush 48, 2) := by decide +kernel
theorem dX9_takes_193 : decode cX9_takes 193 = .ok (.isub, 1) := by decide +kernel
theorem dX9_takes_194 : decode cX9_takes 194 = .ok (.goto 7, 3) := by decide +kernel
theorem dX9_takes_197 : decode cX9_takes 197 = .ok (.aload_n 0, 1) := by decide +kernel
theorem dX9_takes_198 : decode cX9_takes 198 = .ok (.getfield 120, 3) := by decide +kernel
theorem dX9_takes_201 : decode cX9_takes 201 = .ok (.putfield 120, 3) := by decide +kernel
theorem dX9_takes_204 : decode cX9_takes 204 = .ok (.aload_n 0, 1) := by decide +kernel
theorem dX9_takes_205 : decode cX9_takes 205 = .ok (.dup, 1) := by decide +kernel
theorem dX9_takes_206 : decode cX9_takes 206 = .ok (.getfield 94, 3) := by decide +kernel
theorem dX9_takes_209 : decode cX9_takes 209 = .ok (.iconst 1, 1) := by decide +kernel
theorem dX9_takes_210 : decode cX9_takes 210 = .ok (.iadd, 1) := by decide +kernel
theorem dX9_takes_211 : decode cX9_takes 211 = .ok (.putfield 94, 3) := by decide +kernel
theorem dX9_takes_214 : decode cX9_takes 214 = .ok (.goto (-74), 3) := by decide +kernel
theorem dX9_takes_217 : decode cX9_takes 217 = .ok (.aload_n 0, 1) := by decide +kernel
theorem dX9_takes_218 : decode cX9_takes 218 = .ok (.aload_n 0, 1) := by decide +kernel
theorem dX9_takes_219 : decode cX9_takes 219 = .ok (.getfield 94, 3) := by decide +kernel
theorem dX9_takes_222 : decode cX9_takes 222 = .ok (.aload_n 0, 1) := by decide +kernel
theorem dX9_takes_223 : decode cX9_takes 223 = .ok (.getfield 88, 3) := by decide +kernel
theorem dX9_takes_226 : decode cX9_takes 226 = .ok (.isub, 1) := by decide +kernel
theorem dX9_takes_227 : decode cX9_takes 227 = .ok (.iconst 2, 1) := by decide +kernel
theorem dX9_takes_228 : decode cX9_takes 228 = .ok (.if_icmp .gt 7, 3) := by decide +kernel
theorem dX9_takes_231 : decode cX9_takes 231 = .ok (.iconst 1, 1) := by decide +kernel
theorem dX9_takes_232 : decode cX9_takes 232 = .ok (.goto 4, 3) := by decide +kernel
theorem dX9_takes_235 : decode cX9_takes 235 = .ok (.iconst 0, 1) := by decide +kernel
theorem dX9_takes_236 : decode cX9_takes 236 = .ok (.iconst 1, 1) := by decide +kernel
theorem dX9_takes_237 : decode cX9_takes 237 = .ok (.invokevirtual 123, 3) := by decide +kernel
theorem dX9_takes_240 : decode cX9_takes 240 = .ok (.goto 34, 3) := by decide +kernel
theorem dX9_takes_243 : decode cX9_takes 243 = .ok (.aload_n 0, 1) := by decide +kernel
theorem dX9_takes_244 : decode cX9_takes 244 = .ok (.iconst 3, 1) := by decide +kernel
theorem dX9_takes_245 : decode cX9_takes 245 = .ok (.putfield 109, 3) := by decide +kernel
theorem dX9_takes_248 : decode cX9_takes 248 = .ok (.aload_n 0, 1) := by decide +kernel
theorem dX9_takes_249 : decode cX9_takes 249 = .ok (.iload_n 1, 1) := by decide +kernel
theorem dX9_takes_250 : decode cX9_takes 250 = .ok (.bipush 59, 2) := by decide +kernel
theorem dX9_takes_252 : decode cX9_takes 252 = .ok (.if_icmp .ne 7, 3) := by decide +kernel
theorem dX9_takes_255 : decode cX9_takes 255 = .ok (.iconst 1, 1) := by decide +kernel
theorem dX9_takes_256 : decode cX9_takes 256 = .ok (.goto 4, 3) := by decide +kernel
theorem dX9_takes_259 : decode cX9_takes 259 = .ok (.iconst 0, 1) := by decide +kernel
theorem dX9_takes_260 : decode cX9_takes 260 = .ok (.iconst 1, 1) := by decide +kernel
theorem dX9_takes_261 : decode cX9_takes 261 = .ok (.invokevirtual 123, 3) := by decide +kernel
theorem dX9_takes_264 : decode cX9_takes 264 = .ok (.aload_n 0, 1) := by decide +kernel
theorem dX9_takes_265 : decode cX9_takes 265 = .ok (.dup, 1) := by decide +kernel
theorem dX9_takes_266 : decode cX9_takes 266 = .ok (.getfield 94, 3) := by decide +kernel
theorem dX9_takes_269 : decode cX9_takes 269 = .ok (.iconst 1, 1) := by decide +kernel
theorem dX9_takes_270 : decode cX9_takes 270 = .ok (.iadd, 1) := by decide +kernel
theorem dX9_takes_271 : decode cX9_takes 271 = .ok (.putfield 94, 3) := by decide +kernel
theorem dX9_takes_274 : decode cX9_takes 274 = .ok (.return_, 1) := by decide +kernel
theorem dX9_looked_0 : decode cX9_looked 0 = .ok (.aload_n 0, 1) := by decide +kernel
theorem dX9_looked_1 : decode cX9_looked 1 = .ok (.getfield 85, 3) := by decide +kernel
theorem dX9_looked_4 : decode cX9_looked 4 = .ok (.ifCond .ne 21, 3) := by decide +kernel
theorem dX9_looked_7 : decode cX9_looked 7 = .ok (.aload_n 0, 1) := by decide +kernel
theorem dX9_looked_8 : decode cX9_looked 8 = .ok (.aload_n 0, 1) := by decide +kernel
theorem dX9_looked_9 : decode cX9_looked 9 = .ok (.getfield 109, 3) := by decide +kernel
theorem dX9_looked_12 : decode cX9_looked 12 = .ok (.iconst 2, 1) := by decide +kernel
theorem dX9_looked_13 : decode cX9_looked 13 = .ok (.if_icmp .ne 7, 3) := by decide +kernel
theorem dX9_looked_16 : decode cX9_looked 16 = .ok (.iconst 1, 1) := by decide +kernel
theorem dX9_looked_17 : decode cX9_looked 17 = .ok (.goto 4, 3) := by decide +kernel
theorem dX9_looked_20 : decode cX9_looked 20 = .ok (.iconst 0, 1) := by decide +kernel
theorem dX9_looked_21 : decode cX9_looked 21 = .ok (.iconst 2, 1) := by decide +kernel
theorem dX9_looked_22 : decode cX9_looked 22 = .ok (.invokevirtual 123, 3) := by decide +kernel
theorem dX9_looked_25 : decode cX9_looked 25 = .ok (.aload_n 0, 1) := by decide +kernel
theorem dX9_looked_26 : decode cX9_looked 26 = .ok (.getfield 85, 3) := by decide +kernel
theorem dX9_looked_29 : decode cX9_looked 29 = .ok (.ifCond .ne 20, 3) := by decide +kernel
theorem dX9_looked_32 : decode cX9_looked 32 = .ok (.aload_n 0, 1) := by decide +kernel
theorem dX9_looked_33 : decode cX9_looked 33 = .ok (.aload_n 0, 1) := by decide +kernel
theorem dX9_looked_34 : decode cX9_looked 34 = .ok (.getfield 120, 3) := by decide +kernel
theorem dX9_looked_37 : decode cX9_looked 37 = .ok (.i2l, 1) := by decide +kernel
theorem dX9_looked_38 : decode cX9_looked 38 = .ok (.iload_n 1, 1) := by decide +kernel
theorem dX9_looked_39 : decode cX9_looked 39 = .ok (.i2l, 1) := by decide +kernel
theorem dX9_looked_40 : decode cX9_looked 40 = .ok (.iload_n 2, 1) := by decide +kernel
theorem dX9_looked_41 : decode cX9_looked 41 = .ok (.i2l, 1) := by decide +kernel
theorem dX9_looked_42 : decode cX9_looked 42 = .ok (.invokestatic 78, 3) := by decide +kernel
theorem dX9_looked_45 : decode cX9_looked 45 = .ok (.iconst 3, 1) := by decide +kernel
theorem dX9_looked_46 : decode cX9_looked 46 = .ok (.invokevirtual 123, 3) := by decide +kernel
theorem dX9_looked_49 : decode cX9_looked 49 = .ok (.aload_n 0, 1) := by decide +kernel
theorem dX9_looked_50 : decode cX9_looked 50 = .ok (.getfield 85, 3) := by decide +kernel
theorem dX9_looked_53 : decode cX9_looked 53 = .ok (.ifCond .ne 10, 3) := by decide +kernel
theorem dX9_looked_56 : decode cX9_looked 56 = .ok (.aload_n 0, 1) := by decide +kernel
theorem dX9_looked_57 : decode cX9_looked 57 = .ok (.getfield 120, 3) := by decide +kernel
theorem dX9_looked_60 : decode cX9_looked 60 = .ok (.goto 4, 3) := by decide +kernel
theorem dX9_looked_63 : decode cX9_looked 63 = .ok (.iconst 0, 1) := by decide +kernel
theorem dX9_looked_64 : decode cX9_looked 64 = .ok (.ireturn, 1) := by decide +kernel
theorem dX9_readNumber_0 : decode cX9_readNumber 0 = .ok (.aload_n 0, 1) := by decide +kernel
theorem dX9_readNumber_1 : decode cX9_readNumber 1 = .ok (.iload_n 1, 1) := by decide +kernel
theorem dX9_readNumber_2 : decode cX9_readNumber 2 = .ok (.iload_n 2, 1) := by decide +kernel
theorem dX9_readNumber_3 : decode cX9_readNumber 3 = .ok (.invokevirtual 127, 3) := by decide +kernel
theorem dX9_readNumber_6 : decode cX9_readNumber 6 = .ok (.istore_n 3, 1) := by decide +kernel
theorem dX9_readNumber_7 : decode cX9_readNumber 7 = .ok (.aload_n 0, 1) := by decide +kernel
theorem dX9_readNumber_8 : decode cX9_readNumber 8 = .ok (.invokevirtual 131, 3) := by decide +kernel
theorem dX9_readNumber_11 : decode cX9_readNumber 11 = .ok (.iload_n 3, 1) := by decide +kernel
theorem dX9_readNumber_12 : decode cX9_readNumber 12 = .ok (.ireturn, 1) := by decide +kernel
theorem dX9_readBook_0 : decode cX9_readBook 0 = .ok (.aload_n 0, 1) := by decide +kernel
theorem dX9_readBook_1 : decode cX9_readBook 1 = .ok (.iconst 0, 1) := by decide +kernel
theorem dX9_readBook_2 : decode cX9_readBook 2 = .ok (.bipush 9, 2) := by decide +kernel
theorem dX9_readBook_4 : decode cX9_readBook 4 = .ok (.invokevirtual 127, 3) := by decide +kernel
theorem dX9_readBook_7 : decode cX9_readBook 7 = .ok (.istore_n 1, 1) := by decide +kernel
theorem dX9_readBook_8 : decode cX9_readBook 8 = .ok (.aload_n 0, 1) := by decide +kernel
theorem dX9_readBook_9 : decode cX9_readBook 9 = .ok (.iload_n 1, 1) := by decide +kernel
theorem dX9_readBook_10 : decode cX9_readBook 10 = .ok (.bipush 8, 2) := by decide +kernel
theorem dX9_readBook_12 : decode cX9_readBook 12 = .ok (.if_icmp .eq 7, 3) := by decide +kernel
theorem dX9_readBook_15 : decode cX9_readBook 15 = .ok (.iconst 1, 1) := by decide +kernel
theorem dX9_readBook_16 : decode cX9_readBook 16 = .ok (.goto 4, 3) := by decide +kernel
theorem dX9_readBook_19 : decode cX9_readBook 19 = .ok (.iconst 0, 1) := by decide +kernel
theorem dX9_readBook_20 : decode cX9_readBook 20 = .ok (.iconst 3, 1) := by decide +kernel
theorem dX9_readBook_21 : decode cX9_readBook 21 = .ok (.invokevirtual 123, 3) := by decide +kernel
theorem dX9_readBook_24 : decode cX9_readBook 24 = .ok (.aload_n 0, 1) := by decide +kernel
theorem dX9_readBook_25 : decode cX9_readBook 25 = .ok (.invokevirtual 131, 3) := by decide +kernel
theorem dX9_readBook_28 : decode cX9_readBook 28 = .ok (.aload_n 0, 1) := by decide +kernel
theorem dX9_readBook_29 : decode cX9_readBook 29 = .ok (.iload_n 1, 1) := by decide +kernel
theorem dX9_readBook_30 : decode cX9_readBook 30 = .ok (.bipush 8, 2) := by decide +kernel
theorem dX9_readBook_32 : decode cX9_readBook 32 = .ok (.if_icmp .ge 15, 3) := by decide +kernel
theorem dX9_readBook_35 : decode cX9_readBook 35 = .ok (.iload_n 1, 1) := by decide +kernel
theorem dX9_readBook_36 : decode cX9_readBook 36 = .ok (.aload_n 0, 1) := by decide +kernel
theorem dX9_readBook_37 : decode cX9_readBook 37 = .ok (.getfield 67, 3) := by decide +kernel
theorem dX9_readBook_40 : decode cX9_readBook 40 = .ok (.if_icmp .le 7, 3) := by decide +kernel
theorem dX9_readBook_43 : decode cX9_readBook 43 = .ok (.iload_n 1, 1) := by decide +kernel
theorem dX9_readBook_44 : decode cX9_readBook 44 = .ok (.goto 7, 3) := by decide +kernel
theorem dX9_readBook_47 : decode cX9_readBook 47 = .ok (.aload_n 0, 1) := by decide +kernel
theorem dX9_readBook_48 : decode cX9_readBook 48 = .ok (.getfield 67, 3) := by decide +kernel
theorem dX9_readBook_51 : decode cX9_readBook 51 = .ok (.putfield 67, 3) := by decide +kernel
theorem dX9_readBook_54 : decode cX9_readBook 54 = .ok (.iload_n 1, 1) := by decide +kernel
theorem dX9_readBook_55 : decode cX9_readBook 55 = .ok (.bipush 9, 2) := by decide +kernel
theorem dX9_readBook_57 : decode cX9_readBook 57 = .ok (.if_icmp .ne 8, 3) := by decide +kernel
theorem dX9_readBook_60 : decode cX9_readBook 60 = .ok (.bipush (-4), 2) := by decide +kernel
theorem dX9_readBook_62 : decode cX9_readBook 62 = .ok (.goto 4, 3) := by decide +kernel
theorem dX9_readBook_65 : decode cX9_readBook 65 = .ok (.iload_n 1, 1) := by decide +kernel
theorem dX9_readBook_66 : decode cX9_readBook 66 = .ok (.ireturn, 1) := by decide +kernel
theorem dX9_readLineOf_0 : decode cX9_readLineOf 0 = .ok (.iload_n 1, 1) := by decide +kernel
theorem dX9_readLineOf_1 : decode cX9_readLineOf 1 = .ok (.lookupswitch 114 #[(4, 27), (5, 97)], 27) := by decide +kernel
theorem dX9_readLineOf_28 : decode cX9_readLineOf 28 = .ok (.aload_n 0, 1) := by decide +kernel
theorem dX9_readLineOf_29 : decode cX9_readLineOf 29 = .ok (.getfield 20, 3) := by decide +kernel
theorem dX9_readLineOf_32 : decode cX9_readLineOf 32 = .ok (.iconst 3, 1) := by decide +kernel
theorem dX9_readLineOf_33 : decode cX9_readLineOf 33 = .ok (.aload_n 0, 1) := by decide +kernel
theorem dX9_readLineOf_34 : decode cX9_readLineOf 34 = .ok (.getfield 56, 3) := by decide +kernel
theorem dX9_readLineOf_37 : decode cX9_readLineOf 37 = .ok (.imul, 1) := by decide +kernel
theorem dX9_readLineOf_38 : decode cX9_readLineOf 38 = .ok (.iconst 0, 1) := by decide +kernel
theorem dX9_readLineOf_39 : decode cX9_readLineOf 39 = .ok (.iadd, 1) := by decide +kernel
theorem dX9_readLineOf_40 : decode cX9_readLineOf 40 = .ok (.aload_n 0, 1) := by decide +kernel
theorem dX9_readLineOf_41 : decode cX9_readLineOf 41 = .ok (.iconst 0, 1) := by decide +kernel
theorem dX9_readLineOf_42 : decode cX9_readLineOf 42 = .ok (.bipush 7, 2) := by decide +kernel
theorem dX9_readLineOf_44 : decode cX9_readLineOf 44 = .ok (.invokevirtual 134, 3) := by decide +kernel
theorem dX9_readLineOf_47 : decode cX9_readLineOf 47 = .ok (.iastore, 1) := by decide +kernel
theorem dX9_readLineOf_48 : decode cX9_readLineOf 48 = .ok (.aload_n 0, 1) := by decide +kernel
theorem dX9_readLineOf_49 : decode cX9_readLineOf 49 = .ok (.getfield 20, 3) := by decide +kernel
theorem dX9_readLineOf_52 : decode cX9_readLineOf 52 = .ok (.iconst 3, 1) := by decide +kernel
theorem dX9_readLineOf_53 : decode cX9_readLineOf 53 = .ok (.aload_n 0, 1) := by decide +kernel
theorem dX9_readLineOf_54 : decode cX9_readLineOf 54 = .ok (.getfield 56, 3) := by decide +kernel
theorem dX9_readLineOf_57 : decode cX9_readLineOf 57 = .ok (.imul, 1) := by decide +kernel
theorem dX9_readLineOf_58 : decode cX9_readLineOf 58 = .ok (.iconst 1, 1) := by decide +kernel
theorem dX9_readLineOf_59 : decode cX9_readLineOf 59 = .ok (.iadd, 1) := by decide +kernel
theorem dX9_readLineOf_60 : decode cX9_readLineOf 60 = .ok (.aload_n 0, 1) := by decide +kernel
theorem dX9_readLineOf_61 : decode cX9_readLineOf 61 = .ok (.iconst 0, 1) := by decide +kernel
theorem dX9_readLineOf_62 : decode cX9_readLineOf 62 = .ok (.bipush 9, 2) := by decide +kernel
theorem dX9_readLineOf_64 : decode cX9_readLineOf 64 = .ok (.invokevirtual 134, 3) := by decide +kernel
theorem dX9_readLineOf_67 : decode cX9_readLineOf 67 = .ok (.iastore, 1) := by decide +kernel
theorem dX9_readLineOf_68 : decode cX9_readLineOf 68 = .ok (.aload_n 0, 1) := by decide +kernel
theorem dX9_readLineOf_69 : decode cX9_readLineOf 69 = .ok (.getfield 20, 3) := by decide +kernel
theorem dX9_readLineOf_72 : decode cX9_readLineOf 72 = .ok (.iconst 3, 1) := by decide +kernel
theorem dX9_readLineOf_73 : decode cX9_readLineOf 73 = .ok (.aload_n 0, 1) := by decide +kernel
theorem dX9_readLineOf_74 : decode cX9_readLineOf 74 = .ok (.getfield 56, 3) := by decide +kernel
theorem dX9_readLineOf_77 : decode cX9_readLineOf 77 = .ok (.imul, 1) := by decide +kernel
theorem dX9_readLineOf_78 : decode cX9_readLineOf 78 = .ok (.iconst 2, 1) := by decide +kernel
theorem dX9_readLineOf_79 : decode cX9_readLineOf 79 = .ok (.iadd, 1) := by decide +kernel
theorem dX9_readLineOf_80 : decode cX9_readLineOf 80 = .ok (.aload_n 0, 1) := by decide +kernel
theorem dX9_readLineOf_81 : decode cX9_readLineOf 81 = .ok (.invokevirtual 137, 3) := by decide +kernel
theorem dX9_readLineOf_84 : decode cX9_readLineOf 84 = .ok (.iastore, 1) := by decide +kernel
theorem dX9_readLineOf_85 : decode cX9_readLineOf 85 = .ok (.aload_n 0, 1) := by decide +kernel
theorem dX9_readLineOf_86 : decode cX9_readLineOf 86 = .ok (.dup, 1) := by decide +kernel
theorem dX9_readLineOf_87 : decode cX9_readLineOf 87 = .ok (.getfield 56, 3) := by decide +kernel
theorem dX9_readLineOf_90 : decode cX9_readLineOf 90 = .ok (.iconst 1, 1) := by decide +kernel
theorem dX9_readLineOf_91 : decode cX9_readLineOf 91 = .ok (.iadd, 1) := by decide +kernel
theorem dX9_readLineOf_92 : decode cX9_readLineOf 92 = .ok (.putfield 56, 3) := by decide +kernel
theorem dX9_readLineOf_95 : decode cX9_readLineOf 95 = .ok (.goto 90, 3) := by decide +kernel
theorem dX9_readLineOf_98 : decode cX9_readLineOf 98 = .ok (.aload_n 0, 1) := by decide +kernel
theorem dX9_readLineOf_99 : decode cX9_readLineOf 99 = .ok (.getfield 20, 3) := by decide +kernel
theorem dX9_readLineOf_102 : decode cX9_readLineOf 102 = .ok (.bipush 40, 2) := by decide +kernel
theorem dX9_readLineOf_104 : decode cX9_readLineOf 104 = .ok (.aload_n 0, 1) := by decide +kernel
theorem dX9_readLineOf_105 : decode cX9_readLineOf 105 = .ok (.iconst 0, 1) := by decide +kernel
theorem dX9_readLineOf_106 : decode cX9_readLineOf 106 = .ok (.bipush 7, 2) := by decide +kernel
theorem dX9_readLineOf_108 : decode cX9_readLineOf 108 = .ok (.invokevirtual 134, 3) := by decide +kernel
theorem dX9_readLineOf_111 : decode cX9_readLineOf 111 = .ok (.iastore, 1) := by decide +kernel
theorem dX9_readLineOf_112 : decode cX9_readLineOf 112 = .ok (.goto 73, 3) := by decide +kernel
theorem dX9_readLineOf_115 : decode cX9_readLineOf 115 = .ok (.aload_n 0, 1) := by decide +kernel
theorem dX9_readLineOf_116 : decode cX9_readLineOf 116 = .ok (.getfield 20, 3) := by decide +kernel
theorem dX9_readLineOf_119 : decode cX9_readLineOf 119 = .ok (.bipush 24, 2) := by decide +kernel
theorem dX9_readLineOf_121 : decode cX9_readLineOf 121 = .ok (.iconst 4, 1) := by decide +kernel
theorem dX9_readLineOf_122 : decode cX9_readLineOf 122 = .ok (.aload_n 0, 1) := by decide +kernel
theorem dX9_readLineOf_123 : decode cX9_readLineOf 123 = .ok (.getfield 60, 3) := by decide +kernel
theorem dX9_readLineOf_126 : decode cX9_readLineOf 126 = .ok (.imul, 1) := by decide +kernel
theorem dX9_readLineOf_127 : decode cX9_readLineOf 127 = .ok (.iadd, 1) := by decide +kernel
theorem dX9_readLineOf_128 : decode cX9_readLineOf 128 = .ok (.iconst 0, 1) := by decide +kernel
theorem dX9_readLineOf_129 : decode cX9_readLineOf 129 = .ok (.iadd, 1) := by decide +kernel
theorem dX9_readLineOf_130 : decode cX9_readLineOf 130 = .ok (.iload_n 1, 1) := by decide +kernel
theorem dX9_readLineOf_131 : decode cX9_readLineOf 131 = .ok (.iastore, 1) := by decide +kernel
theorem dX9_readLineOf_132 : decode cX9_readLineOf 132 = .ok (.aload_n 0, 1) := by decide +kernel
theorem dX9_readLineOf_133 : decode cX9_readLineOf 133 = .ok (.getfield 20, 3) := by decide +kernel
theorem dX9_readLineOf_136 : decode cX9_readLineOf 136 = .ok (.bipush 24, 2) := by decide +kernel
theorem dX9_readLineOf_138 : decode cX9_readLineOf 138 = .ok (.iconst 4, 1) := by decide +kernel
theorem dX9_readLineOf_139 : decode cX9_readLineOf 139 = .ok (.aload_n 0, 1) := by decide +kernel
theorem dX9_readLineOf_140 : decode cX9_readLineOf 140 = .ok (.getfield 60, 3) := by decide +kernel
theorem dX9_readLineOf_143 : decode cX9_readLineOf 143 = .ok (.imul, 1) := by decide +kernel
theorem dX9_readLineOf_144 : decode cX9_readLineOf 144 = .ok (.iadd, 1) := by decide +kernel
theorem dX9_readLineOf_145 : decode cX9_readLineOf 145 = .ok (.iconst 1, 1) := by decide +kernel
theorem dX9_readLineOf_146 : decode cX9_readLineOf 146 = .ok (.iadd, 1) := by decide +kernel
theorem dX9_readLineOf_147 : decode cX9_readLineOf 147 = .ok (.aload_n 0, 1) := by decide +kernel
theorem dX9_readLineOf_148 : decode cX9_readLineOf 148 = .ok (.invokevirtual 137, 3) := by decide +kernel
theorem dX9_readLineOf_151 : decode cX9_readLineOf 151 = .ok (.iastore, 1) := by decide +kernel
theorem dX9_readLineOf_152 : decode cX9_readLineOf 152 = .ok (.aload_n 0, 1) := by decide +kernel
theorem dX9_readLineOf_153 : decode cX9_readLineOf 153 = .ok (.getfield 20, 3) := by decide +kernel
theorem dX9_readLineOf_156 : decode cX9_readLineOf 156 = .ok (.bipush 24, 2) := by decide +kernel
theorem dX9_readLineOf_158 : decode cX9_readLineOf 158 = .ok (.iconst 4, 1) := by decide +kernel
theorem dX9_readLineOf_159 : decode cX9_readLineOf 159 = .ok (.aload_n 0, 1) := by decide +kernel
theorem dX9_readLineOf_160 : decode cX9_readLineOf 160 = .ok (.getfield 60, 3) := by decide +kernel
theorem dX9_readLineOf_163 : decode cX9_readLineOf 163 = .ok (.imul, 1) := by decide +kernel
theorem dX9_readLineOf_164 : decode cX9_readLineOf 164 = .ok (.iadd, 1) := by decide +kernel
theorem dX9_readLineOf_165 : decode cX9_readLineOf 165 = .ok (.iconst 2, 1) := by decide +kernel
theorem dX9_readLineOf_166 : decode cX9_readLineOf 166 = .ok (.iadd, 1) := by decide +kernel
theorem dX9_readLineOf_167 : decode cX9_readLineOf 167 = .ok (.aload_n 0, 1) := by decide +kernel
theorem dX9_readLineOf_168 : decode cX9_readLineOf 168 = .ok (.iconst 1, 1) := by decide +kernel
theorem dX9_readLineOf_169 : decode cX9_readLineOf 169 = .ok (.bipush 99, 2) := by decide +kernel
theorem dX9_readLineOf_171 : decode cX9_readLineOf 171 = .ok (.invokevirtual 134, 3) := by decide +kernel
theorem dX9_readLineOf_174 : decode cX9_readLineOf 174 = .ok (.iastore, 1) := by decide +kernel
theorem dX9_readLineOf_175 : decode cX9_readLineOf 175 = .ok (.aload_n 0, 1) := by decide +kernel
theorem dX9_readLineOf_176 : decode cX9_readLineOf 176 = .ok (.dup, 1) := by decide +kernel
theorem dX9_readLineOf_177 : decode cX9_readLineOf 177 = .ok (.getfield 60, 3) := by decide +kernel
theorem dX9_readLineOf_180 : decode cX9_readLineOf 180 = .ok (.iconst 1, 1) := by decide +kernel
theorem dX9_readLineOf_181 : decode cX9_readLineOf 181 = .ok (.iadd, 1) := by decide +kernel
theorem dX9_readLineOf_182 : decode cX9_readLineOf 182 = .ok (.putfield 60, 3) := by decide +kernel
theorem dX9_readLineOf_185 : decode cX9_readLineOf 185 = .ok (.return_, 1) := by decide +kernel
theorem dX9_readLine_0 : decode cX9_readLine 0 = .ok (.aload_n 0, 1) := by decide +kernel
theorem dX9_readLine_1 : decode cX9_readLine 1 = .ok (.getfield 109, 3) := by decide +kernel
theorem dX9_readLine_4 : decode cX9_readLine 4 = .ok (.iconst 1, 1) := by decide +kernel
theorem dX9_readLine_5 : decode cX9_readLine 5 = .ok (.if_icmp .ne 10, 3) := by decide +kernel
theorem dX9_readLine_8 : decode cX9_readLine 8 = .ok (.aload_n 0, 1) := by decide +kernel
theorem dX9_readLine_9 : decode cX9_readLine 9 = .ok (.invokevirtual 141, 3) := by decide +kernel
theorem dX9_readLine_12 : decode cX9_readLine 12 = .ok (.goto 5, 3) := by decide +kernel
theorem dX9_readLine_15 : decode cX9_readLine 15 = .ok (.bipush (-4), 2) := by decide +kernel
theorem dX9_readLine_17 : decode cX9_readLine 17 = .ok (.istore_n 1, 1) := by decide +kernel
theorem dX9_readLine_18 : decode cX9_readLine 18 = .ok (.aload_n 0, 1) := by decide +kernel
theorem dX9_readLine_19 : decode cX9_readLine 19 = .ok (.iload_n 1, 1) := by decide +kernel
theorem dX9_readLine_20 : decode cX9_readLine 20 = .ok (.bipush (-4), 2) := by decide +kernel
theorem dX9_readLine_22 : decode cX9_readLine 22 = .ok (.if_icmp .eq 7, 3) := by decide +kernel
theorem dX9_readLine_25 : decode cX9_readLine 25 = .ok (.iconst 1, 1) := by decide +kernel
theorem dX9_readLine_26 : decode cX9_readLine 26 = .ok (.goto 4, 3) := by decide +kernel
theorem dX9_readLine_29 : decode cX9_readLine 29 = .ok (.iconst 0, 1) := by decide +kernel
theorem dX9_readLine_30 : decode cX9_readLine 30 = .ok (.iconst 2, 1) := by decide +kernel
theorem dX9_readLine_31 : decode cX9_readLine 31 = .ok (.invokevirtual 123, 3) := by decide +kernel
theorem dX9_readLine_34 : decode cX9_readLine 34 = .ok (.aload_n 0, 1) := by decide +kernel
theorem dX9_readLine_35 : decode cX9_readLine 35 = .ok (.iload_n 1, 1) := by decide +kernel
theorem dX9_readLine_36 : decode cX9_readLine 36 = .ok (.iconst 5, 1) := by decide +kernel
theorem dX9_readLine_37 : decode cX9_readLine 37 = .ok (.if_icmp .eq 28, 3) := by decide +kernel
theorem dX9_readLine_40 : decode cX9_readLine 40 = .ok (.iload_n 1, 1) := by decide +kernel
theorem dX9_readLine_41 : decode cX9_readLine 41 = .ok (.iconst 4, 1) := by decide +kernel
theorem dX9_readLine_42 : decode cX9_readLine 42 = .ok (.if_icmp .ne 15, 3) := by decide +kernel
theorem dX9_readLine_45 : decode cX9_readLine 45 = .ok (.aload_n 0, 1) := by decide +kernel
theorem dX9_readLine_46 : decode cX9_readLine 46 = .ok (.getfield 56, 3) := by decide +kernel
theorem dX9_readLine_49 : decode cX9_readLine 49 = .ok (.bipush 8, 2) := by decide +kernel
theorem dX9_readLine_51 : decode cX9_readLine 51 = .ok (.if_icmp .ge 18, 3) := by decide +kernel
theorem dX9_readLine_54 : decode cX9_readLine 54 = .ok (.goto 11, 3) := by decide +kernel
theorem dX9_readLine_57 : decode cX9_readLine 57 = .ok (.aload_n 0, 1) := by decide +kernel
theorem dX9_readLine_58 : decode cX9_readLine 58 = .ok (.getfield 60, 3) := by decide +kernel
theorem dX9_readLine_61 : decode cX9_readLine 61 = .ok (.iconst 4, 1) := by decide +kernel
theorem dX9_readLine_62 : decode cX9_readLine 62 = .ok (.if_icmp .ge 7, 3) := by decide +kernel
theorem dX9_readLine_65 : decode cX9_readLine 65 = .ok (.iconst 1, 1) := by decide +kernel
theorem dX9_readLine_66 : decode cX9_readLine 66 = .ok (.goto 4, 3) := by decide +kernel
theorem dX9_readLine_69 : decode cX9_readLine 69 = .ok (.iconst 0, 1) := by decide +kernel
theorem dX9_readLine_70 : decode cX9_readLine 70 = .ok (.iconst 5, 1) := by decide +kernel
theorem dX9_readLine_71 : decode cX9_readLine 71 = .ok (.invokevirtual 123, 3) := by decide +kernel
theorem dX9_readLine_74 : decode cX9_readLine 74 = .ok (.aload_n 0, 1) := by decide +kernel
theorem dX9_readLine_75 : decode cX9_readLine 75 = .ok (.iload_n 1, 1) := by decide +kernel
theorem dX9_readLine_76 : decode cX9_readLine 76 = .ok (.iconst 5, 1) := by decide +kernel
theorem dX9_readLine_77 : decode cX9_readLine 77 = .ok (.if_icmp .ne 10, 3) := by decide +kernel
theorem dX9_readLine_80 : decode cX9_readLine 80 = .ok (.aload_n 0, 1) := by decide +kernel
theorem dX9_readLine_81 : decode cX9_readLine 81 = .ok (.getfield 63, 3) := by decide +kernel
theorem dX9_readLine_84 : decode cX9_readLine 84 = .ok (.ifCond .ne 7, 3) := by decide +kernel
theorem dX9_readLine_87 : decode cX9_readLine 87 = .ok (.iconst 1, 1) := by decide +kernel
theorem dX9_readLine_88 : decode cX9_readLine 88 = .ok (.goto 4, 3) := by decide +kernel
theorem dX9_readLine_91 : decode cX9_readLine 91 = .ok (.iconst 0, 1) := by decide +kernel
theorem dX9_readLine_92 : decode cX9_readLine 92 = .ok (.iconst 4, 1) := by decide +kernel
theorem dX9_readLine_93 : decode cX9_readLine 93 = .ok (.invokevirtual 123, 3) := by decide +kernel
theorem dX9_readLine_96 : decode cX9_readLine 96 = .ok (.aload_n 0, 1) := by decide +kernel
theorem dX9_readLine_97 : decode cX9_readLine 97 = .ok (.aload_n 0, 1) := by decide +kernel
theorem dX9_readLine_98 : decode cX9_readLine 98 = .ok (.getfield 63, 3) := by decide +kernel
theorem dX9_readLine_101 : decode cX9_readLine 101 = .ok (.ifCond .ne 8, 3) := by decide +kernel
theorem dX9_readLine_104 : decode cX9_readLine 104 = .ok (.iload_n 1, 1) := by decide +kernel
theorem dX9_readLine_105 : decode cX9_readLine 105 = .ok (.iconst 5, 1) := by decide +kernel
theorem dX9_readLine_106 : decode cX9_readLine 106 = .ok (.if_icmp .ne 7, 3) := by decide +kernel
theorem dX9_readLine_109 : decode cX9_readLine 109 = .ok (.iconst 1, 1) := by decide +kernel
theorem dX9_readLine_110 : decode cX9_readLine 110 = .ok (.goto 4, 3) := by decide +kernel
theorem dX9_readLine_113 : decode cX9_readLine 113 = .ok (.iconst 0, 1) := by decide +kernel
theorem dX9_readLine_114 : decode cX9_readLine 114 = .ok (.putfield 63, 3) := by decide +kernel
theorem dX9_readLine_117 : decode cX9_readLine 117 = .ok (.aload_n 0, 1) := by decide +kernel
theorem dX9_readLine_118 : decode cX9_readLine 118 = .ok (.invokevirtual 131, 3) := by decide +kernel
theorem dX9_readLine_121 : decode cX9_readLine 121 = .ok (.aload_n 0, 1) := by decide +kernel
theorem dX9_readLine_122 : decode cX9_readLine 122 = .ok (.getfield 85, 3) := by decide +kernel
theorem dX9_readLine_125 : decode cX9_readLine 125 = .ok (.ifCond .le 4, 3) := by decide +kernel
theorem dX9_readLine_128 : decode cX9_readLine 128 = .ok (.return_, 1) := by decide +kernel
theorem dX9_readLine_129 : decode cX9_readLine 129 = .ok (.aload_n 0, 1) := by decide +kernel
theorem dX9_readLine_130 : decode cX9_readLine 130 = .ok (.iload_n 1, 1) := by decide +kernel
theorem dX9_readLine_131 : decode cX9_readLine 131 = .ok (.invokevirtual 144, 3) := by decide +kernel
theorem dX9_readLine_134 : decode cX9_readLine 134 = .ok (.aload_n 0, 1) := by decide +kernel
theorem dX9_readLine_135 : decode cX9_readLine 135 = .ok (.getfield 85, 3) := by decide +kernel
theorem dX9_readLine_138 : decode cX9_readLine 138 = .ok (.ifCond .ne 21, 3) := by decide +kernel
theorem dX9_readLine_141 : decode cX9_readLine 141 = .ok (.aload_n 0, 1) := by decide +kernel
theorem dX9_readLine_142 : decode cX9_readLine 142 = .ok (.aload_n 0, 1) := by decide +kernel
theorem dX9_readLine_143 : decode cX9_readLine 143 = .ok (.getfield 109, 3) := by decide +kernel
theorem dX9_readLine_146 : decode cX9_readLine 146 = .ok (.iconst 3, 1) := by decide +kernel
theorem dX9_readLine_147 : decode cX9_readLine 147 = .ok (.if_icmp .ne 7, 3) := by decide +kernel
theorem dX9_readLine_150 : decode cX9_readLine 150 = .ok (.iconst 1, 1) := by decide +kernel
theorem dX9_readLine_151 : decode cX9_readLine 151 = .ok (.goto 4, 3) := by decide +kernel
theorem dX9_readLine_154 : decode cX9_readLine 154 = .ok (.iconst 0, 1) := by decide +kernel
theorem dX9_readLine_155 : decode cX9_readLine 155 = .ok (.iconst 2, 1) := by decide +kernel
theorem dX9_readLine_156 : decode cX9_readLine 156 = .ok (.invokevirtual 123, 3) := by decide +kernel
theorem dX9_readLine_159 : decode cX9_readLine 159 = .ok (.aload_n 0, 1) := by decide +kernel
theorem dX9_readLine_160 : decode cX9_readLine 160 = .ok (.invokevirtual 131, 3) := by decide +kernel
theorem dX9_readLine_163 : decode cX9_readLine 163 = .ok (.return_, 1) := by decide +kernel
theorem dX9_text_0 : decode cX9_text 0 = .ok (.iconst 0, 1) := by decide +kernel
theorem dX9_text_1 : decode cX9_text 1 = .ok (.istore_n 1, 1) := by decide +kernel
theorem dX9_text_2 : decode cX9_text 2 = .ok (.aload_n 0, 1) := by decide +kernel
theorem dX9_text_3 : decode cX9_text 3 = .ok (.iconst 0, 1) := by decide +kernel
theorem dX9_text_4 : decode cX9_text 4 = .ok (.putfield 85, 3) := by decide +kernel
theorem dX9_text_7 : decode cX9_text 7 = .ok (.aload_n 0, 1) := by decide +kernel
theorem dX9_text_8 : decode cX9_text 8 = .ok (.iconst 0, 1) := by decide +kernel
theorem dX9_text_9 : decode cX9_text 9 = .ok (.putfield 94, 3) := by decide +kernel
theorem dX9_text_12 : decode cX9_text 12 = .ok (.aload_n 0, 1) := by decide +kernel
theorem dX9_text_13 : decode cX9_text 13 = .ok (.invokevirtual 50, 3) := by decide +kernel
theorem dX9_text_16 : decode cX9_text 16 = .ok (.aload_n 0, 1) := by decide +kernel
theorem dX9_text_17 : decode cX9_text 17 = .ok (.invokevirtual 131, 3) := by decide +kernel
theorem dX9_text_20 : decode cX9_text 20 = .ok (.aload_n 0, 1) := by decide +kernel
theorem dX9_text_21 : decode cX9_text 21 = .ok (.getfield 85, 3) := by decide +kernel
theorem dX9_text_24 : decode cX9_text 24 = .ok (.ifCond .ne 20, 3) := by decide +kernel
theorem dX9_text_27 : decode cX9_text 27 = .ok (.aload_n 0, 1) := by decide +kernel
theorem dX9_text_28 : decode cX9_text 28 = .ok (.getfield 109, 3) := by decide +kernel
theorem dX9_text_31 : decode cX9_text 31 = .ok (.ifCond .eq 13, 3) := by decide +kernel
theorem dX9_text_34 : decode cX9_text 34 = .ok (.aload_n 0, 1) := by decide +kernel
theorem dX9_text_35 : decode cX9_text 35 = .ok (.invokevirtual 148, 3) := by decide +kernel
theorem dX9_text_38 : decode cX9_text 38 = .ok (.iinc 1 1, 3) := by decide +kernel
theorem dX9_text_41 : decode cX9_text 41 = .ok (.goto (-21), 3) := by decide +kernel
theorem dX9_text_44 : decode cX9_text 44 = .ok (.aload_n 0, 1) := by decide +kernel
theorem dX9_text_45 : decode cX9_text 45 = .ok (.getfield 85, 3) := by decide +kernel
theorem dX9_text_48 : decode cX9_text 48 = .ok (.ifCond .ne 25, 3) := by decide +kernel
theorem dX9_text_51 : decode cX9_text 51 = .ok (.aload_n 0, 1) := by decide +kernel
theorem dX9_text_52 : decode cX9_text 52 = .ok (.aload_n 0, 1) := by decide +kernel
theorem dX9_text_53 : decode cX9_text 53 = .ok (.getfield 67, 3) := by decide +kernel
theorem dX9_text_56 : decode cX9_text 56 = .ok (.aload_n 0, 1) := by decide +kernel
theorem dX9_text_57 : decode cX9_text 57 = .ok (.getfield 56, 3) := by decide +kernel
theorem dX9_text_60 : decode cX9_text 60 = .ok (.if_icmp .ge 7, 3) := by decide +kernel
theorem dX9_text_63 : decode cX9_text 63 = .ok (.iconst 1, 1) := by decide +kernel
theorem dX9_text_64 : decode cX9_text 64 = .ok (.goto 4, 3) := by decide +kernel
theorem dX9_text_67 : decode cX9_text 67 = .ok (.iconst 0, 1) := by decide +kernel
theorem dX9_text_68 : decode cX9_text 68 = .ok (.bipush 6, 2) := by decide +kernel
theorem dX9_text_70 : decode cX9_text 70 = .ok (.invokevirtual 123, 3) := by decide +kernel
theorem dX9_text_73 : decode cX9_text 73 = .ok (.aload_n 0, 1) := by decide +kernel
theorem dX9_text_74 : decode cX9_text 74 = .ok (.iconst 0, 1) := by decide +kernel
theorem dX9_text_75 : decode cX9_text 75 = .ok (.putfield 82, 3) := by decide +kernel
theorem dX9_text_78 : decode cX9_text 78 = .ok (.aload_n 0, 1) := by decide +kernel
theorem dX9_text_79 : decode cX9_text 79 = .ok (.getfield 85, 3) := by decide +kernel
theorem dX9_text_82 : decode cX9_text 82 = .ok (.ifCond .le 11, 3) := by decide +kernel
theorem dX9_text_85 : decode cX9_text 85 = .ok (.bipush (-10), 2) := by decide +kernel
theorem dX9_text_87 : decode cX9_text 87 = .ok (.aload_n 0, 1) := by decide +kernel
theorem dX9_text_88 : decode cX9_text 88 = .ok (.getfield 91, 3) := by decide +kernel
theorem dX9_text_91 : decode cX9_text 91 = .ok (.isub, 1) := by decide +kernel
theorem dX9_text_92 : decode cX9_text 92 = .ok (.ireturn, 1) := by decide +kernel
theorem dX9_text_93 : decode cX9_text 93 = .ok (.aload_n 0, 1) := by decide +kernel
theorem dX9_text_94 : decode cX9_text 94 = .ok (.invokevirtual 53, 3) := by decide +kernel
theorem dX9_text_97 : decode cX9_text 97 = .ok (.iload_n 1, 1) := by decide +kernel
theorem dX9_text_98 : decode cX9_text 98 = .ok (.ireturn, 1) := by decide +kernel
theorem dX9_fault_0 : decode cX9_fault 0 = .ok (.aload_n 0, 1) := by decide +kernel
theorem dX9_fault_1 : decode cX9_fault 1 = .ok (.getfield 85, 3) := by decide +kernel
theorem dX9_fault_4 : decode cX9_fault 4 = .ok (.ireturn, 1) := by decide +kernel
theorem dX9_isBook_0 : decode cX9_isBook 0 = .ok (.iload_n 1, 1) := by decide +kernel
theorem dX9_isBook_1 : decode cX9_isBook 1 = .ok (.i2l, 1) := by decide +kernel
theorem dX9_isBook_2 : decode cX9_isBook 2 = .ok (.lconst 0, 1) := by decide +kernel
theorem dX9_isBook_3 : decode cX9_isBook 3 = .ok (.aload_n 0, 1) := by decide +kernel
theorem dX9_isBook_4 : decode cX9_isBook 4 = .ok (.getfield 70, 3) := by decide +kernel
theorem dX9_isBook_7 : decode cX9_isBook 7 = .ok (.iconst 1, 1) := by decide +kernel
theorem dX9_isBook_8 : decode cX9_isBook 8 = .ok (.isub, 1) := by decide +kernel
theorem dX9_isBook_9 : decode cX9_isBook 9 = .ok (.i2l, 1) := by decide +kernel
theorem dX9_isBook_10 : decode cX9_isBook 10 = .ok (.invokestatic 78, 3) := by decide +kernel
theorem dX9_isBook_13 : decode cX9_isBook 13 = .ok (.ireturn, 1) := by decide +kernel
theorem dX9_isReader_0 : decode cX9_isReader 0 = .ok (.iload_n 1, 1) := by decide +kernel
theorem dX9_isReader_1 : decode cX9_isReader 1 = .ok (.i2l, 1) := by decide +kernel
theorem dX9_isReader_2 : decode cX9_isReader 2 = .ok (.lconst 0, 1) := by decide +kernel
theorem dX9_isReader_3 : decode cX9_isReader 3 = .ok (.aload_n 0, 1) := by decide +kernel
theorem dX9_isReader_4 : decode cX9_isReader 4 = .ok (.getfield 73, 3) := by decide +kernel
theorem dX9_isReader_7 : decode cX9_isReader 7 = .ok (.iconst 1, 1) := by decide +kernel
theorem dX9_isReader_8 : decode cX9_isReader 8 = .ok (.isub, 1) := by decide +kernel
theorem dX9_isReader_9 : decode cX9_isReader 9 = .ok (.i2l, 1) := by decide +kernel
theorem dX9_isReader_10 : decode cX9_isReader 10 = .ok (.invokestatic 78, 3) := by decide +kernel
theorem dX9_isReader_13 : decode cX9_isReader 13 = .ok (.ireturn, 1) := by decide +kernel
theorem dX9_isBay_0 : decode cX9_isBay 0 = .ok (.iload_n 0, 1) := by decide +kernel
theorem dX9_isBay_1 : decode cX9_isBay 1 = .ok (.i2l, 1) := by decide +kernel
theorem dX9_isBay_2 : decode cX9_isBay 2 = .ok (.lconst 0, 1) := by decide +kernel
theorem dX9_isBay_3 : decode cX9_isBay 3 = .ok (.ldc2_w 151, 3) := by decide +kernel
theorem dX9_isBay_6 : decode cX9_isBay 6 = .ok (.invokestatic 78, 3) := by decide +kernel
theorem dX9_isBay_9 : decode cX9_isBay 9 = .ok (.ireturn, 1) := by decide +kernel
theorem dX9_isPart_0 : decode cX9_isPart 0 = .ok (.iload_n 0, 1) := by decide +kernel
theorem dX9_isPart_1 : decode cX9_isPart 1 = .ok (.i2l, 1) := by decide +kernel
theorem dX9_isPart_2 : decode cX9_isPart 2 = .ok (.lconst 0, 1) := by decide +kernel
theorem dX9_isPart_3 : decode cX9_isPart 3 = .ok (.lconst 1, 1) := by decide +kernel
theorem dX9_isPart_4 : decode cX9_isPart 4 = .ok (.invokestatic 78, 3) := by decide +kernel
theorem dX9_isPart_7 : decode cX9_isPart 7 = .ok (.ireturn, 1) := by decide +kernel
theorem dX9_starts_0 : decode cX9_starts 0 = .ok (.iconst 0, 1) := by decide +kernel
theorem dX9_starts_1 : decode cX9_starts 1 = .ok (.istore_n 1, 1) := by decide +kernel
theorem dX9_starts_2 : decode cX9_starts 2 = .ok (.iload_n 1, 1) := by decide +kernel
theorem dX9_starts_3 : decode cX9_starts 3 = .ok (.bipush 62, 2) := by decide +kernel
theorem dX9_starts_5 : decode cX9_starts 5 = .ok (.if_icmp .ge 21, 3) := by decide +kernel
theorem dX9_starts_8 : decode cX9_starts 8 = .ok (.aload_n 0, 1) := by decide +kernel
theorem dX9_starts_9 : decode cX9_starts 9 = .ok (.getfield 13, 3) := by decide +kernel
theorem dX9_starts_12 : decode cX9_starts 12 = .ok (.iload_n 1, 1) := by decide +kernel
theorem dX9_starts_13 : decode cX9_starts 13 = .ok (.aload_n 0, 1) := by decide +kernel
theorem dX9_starts_14 : decode cX9_starts 14 = .ok (.getfield 7, 3) := by decide +kernel
theorem dX9_starts_17 : decode cX9_starts 17 = .ok (.iload_n 1, 1) := by decide +kernel
theorem dX9_starts_18 : decode cX9_starts 18 = .ok (.iaload, 1) := by decide +kernel
theorem dX9_starts_19 : decode cX9_starts 19 = .ok (.iastore, 1) := by decide +kernel
theorem dX9_starts_20 : decode cX9_starts 20 = .ok (.iinc 1 1, 3) := by decide +kernel
theorem dX9_starts_23 : decode cX9_starts 23 = .ok (.goto (-21), 3) := by decide +kernel
theorem dX9_starts_26 : decode cX9_starts 26 = .ok (.return_, 1) := by decide +kernel
theorem dX9_settles_0 : decode cX9_settles 0 = .ok (.iconst 0, 1) := by decide +kernel
theorem dX9_settles_1 : decode cX9_settles 1 = .ok (.istore_n 1, 1) := by decide +kernel
theorem dX9_settles_2 : decode cX9_settles 2 = .ok (.iload_n 1, 1) := by decide +kernel
theorem dX9_settles_3 : decode cX9_settles 3 = .ok (.bipush 62, 2) := by decide +kernel
theorem dX9_settles_5 : decode cX9_settles 5 = .ok (.if_icmp .ge 21, 3) := by decide +kernel
theorem dX9_settles_8 : decode cX9_settles 8 = .ok (.aload_n 0, 1) := by decide +kernel
theorem dX9_settles_9 : decode cX9_settles 9 = .ok (.getfield 7, 3) := by decide +kernel
theorem dX9_settles_12 : decode cX9_settles 12 = .ok (.iload_n 1, 1) := by decide +kernel
theorem dX9_settles_13 : decode cX9_settles 13 = .ok (.aload_n 0, 1) := by decide +kernel
theorem dX9_settles_14 : decode cX9_settles 14 = .ok (.getfield 13, 3) := by decide +kernel
theorem dX9_settles_17 : decode cX9_settles 17 = .ok (.iload_n 1, 1) := by decide +kernel
theorem dX9_settles_18 : decode cX9_settles 18 = .ok (.iaload, 1) := by decide +kernel
theorem dX9_settles_19 : decode cX9_settles 19 = .ok (.iastore, 1) := by decide +kernel
theorem dX9_settles_20 : decode cX9_settles 20 = .ok (.iinc 1 1, 3) := by decide +kernel
theorem dX9_settles_23 : decode cX9_settles 23 = .ok (.goto (-21), 3) := by decide +kernel
theorem dX9_settles_26 : decode cX9_settles 26 = .ok (.return_, 1) := by decide +kernel
theorem dX9_of_0 : decode cX9_of 0 = .ok (.aload_n 0, 1) := by decide +kernel
theorem dX9_of_1 : decode cX9_of 1 = .ok (.getfield 13, 3) := by decide +kernel
theorem dX9_of_4 : decode cX9_of 4 = .ok (.iconst 3, 1) := by decide +kernel
theorem dX9_of_5 : decode cX9_of 5 = .ok (.iload_n 1, 1) := by decide +kernel
theorem dX9_of_6 : decode cX9_of 6 = .ok (.imul, 1) := by decide +kernel
theorem dX9_of_7 : decode cX9_of 7 = .ok (.iload_n 2, 1) := by decide +kernel
theorem dX9_of_8 : decode cX9_of 8 = .ok (.iadd, 1) := by decide +kernel
theorem dX9_of_9 : decode cX9_of 9 = .ok (.iaload, 1) := by decide +kernel
theorem dX9_of_10 : decode cX9_of 10 = .ok (.ireturn, 1) := by decide +kernel
theorem dX9_ofReader_0 : decode cX9_ofReader 0 = .ok (.aload_n 0, 1) := by decide +kernel
theorem dX9_ofReader_1 : decode cX9_ofReader 1 = .ok (.getfield 13, 3) := by decide +kernel
theorem dX9_ofReader_4 : decode cX9_ofReader 4 = .ok (.bipush 24, 2) := by decide +kernel
theorem dX9_ofReader_6 : decode cX9_ofReader 6 = .ok (.iconst 4, 1) := by decide +kernel
theorem dX9_ofReader_7 : decode cX9_ofReader 7 = .ok (.iload_n 1, 1) := by decide +kernel
theorem dX9_ofReader_8 : decode cX9_ofReader 8 = .ok (.imul, 1) := by decide +kernel
theorem dX9_ofReader_9 : decode cX9_ofReader 9 = .ok (.iadd, 1) := by decide +kernel
theorem dX9_ofReader_10 : decode cX9_ofReader 10 = .ok (.iload_n 2, 1) := by decide +kernel
theorem dX9_ofReader_11 : decode cX9_ofReader 11 = .ok (.iadd, 1) := by decide +kernel
theorem dX9_ofReader_12 : decode cX9_ofReader 12 = .ok (.iaload, 1) := by decide +kernel
theorem dX9_ofReader_13 : decode cX9_ofReader 13 = .ok (.ireturn, 1) := by decide +kernel
theorem dX9_becomesOf_0 : decode cX9_becomesOf 0 = .ok (.aload_n 0, 1) := by decide +kernel
theorem dX9_becomesOf_1 : decode cX9_becomesOf 1 = .ok (.getfield 13, 3) := by decide +kernel
theorem dX9_becomesOf_4 : decode cX9_becomesOf 4 = .ok (.bipush 24, 2) := by decide +kernel
theorem dX9_becomesOf_6 : decode cX9_becomesOf 6 = .ok (.iconst 4, 1) := by decide +kernel
theorem dX9_becomesOf_7 : decode cX9_becomesOf 7 = .ok (.iload_n 1, 1) := by decide +kernel
theorem dX9_becomesOf_8 : decode cX9_becomesOf 8 = .ok (.imul, 1) := by decide +kernel
theorem dX9_becomesOf_9 : decode cX9_becomesOf 9 = .ok (.iadd, 1) := by decide +kernel
theorem dX9_becomesOf_10 : decode cX9_becomesOf 10 = .ok (.iload_n 2, 1) := by decide +kernel
theorem dX9_becomesOf_11 : decode cX9_becomesOf 11 = .ok (.iadd, 1) := by decide +kernel
theorem dX9_becomesOf_12 : decode cX9_becomesOf 12 = .ok (.iload_n 3, 1) := by decide +kernel
theorem dX9_becomesOf_13 : decode cX9_becomesOf 13 = .ok (.iastore, 1) := by decide +kernel
theorem dX9_becomesOf_14 : decode cX9_becomesOf 14 = .ok (.return_, 1) := by decide +kernel
theorem dX9_had_0 : decode cX9_had 0 = .ok (.aload_n 0, 1) := by decide +kernel
theorem dX9_had_1 : decode cX9_had 1 = .ok (.iload_n 1, 1) := by decide +kernel
theorem dX9_had_2 : decode cX9_had 2 = .ok (.iconst 3, 1) := by decide +kernel
theorem dX9_had_3 : decode cX9_had 3 = .ok (.invokevirtual 153, 3) := by decide +kernel
theorem dX9_had_6 : decode cX9_had 6 = .ok (.iload_n 2, 1) := by decide +kernel
theorem dX9_had_7 : decode cX9_had 7 = .ok (.ishr, 1) := by decide +kernel
theorem dX9_had_8 : decode cX9_had 8 = .ok (.iconst 1, 1) := by decide +kernel
theorem dX9_had_9 : decode cX9_had 9 = .ok (.iand, 1) := by decide +kernel
theorem dX9_had_10 : decode cX9_had 10 = .ok (.iconst 1, 1) := by decide +kernel
theorem dX9_had_11 : decode cX9_had 11 = .ok (.if_icmp .ne 7, 3) := by decide +kernel
theorem dX9_had_14 : decode cX9_had 14 = .ok (.iconst 1, 1) := by decide +kernel
theorem dX9_had_15 : decode cX9_had 15 = .ok (.goto 4, 3) := by decide +kernel
theorem dX9_had_18 : decode cX9_had 18 = .ok (.iconst 0, 1) := by decide +kernel
theorem dX9_had_19 : decode cX9_had 19 = .ok (.ireturn, 1) := by decide +kernel
theorem dX9_climb_0 : decode cX9_climb 0 = .ok (.iload_n 0, 1) := by decide +kernel
theorem dX9_climb_1 : decode cX9_climb 1 = .ok (.tableswitch 45 1 3 #[27, 31, 37], 27) := by decide +kernel
theorem dX9_climb_28 : decode cX9_climb 28 = .ok (.iconst 2, 1) := by decide +kernel
theorem dX9_climb_29 : decode cX9_climb 29 = .ok (.iload_n 1, 1) := by decide +kernel
theorem dX9_climb_30 : decode cX9_climb 30 = .ok (.imul, 1) := by decide +kernel
theorem dX9_climb_31 : decode cX9_climb 31 = .ok (.ireturn, 1) := by decide +kernel
theorem dX9_climb_32 : decode cX9_climb 32 = .ok (.iload_n 1, 1) := by decide +kernel
theorem dX9_climb_33 : decode cX9_climb 33 = .ok (.iconst 1, 1) := by decide +kernel
theorem dX9_climb_34 : decode cX9_climb 34 = .ok (.iadd, 1) := by decide +kernel
theorem dX9_climb_35 : decode cX9_climb 35 = .ok (.iconst 2, 1) := by decide +kernel
theorem dX9_climb_36 : decode cX9_climb 36 = .ok (.idiv, 1) := by decide +kernel
theorem dX9_climb_37 : decode cX9_climb 37 = .ok (.ireturn, 1) := by decide +kernel
theorem dX9_climb_38 : decode cX9_climb 38 = .ok (.iconst 2, 1) := by decide +kernel
theorem dX9_climb_39 : decode cX9_climb 39 = .ok (.iload_n 1, 1) := by decide +kernel
theorem dX9_climb_40 : decode cX9_climb 40 = .ok (.imul, 1) := by decide +kernel
theorem dX9_climb_41 : decode cX9_climb 41 = .ok (.iconst 2, 1) := by decide +kernel
theorem dX9_climb_42 : decode cX9_climb 42 = .ok (.idiv, 1) := by decide +kernel
theorem dX9_climb_43 : decode cX9_climb 43 = .ok (.iconst 1, 1) := by decide +kernel
theorem dX9_climb_44 : decode cX9_climb 44 = .ok (.iadd, 1) := by decide +kernel
theorem dX9_climb_45 : decode cX9_climb 45 = .ok (.ireturn, 1) := by decide +kernel
theorem dX9_climb_46 : decode cX9_climb 46 = .ok (.iload_n 1, 1) := by decide +kernel
theorem dX9_climb_47 : decode cX9_climb 47 = .ok (.ireturn, 1) := by decide +kernel
theorem dX9_dizziness_0 : decode cX9_dizziness 0 = .ok (.iload_n 1, 1) := by decide +kernel
theorem dX9_dizziness_1 : decode cX9_dizziness 1 = .ok (.iconst 5, 1) := by decide +kernel
theorem dX9_dizziness_2 : decode cX9_dizziness 2 = .ok (.if_icmp .le 11, 3) := by decide +kernel
theorem dX9_dizziness_5 : decode cX9_dizziness 5 = .ok (.iconst 2, 1) := by decide +kernel
theorem dX9_dizziness_6 : decode cX9_dizziness 6 = .ok (.iload_n 1, 1) := by decide +kernel
theorem dX9_dizziness_7 : decode cX9_dizziness 7 = .ok (.imul, 1) := by decide +kernel
theorem dX9_dizziness_8 : decode cX9_dizziness 8 = .ok (.iconst 5, 1) := by decide +kernel
theorem dX9_dizziness_9 : decode cX9_dizziness 9 = .ok (.isub, 1) := by decide +kernel
theorem dX9_dizziness_10 : decode cX9_dizziness 10 = .ok (.goto 4, 3) := by decide +kernel
theorem dX9_dizziness_13 : decode cX9_dizziness 13 = .ok (.iload_n 1, 1) := by decide +kernel
theorem dX9_dizziness_14 : decode cX9_dizziness 14 = .ok (.istore_n 2, 1) := by decide +kernel
theorem dX9_dizziness_15 : decode cX9_dizziness 15 = .ok (.iload_n 0, 1) := by decide +kernel
theorem dX9_dizziness_16 : decode cX9_dizziness 16 = .ok (.tableswitch 38 1 3 #[28, 30, 34], 28) := by decide +kernel
theorem dX9_dizziness_44 : decode cX9_dizziness 44 = .ok (.iload_n 2, 1) := by decide +kernel
theorem dX9_dizziness_45 : decode cX9_dizziness 45 = .ok (.ireturn, 1) := by decide +kernel
theorem dX9_dizziness_46 : decode cX9_dizziness 46 = .ok (.iconst 2, 1) := by decide +kernel
theorem dX9_dizziness_47 : decode cX9_dizziness 47 = .ok (.iload_n 1, 1) := by decide +kernel
theorem dX9_dizziness_48 : decode cX9_dizziness 48 = .ok (.imul, 1) := by decide +kernel
theorem dX9_dizziness_49 : decode cX9_dizziness 49 = .ok (.ireturn, 1) := by decide +kernel
theorem dX9_dizziness_50 : decode cX9_dizziness 50 = .ok (.iload_n 2, 1) := by decide +kernel
theorem dX9_dizziness_51 : decode cX9_dizziness 51 = .ok (.iconst 3, 1) := by decide +kernel
theorem dX9_dizziness_52 : decode cX9_dizziness 52 = .ok (.idiv, 1) := by decide +kernel
theorem dX9_dizziness_53 : decode cX9_dizziness 53 = .ok (.ireturn, 1) := by decide +kernel
theorem dX9_dizziness_54 : decode cX9_dizziness 54 = .ok (.iload_n 1, 1) := by decide +kernel
theorem dX9_dizziness_55 : decode cX9_dizziness 55 = .ok (.ireturn, 1) := by decide +kernel
theorem dX9_minutesOf_0 : decode cX9_minutesOf 0 = .ok (.aload_n 0, 1) := by decide +kernel
theorem dX9_minutesOf_1 : decode cX9_minutesOf 1 = .ok (.iload_n 2, 1) := by decide +kernel
theorem dX9_minutesOf_2 : decode cX9_minutesOf 2 = .ok (.iconst 0, 1) := by decide +kernel
theorem dX9_minutesOf_3 : decode cX9_minutesOf 3 = .ok (.invokevirtual 156, 3) := by decide +kernel
theorem dX9_minutesOf_6 : decode cX9_minutesOf 6 = .ok (.aload_n 0, 1) := by decide +kernel
theorem dX9_minutesOf_7 : decode cX9_minutesOf 7 = .ok (.getfield 13, 3) := by decide +kernel
theorem dX9_minutesOf_10 : decode cX9_minutesOf 10 = .ok (.bipush 40, 2) := by decide +kernel
theorem dX9_minutesOf_12 : decode cX9_minutesOf 12 = .ok (.iaload, 1) := by decide +kernel
theorem dX9_minutesOf_13 : decode cX9_minutesOf 13 = .ok (.isub, 1) := by decide +kernel
theorem dX9_minutesOf_14 : decode cX9_minutesOf 14 = .ok (.istore_n 3, 1) := by decide +kernel
theorem dX9_minutesOf_15 : decode cX9_minutesOf 15 = .ok (.iload_n 3, 1) := by decide +kernel
theorem dX9_minutesOf_16 : decode cX9_minutesOf 16 = .ok (.ifCond .ge 8, 3) := by decide +kernel
theorem dX9_minutesOf_19 : decode cX9_minutesOf 19 = .ok (.iload_n 3, 1) := by decide +kernel
theorem dX9_minutesOf_20 : decode cX9_minutesOf 20 = .ok (.ineg, 1) := by decide +kernel
theorem dX9_minutesOf_21 : decode cX9_minutesOf 21 = .ok (.goto 4, 3) := by decide +kernel
theorem dX9_minutesOf_24 : decode cX9_minutesOf 24 = .ok (.iload_n 3, 1) := by decide +kernel
theorem dX9_minutesOf_25 : decode cX9_minutesOf 25 = .ok (.iconst 2, 1) := by decide +kernel
theorem dX9_minutesOf_26 : decode cX9_minutesOf 26 = .ok (.aload_n 0, 1) := by decide +kernel
theorem dX9_minutesOf_27 : decode cX9_minutesOf 27 = .ok (.iload_n 1, 1) := by decide +kernel
theorem dX9_minutesOf_28 : decode cX9_minutesOf 28 = .ok (.iconst 0, 1) := by decide +kernel
theorem dX9_minutesOf_29 : decode cX9_minutesOf 29 = .ok (.invokevirtual 153, 3) := by decide +kernel
theorem dX9_minutesOf_32 : decode cX9_minutesOf 32 = .ok (.aload_n 0, 1) := by decide +kernel
theorem dX9_minutesOf_33 : decode cX9_minutesOf 33 = .ok (.iload_n 2, 1) := by decide +kernel
theorem dX9_minutesOf_34 : decode cX9_minutesOf 34 = .ok (.iconst 1, 1) := by decide +kernel
theorem dX9_minutesOf_35 : decode cX9_minutesOf 35 = .ok (.invokevirtual 156, 3) := by decide +kernel
theorem dX9_minutesOf_38 : decode cX9_minutesOf 38 = .ok (.invokestatic 159, 3) := by decide +kernel
theorem dX9_minutesOf_41 : decode cX9_minutesOf 41 = .ok (.imul, 1) := by decide +kernel
theorem dX9_minutesOf_42 : decode cX9_minutesOf 42 = .ok (.iadd, 1) := by decide +kernel
theorem dX9_minutesOf_43 : decode cX9_minutesOf 43 = .ok (.ireturn, 1) := by decide +kernel
theorem dX9_startsCounting_0 : decode cX9_startsCounting 0 = .ok (.aload_n 0, 1) := by decide +kernel
theorem dX9_startsCounting_1 : decode cX9_startsCounting 1 = .ok (.iconst 0, 1) := by decide +kernel
theorem dX9_startsCounting_2 : decode cX9_startsCounting 2 = .ok (.putfield 162, 3) := by decide +kernel
theorem dX9_startsCounting_5 : decode cX9_startsCounting 5 = .ok (.aload_n 0, 1) := by decide +kernel
theorem dX9_startsCounting_6 : decode cX9_startsCounting 6 = .ok (.iconst 0, 1) := by decide +kernel
theorem dX9_startsCounting_7 : decode cX9_startsCounting 7 = .ok (.putfield 165, 3) := by decide +kernel
theorem dX9_startsCounting_10 : decode cX9_startsCounting 10 = .ok (.aload_n 0, 1) := by decide +kernel
theorem dX9_startsCounting_11 : decode cX9_startsCounting 11 = .ok (.iconst 0, 1) := by decide +kernel
theorem dX9_startsCounting_12 : decode cX9_startsCounting 12 = .ok (.putfield 168, 3) := by decide +kernel
theorem dX9_startsCounting_15 : decode cX9_startsCounting 15 = .ok (.return_, 1) := by decide +kernel
theorem dX9_fetches_0 : decode cX9_fetches 0 = .ok (.aload_n 0, 1) := by decide +kernel
theorem dX9_fetches_1 : decode cX9_fetches 1 = .ok (.iload_n 1, 1) := by decide +kernel
theorem dX9_fetches_2 : decode cX9_fetches 2 = .ok (.iload_n 2, 1) := by decide +kernel
theorem dX9_fetches_3 : decode cX9_fetches 3 = .ok (.invokevirtual 171, 3) := by decide +kernel
theorem dX9_fetches_6 : decode cX9_fetches 6 = .ok (.istore_n 3, 1) := by decide +kernel
theorem dX9_fetches_7 : decode cX9_fetches 7 = .ok (.aload_n 0, 1) := by decide +kernel
theorem dX9_fetches_8 : decode cX9_fetches 8 = .ok (.getfield 13, 3) := by decide +kernel
theorem dX9_fetches_11 : decode cX9_fetches 11 = .ok (.bipush 40, 2) := by decide +kernel
theorem dX9_fetches_13 : decode cX9_fetches 13 = .ok (.aload_n 0, 1) := by decide +kernel
theorem dX9_fetches_14 : decode cX9_fetches 14 = .ok (.iload_n 2, 1) := by decide +kernel
theorem dX9_fetches_15 : decode cX9_fetches 15 = .ok (.iconst 0, 1) := by decide +kernel
theorem dX9_fetches_16 : decode cX9_fetches 16 = .ok (.invokevirtual 156, 3) := by decide +kernel
theorem dX9_fetches_19 : decode cX9_fetches 19 = .ok (.iastore, 1) := by decide +kernel
theorem dX9_fetches_20 : decode cX9_fetches 20 = .ok (.aload_n 0, 1) := by decide +kernel
theorem dX9_fetches_21 : decode cX9_fetches 21 = .ok (.getfield 13, 3) := by decide +kernel
theorem dX9_fetches_24 : decode cX9_fetches 24 = .ok (.bipush 41, 2) := by decide +kernel
theorem dX9_fetches_26 : decode cX9_fetches 26 = .ok (.dup2, 1) := by decide +kernel
theorem dX9_fetches_27 : decode cX9_fetches 27 = .ok (.iaload, 1) := by decide +kernel
theorem dX9_fetches_28 : decode cX9_fetches 28 = .ok (.iload_n 3, 1) := by decide +kernel
theorem dX9_fetches_29 : decode cX9_fetches 29 = .ok (.iadd, 1) := by decide +kernel
theorem dX9_fetches_30 : decode cX9_fetches 30 = .ok (.iastore, 1) := by decide +kernel
theorem dX9_fetches_31 : decode cX9_fetches 31 = .ok (.aload_n 0, 1) := by decide +kernel
theorem dX9_fetches_32 : decode cX9_fetches 32 = .ok (.iload_n 1, 1) := by decide +kernel
theorem dX9_fetches_33 : decode cX9_fetches 33 = .ok (.iconst 3, 1) := by decide +kernel
theorem dX9_fetches_34 : decode cX9_fetches 34 = .ok (.aload_n 0, 1) := by decide +kernel
theorem dX9_fetches_35 : decode cX9_fetches 35 = .ok (.iload_n 1, 1) := by decide +kernel
theorem dX9_fetches_36 : decode cX9_fetches 36 = .ok (.iconst 3, 1) := by decide +kernel
theorem dX9_fetches_37 : decode cX9_fetches 37 = .ok (.invokevirtual 153, 3) := by decide +kernel
theorem dX9_fetches_40 : decode cX9_fetches 40 = .ok (.iconst 1, 1) := by decide +kernel
theorem dX9_fetches_41 : decode cX9_fetches 41 = .ok (.iload_n 2, 1) := by decide +kernel
theorem dX9_fetches_42 : decode cX9_fetches 42 = .ok (.ishl, 1) := by decide +kernel
theorem dX9_fetches_43 : decode cX9_fetches 43 = .ok (.ior, 1) := by decide +kernel
theorem dX9_fetches_44 : decode cX9_fetches 44 = .ok (.invokevirtual 174, 3) := by decide +kernel
theorem dX9_fetches_47 : decode cX9_fetches 47 = .ok (.aload_n 0, 1) := by decide +kernel
theorem dX9_fetches_48 : decode cX9_fetches 48 = .ok (.dup, 1) := by decide +kernel
theorem dX9_fetches_49 : decode cX9_fetches 49 = .ok (.getfield 165, 3) := by decide +kernel
theorem dX9_fetches_52 : decode cX9_fetches 52 = .ok (.iload_n 3, 1) := by decide +kernel
theorem dX9_fetches_53 : decode cX9_fetches 53 = .ok (.iadd, 1) := by decide +kernel
theorem dX9_fetches_54 : decode cX9_fetches 54 = .ok (.putfield 165, 3) := by decide +kernel
theorem dX9_fetches_57 : decode cX9_fetches 57 = .ok (.aload_n 0, 1) := by decide +kernel
theorem dX9_fetches_58 : decode cX9_fetches 58 = .ok (.dup, 1) := by decide +kernel
theorem dX9_fetches_59 : decode cX9_fetches 59 = .ok (.getfield 162, 3) := by decide +kernel
theorem dX9_fetches_62 : decode cX9_fetches 62 = .ok (.iconst 1, 1) := by decide +kernel
theorem dX9_fetches_63 : decode cX9_fetches 63 = .ok (.iadd, 1) := by decide +kernel
theorem dX9_fetches_64 : decode cX9_fetches 64 = .ok (.putfield 162, 3) := by decide +kernel
theorem dX9_fetches_67 : decode cX9_fetches 67 = .ok (.return_, 1) := by decide +kernel
theorem dX9_readerGoes_0 : decode cX9_readerGoes 0 = .ok (.iconst 0, 1) := by decide +kernel
theorem dX9_readerGoes_1 : decode cX9_readerGoes 1 = .ok (.istore_n 2, 1) := by decide +kernel
theorem dX9_readerGoes_2 : decode cX9_readerGoes 2 = .ok (.iconst 0, 1) := by decide +kernel
theorem dX9_readerGoes_3 : decode cX9_readerGoes 3 = .ok (.istore_n 3, 1) := by decide +kernel
theorem dX9_readerGoes_4 : decode cX9_readerGoes 4 = .ok (.aload_n 0, 1) := by decide +kernel
theorem dX9_readerGoes_5 : decode cX9_readerGoes 5 = .ok (.bipush (-4), 2) := by decide +kernel
theorem dX9_readerGoes_7 : decode cX9_readerGoes 7 = .ok (.putfield 178, 3) := by decide +kernel
theorem dX9_readerGoes_10 : decode cX9_readerGoes 10 = .ok (.iconst 0, 1) := by decide +kernel
theorem dX9_readerGoes_11 : decode cX9_readerGoes 11 = .ok (.istore 4, 2) := by decide +kernel
theorem dX9_readerGoes_13 : decode cX9_readerGoes 13 = .ok (.iload 4, 2) := by decide +kernel
theorem dX9_readerGoes_15 : decode cX9_readerGoes 15 = .ok (.bipush 8, 2) := by decide +kernel
theorem dX9_readerGoes_17 : decode cX9_readerGoes 17 = .ok (.if_icmp .gt 133, 3) := by decide +kernel
theorem dX9_readerGoes_20 : decode cX9_readerGoes 20 = .ok (.iload_n 3, 1) := by decide +kernel
theorem dX9_readerGoes_21 : decode cX9_readerGoes 21 = .ok (.ifCond .ne 129, 3) := by decide +kernel
theorem dX9_readerGoes_24 : decode cX9_readerGoes 24 = .ok (.aload_n 0, 1) := by decide +kernel
theorem dX9_readerGoes_25 : decode cX9_readerGoes 25 = .ok (.iload_n 1, 1) := by decide +kernel
theorem dX9_readerGoes_26 : decode cX9_readerGoes 26 = .ok (.iconst 1, 1) := by decide +kernel
theorem dX9_readerGoes_27 : decode cX9_readerGoes 27 = .ok (.invokevirtual 153, 3) := by decide +kernel
theorem dX9_readerGoes_30 : decode cX9_readerGoes 30 = .ok (.istore 5, 2) := by decide +kernel
theorem dX9_readerGoes_32 : decode cX9_readerGoes 32 = .ok (.iload 5, 2) := by decide +kernel
theorem dX9_readerGoes_34 : decode cX9_readerGoes 34 = .ok (.bipush (-4), 2) := by decide +kernel
theorem dX9_readerGoes_36 : decode cX9_readerGoes 36 = .ok (.if_icmp .ne 8, 3) := by decide +kernel
theorem dX9_readerGoes_39 : decode cX9_readerGoes 39 = .ok (.iconst 1, 1) := by decide +kernel
theorem dX9_readerGoes_40 : decode cX9_readerGoes 40 = .ok (.istore_n 3, 1) := by decide +kernel
theorem dX9_readerGoes_41 : decode cX9_readerGoes 41 = .ok (.goto 103, 3) := by decide +kernel
theorem dX9_readerGoes_44 : decode cX9_readerGoes 44 = .ok (.aload_n 0, 1) := by decide +kernel
theorem dX9_readerGoes_45 : decode cX9_readerGoes 45 = .ok (.iload_n 1, 1) := by decide +kernel
theorem dX9_readerGoes_46 : decode cX9_readerGoes 46 = .ok (.iload 5, 2) := by decide +kernel
theorem dX9_readerGoes_48 : decode cX9_readerGoes 48 = .ok (.invokevirtual 181, 3) := by decide +kernel
theorem dX9_readerGoes_51 : decode cX9_readerGoes 51 = .ok (.ifCond .eq 16, 3) := by decide +kernel
theorem dX9_readerGoes_54 : decode cX9_readerGoes 54 = .ok (.aload_n 0, 1) := by decide +kernel
theorem dX9_readerGoes_55 : decode cX9_readerGoes 55 = .ok (.iload_n 1, 1) := by decide +kernel
theorem dX9_readerGoes_56 : decode cX9_readerGoes 56 = .ok (.iconst 1, 1) := by decide +kernel
theorem dX9_readerGoes_57 : decode cX9_readerGoes 57 = .ok (.bipush (-4), 2) := by decide +kernel
theorem dX9_readerGoes_59 : decode cX9_readerGoes 59 = .ok (.invokevirtual 174, 3) := by decide +kernel
theorem dX9_readerGoes_62 : decode cX9_readerGoes 62 = .ok (.iconst 1, 1) := by decide +kernel
theorem dX9_readerGoes_63 : decode cX9_readerGoes 63 = .ok (.istore_n 3, 1) := by decide +kernel
theorem dX9_readerGoes_64 : decode cX9_readerGoes 64 = .ok (.goto 80, 3) := by decide +kernel
theorem dX9_readerGoes_67 : decode cX9_readerGoes 67 = .ok (.aload_n 0, 1) := by decide +kernel
theorem dX9_readerGoes_68 : decode cX9_readerGoes 68 = .ok (.iload_n 1, 1) := by decide +kernel
theorem dX9_readerGoes_69 : decode cX9_readerGoes 69 = .ok (.iconst 0, 1) := by decide +kernel
theorem dX9_readerGoes_70 : decode cX9_readerGoes 70 = .ok (.invokevirtual 153, 3) := by decide +kernel
theorem dX9_readerGoes_73 : decode cX9_readerGoes 73 = .ok (.aload_n 0, 1) := by decide +kernel
theorem dX9_readerGoes_74 : decode cX9_readerGoes 74 = .ok (.iload 5, 2) := by decide +kernel
theorem dX9_readerGoes_76 : decode cX9_readerGoes 76 = .ok (.iconst 1, 1) := by decide +kernel
theorem dX9_readerGoes_77 : decode cX9_readerGoes 77 = .ok (.invokevirtual 156, 3) := by decide +kernel
theorem dX9_readerGoes_80 : decode cX9_readerGoes 80 = .ok (.invokestatic 184, 3) := by decide +kernel
theorem dX9_readerGoes_83 : decode cX9_readerGoes 83 = .ok (.istore 6, 2) := by decide +kernel
theorem dX9_readerGoes_85 : decode cX9_readerGoes 85 = .ok (.iload_n 2, 1) := by decide +kernel
theorem dX9_readerGoes_86 : decode cX9_readerGoes 86 = .ok (.iload 6, 2) := by decide +kernel
theorem dX9_readerGoes_88 : decode cX9_readerGoes 88 = .ok (.iadd, 1) := by decide +kernel
theorem dX9_readerGoes_89 : decode cX9_readerGoes 89 = .ok (.aload_n 0, 1) := by decide +kernel
theorem dX9_readerGoes_90 : decode cX9_readerGoes 90 = .ok (.iload_n 1, 1) := by decide +kernel
theorem dX9_readerGoes_91 : decode cX9_readerGoes 91 = .ok (.iconst 2, 1) := by decide +kernel
theorem dX9_readerGoes_92 : decode cX9_readerGoes 92 = .ok (.invokevirtual 153, 3) := by decide +kernel
theorem dX9_readerGoes_95 : decode cX9_readerGoes 95 = .ok (.if_icmp .le 24, 3) := by decide +kernel
theorem dX9_readerGoes_98 : decode cX9_readerGoes 98 = .ok (.aload_n 0, 1) := by decide +kernel
theorem dX9_readerGoes_99 : decode cX9_readerGoes 99 = .ok (.iload 5, 2) := by decide +kernel
theorem dX9_readerGoes_101 : decode cX9_readerGoes 101 = .ok (.putfield 178, 3) := by decide +kernel
theorem dX9_readerGoes_104 : decode cX9_readerGoes 104 = .ok (.aload_n 0, 1) := by decide +kernel
theorem dX9_readerGoes_105 : decode cX9_readerGoes 105 = .ok (.dup, 1) := by decide +kernel
theorem dX9_readerGoes_106 : decode cX9_readerGoes 106 = .ok (.getfield 168, 3) := by decide +kernel
theorem dX9_readerGoes_109 : decode cX9_readerGoes 109 = .ok (.iconst 1, 1) := by decide +kernel
theorem dX9_readerGoes_110 : decode cX9_readerGoes 110 = .ok (.iadd, 1) := by decide +kernel
theorem dX9_readerGoes_111 : decode cX9_readerGoes 111 = .ok (.putfield 168, 3) := by decide +kernel
theorem dX9_readerGoes_114 : decode cX9_readerGoes 114 = .ok (.iconst 1, 1) := by decide +kernel
theorem dX9_readerGoes_115 : decode cX9_readerGoes 115 = .ok (.istore_n 3, 1) := by decide +kernel
theorem dX9_readerGoes_116 : decode cX9_readerGoes 116 = .ok (.goto 28, 3) := by decide +kernel
theorem dX9_readerGoes_119 : decode cX9_readerGoes 119 = .ok (.aload_n 0, 1) := by decide +kernel
theorem dX9_readerGoes_120 : decode cX9_readerGoes 120 = .ok (.iload_n 1, 1) := by decide +kernel
theorem dX9_readerGoes_121 : decode cX9_readerGoes 121 = .ok (.iload 5, 2) := by decide +kernel
theorem dX9_readerGoes_123 : decode cX9_readerGoes 123 = .ok (.invokevirtual 187, 3) := by decide +kernel
theorem dX9_readerGoes_126 : decode cX9_readerGoes 126 = .ok (.iload_n 2, 1) := by decide +kernel
theorem dX9_readerGoes_127 : decode cX9_readerGoes 127 = .ok (.iload 6, 2) := by decide +kernel
theorem dX9_readerGoes_129 : decode cX9_readerGoes 129 = .ok (.iadd, 1) := by decide +kernel
theorem dX9_readerGoes_130 : decode cX9_readerGoes 130 = .ok (.istore_n 2, 1) := by decide +kernel
theorem dX9_readerGoes_131 : decode cX9_readerGoes 131 = .ok (.aload_n 0, 1) := by decide +kernel
theorem dX9_readerGoes_132 : decode cX9_readerGoes 132 = .ok (.iload_n 1, 1) := by decide +kernel
theorem dX9_readerGoes_133 : decode cX9_readerGoes 133 = .ok (.iconst 1, 1) := by decide +kernel
theorem dX9_readerGoes_134 : decode cX9_readerGoes 134 = .ok (.aload_n 0, 1) := by decide +kernel
theorem dX9_readerGoes_135 : decode cX9_readerGoes 135 = .ok (.iload 5, 2) := by decide +kernel
theorem dX9_readerGoes_137 : decode cX9_readerGoes 137 = .ok (.iconst 2, 1) := by decide +kernel
theorem dX9_readerGoes_138 : decode cX9_readerGoes 138 = .ok (.invokevirtual 156, 3) := by decide +kernel
theorem dX9_readerGoes_141 : decode cX9_readerGoes 141 = .ok (.invokevirtual 174, 3) := by decide +kernel
theorem dX9_readerGoes_144 : decode cX9_readerGoes 144 = .ok (.iinc 4 1, 3) := by decide +kernel
theorem dX9_readerGoes_147 : decode cX9_readerGoes 147 = .ok (.goto (-134), 3) := by decide +kernel
theorem dX9_readerGoes_150 : decode cX9_readerGoes 150 = .ok (.return_, 1) := by decide +kernel
theorem dX9_dayGoes_0 : decode cX9_dayGoes 0 = .ok (.iconst 0, 1) := by decide +kernel
theorem dX9_dayGoes_1 : decode cX9_dayGoes 1 = .ok (.istore_n 1, 1) := by decide +kernel
theorem dX9_dayGoes_2 : decode cX9_dayGoes 2 = .ok (.iload_n 1, 1) := by decide +kernel
theorem dX9_dayGoes_3 : decode cX9_dayGoes 3 = .ok (.aload_n 0, 1) := by decide +kernel
theorem dX9_dayGoes_4 : decode cX9_dayGoes 4 = .ok (.getfield 73, 3) := by decide +kernel
theorem dX9_dayGoes_7 : decode cX9_dayGoes 7 = .ok (.if_icmp .ge 14, 3) := by decide +kernel
theorem dX9_dayGoes_10 : decode cX9_dayGoes 10 = .ok (.aload_n 0, 1) := by decide +kernel
theorem dX9_dayGoes_11 : decode cX9_dayGoes 11 = .ok (.iload_n 1, 1) := by decide +kernel
theorem dX9_dayGoes_12 : decode cX9_dayGoes 12 = .ok (.invokevirtual 191, 3) := by decide +kernel
theorem dX9_dayGoes_15 : decode cX9_dayGoes 15 = .ok (.iinc 1 1, 3) := by decide +kernel
theorem dX9_dayGoes_18 : decode cX9_dayGoes 18 = .ok (.goto (-16), 3) := by decide +kernel
theorem dX9_dayGoes_21 : decode cX9_dayGoes 21 = .ok (.aload_n 0, 1) := by decide +kernel
theorem dX9_dayGoes_22 : decode cX9_dayGoes 22 = .ok (.getfield 13, 3) := by decide +kernel
theorem dX9_dayGoes_25 : decode cX9_dayGoes 25 = .ok (.bipush 42, 2) := by decide +kernel
theorem dX9_dayGoes_27 : decode cX9_dayGoes 27 = .ok (.dup2, 1) := by decide +kernel
theorem dX9_dayGoes_28 : decode cX9_dayGoes 28 = .ok (.iaload, 1) := by decide +kernel
theorem dX9_dayGoes_29 : decode cX9_dayGoes 29 = .ok (.iconst 1, 1) := by decide +kernel
theorem dX9_dayGoes_30 : decode cX9_dayGoes 30 = .ok (.iadd, 1) := by decide +kernel
theorem dX9_dayGoes_31 : decode cX9_dayGoes 31 = .ok (.iastore, 1) := by decide +kernel
theorem dX9_dayGoes_32 : decode cX9_dayGoes 32 = .ok (.return_, 1) := by decide +kernel
theorem dX9_daysGo_0 : decode cX9_daysGo 0 = .ok (.aload_n 0, 1) := by decide +kernel
theorem dX9_daysGo_1 : decode cX9_daysGo 1 = .ok (.invokevirtual 194, 3) := by decide +kernel
theorem dX9_daysGo_4 : decode cX9_daysGo 4 = .ok (.iconst 0, 1) := by decide +kernel
theorem dX9_daysGo_5 : decode cX9_daysGo 5 = .ok (.istore_n 2, 1) := by decide +kernel
theorem dX9_daysGo_6 : decode cX9_daysGo 6 = .ok (.iload_n 2, 1) := by decide +kernel
theorem dX9_daysGo_7 : decode cX9_daysGo 7 = .ok (.iload_n 1, 1) := by decide +kernel
theorem dX9_daysGo_8 : decode cX9_daysGo 8 = .ok (.if_icmp .ge 13, 3) := by decide +kernel
theorem dX9_daysGo_11 : decode cX9_daysGo 11 = .ok (.aload_n 0, 1) := by decide +kernel
theorem dX9_daysGo_12 : decode cX9_daysGo 12 = .ok (.invokevirtual 197, 3) := by decide +kernel
theorem dX9_daysGo_15 : decode cX9_daysGo 15 = .ok (.iinc 2 1, 3) := by decide +kernel
theorem dX9_daysGo_18 : decode cX9_daysGo 18 = .ok (.goto (-12), 3) := by decide +kernel
theorem dX9_daysGo_21 : decode cX9_daysGo 21 = .ok (.return_, 1) := by decide +kernel
theorem dX9_doneNow_0 : decode cX9_doneNow 0 = .ok (.iconst 0, 1) := by decide +kernel
theorem dX9_doneNow_1 : decode cX9_doneNow 1 = .ok (.istore_n 1, 1) := by decide +kernel
theorem dX9_doneNow_2 : decode cX9_doneNow 2 = .ok (.iconst 0, 1) := by decide +kernel
theorem dX9_doneNow_3 : decode cX9_doneNow 3 = .ok (.istore_n 2, 1) := by decide +kernel
theorem dX9_doneNow_4 : decode cX9_doneNow 4 = .ok (.iload_n 2, 1) := by decide +kernel
theorem dX9_doneNow_5 : decode cX9_doneNow 5 = .ok (.aload_n 0, 1) := by decide +kernel
theorem dX9_doneNow_6 : decode cX9_doneNow 6 = .ok (.getfield 73, 3) := by decide +kernel
theorem dX9_doneNow_9 : decode cX9_doneNow 9 = .ok (.if_icmp .ge 33, 3) := by decide +kernel
theorem dX9_doneNow_12 : decode cX9_doneNow 12 = .ok (.iload_n 1, 1) := by decide +kernel
theorem dX9_doneNow_13 : decode cX9_doneNow 13 = .ok (.aload_n 0, 1) := by decide +kernel
theorem dX9_doneNow_14 : decode cX9_doneNow 14 = .ok (.iload_n 2, 1) := by decide +kernel
theorem dX9_doneNow_15 : decode cX9_doneNow 15 = .ok (.iconst 1, 1) := by decide +kernel
theorem dX9_doneNow_16 : decode cX9_doneNow 16 = .ok (.invokevirtual 153, 3) := by decide +kernel
theorem dX9_doneNow_19 : decode cX9_doneNow 19 = .ok (.bipush (-4), 2) := by decide +kernel
theorem dX9_doneNow_21 : decode cX9_doneNow 21 = .ok (.if_icmp .ne 7, 3) := by decide +kernel
theorem dX9_doneNow_24 : decode cX9_doneNow 24 = .ok (.iconst 1, 1) := by decide +kernel
theorem dX9_doneNow_25 : decode cX9_doneNow 25 = .ok (.goto 4, 3) := by decide +kernel
theorem dX9_doneNow_28 : decode cX9_doneNow 28 = .ok (.iconst 0, 1) := by decide +kernel
theorem dX9_doneNow_29 : decode cX9_doneNow 29 = .ok (.invokestatic 200, 3) := by decide +kernel
theorem dX9_doneNow_32 : decode cX9_doneNow 32 = .ok (.iload_n 2, 1) := by decide +kernel
theorem dX9_doneNow_33 : decode cX9_doneNow 33 = .ok (.ishl, 1) := by decide +kernel
theorem dX9_doneNow_34 : decode cX9_doneNow 34 = .ok (.ior, 1) := by decide +kernel
theorem dX9_doneNow_35 : decode cX9_doneNow 35 = .ok (.istore_n 1, 1) := by decide +kernel
theorem dX9_doneNow_36 : decode cX9_doneNow 36 = .ok (.iinc 2 1, 3) := by decide +kernel
theorem dX9_doneNow_39 : decode cX9_doneNow 39 = .ok (.goto (-35), 3) := by decide +kernel
theorem dX9_doneNow_42 : decode cX9_doneNow 42 = .ok (.iload_n 1, 1) := by decide +kernel
theorem dX9_doneNow_43 : decode cX9_doneNow 43 = .ok (.ireturn, 1) := by decide +kernel
theorem dX9_rule_0 : decode cX9_rule 0 = .ok (.aload_n 0, 1) := by decide +kernel
theorem dX9_rule_1 : decode cX9_rule 1 = .ok (.invokevirtual 204, 3) := by decide +kernel
theorem dX9_rule_4 : decode cX9_rule 4 = .ok (.iload_n 1, 1) := by decide +kernel
theorem dX9_rule_5 : decode cX9_rule 5 = .ok (.tableswitch 78 0 5 #[39, 44, 49, 57, 65, 73], 39) := by decide +kernel
theorem dX9_rule_44 : decode cX9_rule 44 = .ok (.aload_n 0, 1) := by decide +kernel
theorem dX9_rule_45 : decode cX9_rule 45 = .ok (.getfield 70, 3) := by decide +kernel
theorem dX9_rule_48 : decode cX9_rule 48 = .ok (.ireturn, 1) := by decide +kernel
theorem dX9_rule_49 : decode cX9_rule 49 = .ok (.aload_n 0, 1) := by decide +kernel
theorem dX9_rule_50 : decode cX9_rule 50 = .ok (.getfield 73, 3) := by decide +kernel
theorem dX9_rule_53 : decode cX9_rule 53 = .ok (.ireturn, 1) := by decide +kernel
theorem dX9_rule_54 : decode cX9_rule 54 = .ok (.aload_n 0, 1) := by decide +kernel
theorem dX9_rule_55 : decode cX9_rule 55 = .ok (.getfield 7, 3) := by decide +kernel
theorem dX9_rule_58 : decode cX9_rule 58 = .ok (.bipush 40, 2) := by decide +kernel
theorem dX9_rule_60 : decode cX9_rule 60 = .ok (.iaload, 1) := by decide +kernel
theorem dX9_rule_61 : decode cX9_rule 61 = .ok (.ireturn, 1) := by decide +kernel
theorem dX9_rule_62 : decode cX9_rule 62 = .ok (.aload_n 0, 1) := by decide +kernel
theorem dX9_rule_63 : decode cX9_rule 63 = .ok (.getfield 7, 3) := by decide +kernel
theorem dX9_rule_66 : decode cX9_rule 66 = .ok (.bipush 41, 2) := by decide +kernel
theorem dX9_rule_68 : decode cX9_rule 68 = .ok (.iaload, 1) := by decide +kernel
theorem dX9_rule_69 : decode cX9_rule 69 = .ok (.ireturn, 1) := by decide +kernel
theorem dX9_rule_70 : decode cX9_rule 70 = .ok (.aload_n 0, 1) := by decide +kernel
theorem dX9_rule_71 : decode cX9_rule 71 = .ok (.getfield 7, 3) := by decide +kernel
theorem dX9_rule_74 : decode cX9_rule 74 = .ok (.bipush 42, 2) := by decide +kernel
theorem dX9_rule_76 : decode cX9_rule 76 = .ok (.iaload, 1) := by decide +kernel
theorem dX9_rule_77 : decode cX9_rule 77 = .ok (.ireturn, 1) := by decide +kernel
theorem dX9_rule_78 : decode cX9_rule 78 = .ok (.aload_n 0, 1) := by decide +kernel
theorem dX9_rule_79 : decode cX9_rule 79 = .ok (.invokevirtual 207, 3) := by decide +kernel
theorem dX9_rule_82 : decode cX9_rule 82 = .ok (.ireturn, 1) := by decide +kernel
theorem dX9_rule_83 : decode cX9_rule 83 = .ok (.iconst (-1), 1) := by decide +kernel
theorem dX9_rule_84 : decode cX9_rule 84 = .ok (.ireturn, 1) := by decide +kernel
theorem dX9_book_0 : decode cX9_book 0 = .ok (.aload_n 0, 1) := by decide +kernel
theorem dX9_book_1 : decode cX9_book 1 = .ok (.iload_n 1, 1) := by decide +kernel
theorem dX9_book_2 : decode cX9_book 2 = .ok (.invokevirtual 210, 3) := by decide +kernel
theorem dX9_book_5 : decode cX9_book 5 = .ok (.ifCond .eq 15, 3) := by decide +kernel
theorem dX9_book_8 : decode cX9_book 8 = .ok (.iload_n 2, 1) := by decide +kernel
theorem dX9_book_9 : decode cX9_book 9 = .ok (.i2l, 1) := by decide +kernel
theorem dX9_book_10 : decode cX9_book 10 = .ok (.lconst 0, 1) := by decide +kernel
theorem dX9_book_11 : decode cX9_book 11 = .ok (.ldc2_w 214, 3) := by decide +kernel
theorem dX9_book_14 : decode cX9_book 14 = .ok (.invokestatic 78, 3) := by decide +kernel
theorem dX9_book_17 : decode cX9_book 17 = .ok (.ifCond .ne 5, 3) := by decide +kernel
theorem dX9_book_20 : decode cX9_book 20 = .ok (.iconst (-1), 1) := by decide +kernel
theorem dX9_book_21 : decode cX9_book 21 = .ok (.ireturn, 1) := by decide +kernel
theorem dX9_book_22 : decode cX9_book 22 = .ok (.aload_n 0, 1) := by decide +kernel
theorem dX9_book_23 : decode cX9_book 23 = .ok (.invokevirtual 204, 3) := by decide +kernel
theorem dX9_book_26 : decode cX9_book 26 = .ok (.iconst 0, 1) := by decide +kernel
theorem dX9_book_27 : decode cX9_book 27 = .ok (.istore_n 3, 1) := by decide +kernel
theorem dX9_book_28 : decode cX9_book 28 = .ok (.iconst 0, 1) := by decide +kernel
theorem dX9_book_29 : decode cX9_book 29 = .ok (.istore 4, 2) := by decide +kernel
theorem dX9_book_31 : decode cX9_book 31 = .ok (.iload 4, 2) := by decide +kernel
theorem dX9_book_33 : decode cX9_book 33 = .ok (.aload_n 0, 1) := by decide +kernel
theorem dX9_book_34 : decode cX9_book 34 = .ok (.getfield 73, 3) := by decide +kernel
theorem dX9_book_37 : decode cX9_book 37 = .ok (.if_icmp .ge 25, 3) := by decide +kernel
theorem dX9_book_40 : decode cX9_book 40 = .ok (.iload_n 3, 1) := by decide +kernel
theorem dX9_book_41 : decode cX9_book 41 = .ok (.aload_n 0, 1) := by decide +kernel
theorem dX9_book_42 : decode cX9_book 42 = .ok (.iload 4, 2) := by decide +kernel
theorem dX9_book_44 : decode cX9_book 44 = .ok (.iload_n 1, 1) := by decide +kernel
theorem dX9_book_45 : decode cX9_book 45 = .ok (.invokevirtual 181, 3) := by decide +kernel
theorem dX9_book_48 : decode cX9_book 48 = .ok (.invokestatic 200, 3) := by decide +kernel
theorem dX9_book_51 : decode cX9_book 51 = .ok (.iload 4, 2) := by decide +kernel
theorem dX9_book_53 : decode cX9_book 53 = .ok (.ishl, 1) := by decide +kernel
theorem dX9_book_54 : decode cX9_book 54 = .ok (.ior, 1) := by decide +kernel
theorem dX9_book_55 : decode cX9_book 55 = .ok (.istore_n 3, 1) := by decide +kernel
theorem dX9_book_56 : decode cX9_book 56 = .ok (.iinc 4 1, 3) := by decide +kernel
theorem dX9_book_59 : decode cX9_book 59 = .ok (.goto (-28), 3) := by decide +kernel
theorem dX9_book_62 : decode cX9_book 62 = .ok (.iload_n 2, 1) := by decide +kernel
theorem dX9_book_63 : decode cX9_book 63 = .ok (.iconst 3, 1) := by decide +kernel
theorem dX9_book_64 : decode cX9_book 64 = .ok (.if_icmp .ge 12, 3) := by decide +kernel
theorem dX9_book_67 : decode cX9_book 67 = .ok (.aload_n 0, 1) := by decide +kernel
theorem dX9_book_68 : decode cX9_book 68 = .ok (.iload_n 1, 1) := by decide +kernel
theorem dX9_book_69 : decode cX9_book 69 = .ok (.iload_n 2, 1) := by decide +kernel
theorem dX9_book_70 : decode cX9_book 70 = .ok (.invokevirtual 156, 3) := by decide +kernel
theorem dX9_book_73 : decode cX9_book 73 = .ok (.goto 4, 3) := by decide +kernel
theorem dX9_book_76 : decode cX9_book 76 = .ok (.iload_n 3, 1) := by decide +kernel
theorem dX9_book_77 : decode cX9_book 77 = .ok (.ireturn, 1) := by decide +kernel
theorem dX9_reader_0 : decode cX9_reader 0 = .ok (.aload_n 0, 1) := by decide +kernel
theorem dX9_reader_1 : decode cX9_reader 1 = .ok (.iload_n 1, 1) := by decide +kernel
theorem dX9_reader_2 : decode cX9_reader 2 = .ok (.invokevirtual 216, 3) := by decide +kernel
theorem dX9_reader_5 : decode cX9_reader 5 = .ok (.ifCond .eq 15, 3) := by decide +kernel
theorem dX9_reader_8 : decode cX9_reader 8 = .ok (.iload_n 2, 1) := by decide +kernel
theorem dX9_reader_9 : decode cX9_reader 9 = .ok (.i2l, 1) := by decide +kernel
theorem dX9_reader_10 : decode cX9_reader 10 = .ok (.lconst 0, 1) := by decide +kernel
theorem dX9_reader_11 : decode cX9_reader 11 = .ok (.ldc2_w 219, 3) := by decide +kernel
theorem dX9_reader_14 : decode cX9_reader 14 = .ok (.invokestatic 78, 3) := by decide +kernel
theorem dX9_reader_17 : decode cX9_reader 17 = .ok (.ifCond .ne 5, 3) := by decide +kernel
theorem dX9_reader_20 : decode cX9_reader 20 = .ok (.iconst (-1), 1) := by decide +kernel
theorem dX9_reader_21 : decode cX9_reader 21 = .ok (.ireturn, 1) := by decide +kernel
theorem dX9_reader_22 : decode cX9_reader 22 = .ok (.aload_n 0, 1) := by decide +kernel
theorem dX9_reader_23 : decode cX9_reader 23 = .ok (.invokevirtual 204, 3) := by decide +kernel
theorem dX9_reader_26 : decode cX9_reader 26 = .ok (.iload_n 2, 1) := by decide +kernel
theorem dX9_reader_27 : decode cX9_reader 27 = .ok (.iconst 4, 1) := by decide +kernel
theorem dX9_reader_28 : decode cX9_reader 28 = .ok (.if_icmp .ge 10, 3) := by decide +kernel
theorem dX9_reader_31 : decode cX9_reader 31 = .ok (.aload_n 0, 1) := by decide +kernel
theorem dX9_reader_32 : decode cX9_reader 32 = .ok (.iload_n 1, 1) := by decide +kernel
theorem dX9_reader_33 : decode cX9_reader 33 = .ok (.iload_n 2, 1) := by decide +kernel
theorem dX9_reader_34 : decode cX9_reader 34 = .ok (.invokevirtual 153, 3) := by decide +kernel
theorem dX9_reader_37 : decode cX9_reader 37 = .ok (.ireturn, 1) := by decide +kernel
theorem dX9_reader_38 : decode cX9_reader 38 = .ok (.aload_n 0, 1) := by decide +kernel
theorem dX9_reader_39 : decode cX9_reader 39 = .ok (.iload_n 1, 1) := by decide +kernel
theorem dX9_reader_40 : decode cX9_reader 40 = .ok (.iconst 1, 1) := by decide +kernel
theorem dX9_reader_41 : decode cX9_reader 41 = .ok (.invokevirtual 153, 3) := by decide +kernel
theorem dX9_reader_44 : decode cX9_reader 44 = .ok (.istore_n 3, 1) := by decide +kernel
theorem dX9_reader_45 : decode cX9_reader 45 = .ok (.iload_n 3, 1) := by decide +kernel
theorem dX9_reader_46 : decode cX9_reader 46 = .ok (.bipush (-4), 2) := by decide +kernel
theorem dX9_reader_48 : decode cX9_reader 48 = .ok (.if_icmp .ne 8, 3) := by decide +kernel
theorem dX9_reader_51 : decode cX9_reader 51 = .ok (.bipush (-4), 2) := by decide +kernel
theorem dX9_reader_53 : decode cX9_reader 53 = .ok (.goto 32, 3) := by decide +kernel
theorem dX9_reader_56 : decode cX9_reader 56 = .ok (.iload_n 2, 1) := by decide +kernel
theorem dX9_reader_57 : decode cX9_reader 57 = .ok (.iconst 4, 1) := by decide +kernel
theorem dX9_reader_58 : decode cX9_reader 58 = .ok (.if_icmp .ne 12, 3) := by decide +kernel
theorem dX9_reader_61 : decode cX9_reader 61 = .ok (.aload_n 0, 1) := by decide +kernel
theorem dX9_reader_62 : decode cX9_reader 62 = .ok (.iload_n 1, 1) := by decide +kernel
theorem dX9_reader_63 : decode cX9_reader 63 = .ok (.iload_n 3, 1) := by decide +kernel
theorem dX9_reader_64 : decode cX9_reader 64 = .ok (.invokevirtual 171, 3) := by decide +kernel
theorem dX9_reader_67 : decode cX9_reader 67 = .ok (.goto 18, 3) := by decide +kernel
theorem dX9_reader_70 : decode cX9_reader 70 = .ok (.aload_n 0, 1) := by decide +kernel
theorem dX9_reader_71 : decode cX9_reader 71 = .ok (.iload_n 1, 1) := by decide +kernel
theorem dX9_reader_72 : decode cX9_reader 72 = .ok (.iconst 0, 1) := by decide +kernel
theorem dX9_reader_73 : decode cX9_reader 73 = .ok (.invokevirtual 153, 3) := by decide +kernel
theorem dX9_reader_76 : decode cX9_reader 76 = .ok (.aload_n 0, 1) := by decide +kernel
theorem dX9_reader_77 : decode cX9_reader 77 = .ok (.iload_n 3, 1) := by decide +kernel
theorem dX9_reader_78 : decode cX9_reader 78 = .ok (.iconst 1, 1) := by decide +kernel
theorem dX9_reader_79 : decode cX9_reader 79 = .ok (.invokevirtual 156, 3) := by decide +kernel
theorem dX9_reader_82 : decode cX9_reader 82 = .ok (.invokestatic 184, 3) := by decide +kernel
theorem dX9_reader_85 : decode cX9_reader 85 = .ok (.ireturn, 1) := by decide +kernel
theorem dX9_becomes_0 : decode cX9_becomes 0 = .ok (.aload_n 0, 1) := by decide +kernel
theorem dX9_becomes_1 : decode cX9_becomes 1 = .ok (.getfield 7, 3) := by decide +kernel
theorem dX9_becomes_4 : decode cX9_becomes 4 = .ok (.iload_n 1, 1) := by decide +kernel
theorem dX9_becomes_5 : decode cX9_becomes 5 = .ok (.iaload, 1) := by decide +kernel
theorem dX9_becomes_6 : decode cX9_becomes 6 = .ok (.istore_n 3, 1) := by decide +kernel
theorem dX9_becomes_7 : decode cX9_becomes 7 = .ok (.aload_n 0, 1) := by decide +kernel
theorem dX9_becomes_8 : decode cX9_becomes 8 = .ok (.getfield 7, 3) := by decide +kernel
theorem dX9_becomes_11 : decode cX9_becomes 11 = .ok (.iload_n 1, 1) := by decide +kernel
theorem dX9_becomes_12 : decode cX9_becomes 12 = .ok (.iload_n 2, 1) := by decide +kernel
theorem dX9_becomes_13 : decode cX9_becomes 13 = .ok (.iastore, 1) := by decide +kernel
theorem dX9_becomes_14 : decode cX9_becomes 14 = .ok (.iload_n 3, 1) := by decide +kernel
theorem dX9_becomes_15 : decode cX9_becomes 15 = .ok (.ireturn, 1) := by decide +kernel
theorem dX9_isBookOrNone_0 : decode cX9_isBookOrNone 0 = .ok (.iload_n 1, 1) := by decide +kernel
theorem dX9_isBookOrNone_1 : decode cX9_isBookOrNone 1 = .ok (.bipush 9, 2) := by decide +kernel
theorem dX9_isBookOrNone_3 : decode cX9_isBookOrNone 3 = .ok (.if_icmp .eq 11, 3) := by decide +kernel
theorem dX9_isBookOrNone_6 : decode cX9_isBookOrNone 6 = .ok (.aload_n 0, 1) := by decide +kernel
theorem dX9_isBookOrNone_7 : decode cX9_isBookOrNone 7 = .ok (.iload_n 1, 1) := by decide +kernel
theorem dX9_isBookOrNone_8 : decode cX9_isBookOrNone 8 = .ok (.invokevirtual 210, 3) := by decide +kernel
theorem dX9_isBookOrNone_11 : decode cX9_isBookOrNone 11 = .ok (.ifCond .eq 7, 3) := by decide +kernel
theorem dX9_isBookOrNone_14 : decode cX9_isBookOrNone 14 = .ok (.iconst 1, 1) := by decide +kernel
theorem dX9_isBookOrNone_15 : decode cX9_isBookOrNone 15 = .ok (.goto 4, 3) := by decide +kernel
theorem dX9_isBookOrNone_18 : decode cX9_isBookOrNone 18 = .ok (.iconst 0, 1) := by decide +kernel
theorem dX9_isBookOrNone_19 : decode cX9_isBookOrNone 19 = .ok (.ireturn, 1) := by decide +kernel
theorem dX9_asKept_0 : decode cX9_asKept 0 = .ok (.iload_n 0, 1) := by decide +kernel
theorem dX9_asKept_1 : decode cX9_asKept 1 = .ok (.bipush 9, 2) := by decide +kernel
theorem dX9_asKept_3 : decode cX9_asKept 3 = .ok (.if_icmp .ne 8, 3) := by decide +kernel
theorem dX9_asKept_6 : decode cX9_asKept 6 = .ok (.bipush (-4), 2) := by decide +kernel
theorem dX9_asKept_8 : decode cX9_asKept 8 = .ok (.goto 4, 3) := by decide +kernel
theorem dX9_asKept_11 : decode cX9_asKept 11 = .ok (.iload_n 0, 1) := by decide +kernel
theorem dX9_asKept_12 : decode cX9_asKept 12 = .ok (.ireturn, 1) := by decide +kernel
theorem dX9_shelve_0 : decode cX9_shelve 0 = .ok (.iload_n 2, 1) := by decide +kernel
theorem dX9_shelve_1 : decode cX9_shelve 1 = .ok (.ifCond .ne 10, 3) := by decide +kernel
theorem dX9_shelve_4 : decode cX9_shelve 4 = .ok (.iload_n 3, 1) := by decide +kernel
theorem dX9_shelve_5 : decode cX9_shelve 5 = .ok (.invokestatic 221, 3) := by decide +kernel
theorem dX9_shelve_8 : decode cX9_shelve 8 = .ok (.goto 38, 3) := by decide +kernel
theorem dX9_shelve_11 : decode cX9_shelve 11 = .ok (.iload_n 2, 1) := by decide +kernel
theorem dX9_shelve_12 : decode cX9_shelve 12 = .ok (.iconst 1, 1) := by decide +kernel
theorem dX9_shelve_13 : decode cX9_shelve 13 = .ok (.if_icmp .ne 15, 3) := by decide +kernel
theorem dX9_shelve_16 : decode cX9_shelve 16 = .ok (.iload_n 3, 1) := by decide +kernel
theorem dX9_shelve_17 : decode cX9_shelve 17 = .ok (.i2l, 1) := by decide +kernel
theorem dX9_shelve_18 : decode cX9_shelve 18 = .ok (.lconst 0, 1) := by decide +kernel
theorem dX9_shelve_19 : decode cX9_shelve 19 = .ok (.ldc2_w 224, 3) := by decide +kernel
theorem dX9_shelve_22 : decode cX9_shelve 22 = .ok (.invokestatic 78, 3) := by decide +kernel
theorem dX9_shelve_25 : decode cX9_shelve 25 = .ok (.goto 21, 3) := by decide +kernel
theorem dX9_shelve_28 : decode cX9_shelve 28 = .ok (.iload_n 2, 1) := by decide +kernel
theorem dX9_shelve_29 : decode cX9_shelve 29 = .ok (.iconst 2, 1) := by decide +kernel
theorem dX9_shelve_30 : decode cX9_shelve 30 = .ok (.if_icmp .ne 15, 3) := by decide +kernel
theorem dX9_shelve_33 : decode cX9_shelve 33 = .ok (.aload_n 0, 1) := by decide +kernel
theorem dX9_shelve_34 : decode cX9_shelve 34 = .ok (.iload_n 3, 1) := by decide +kernel
theorem dX9_shelve_35 : decode cX9_shelve 35 = .ok (.invokevirtual 226, 3) := by decide +kernel
theorem dX9_shelve_38 : decode cX9_shelve 38 = .ok (.ifCond .eq 7, 3) := by decide +kernel
theorem dX9_shelve_41 : decode cX9_shelve 41 = .ok (.iconst 1, 1) := by decide +kernel
theorem dX9_shelve_42 : decode cX9_shelve 42 = .ok (.goto 4, 3) := by decide +kernel
theorem dX9_shelve_45 : decode cX9_shelve 45 = .ok (.iconst 0, 1) := by decide +kernel
theorem dX9_shelve_46 : decode cX9_shelve 46 = .ok (.istore 4, 2) := by decide +kernel
theorem dX9_shelve_48 : decode cX9_shelve 48 = .ok (.aload_n 0, 1) := by decide +kernel
theorem dX9_shelve_49 : decode cX9_shelve 49 = .ok (.iload_n 1, 1) := by decide +kernel
theorem dX9_shelve_50 : decode cX9_shelve 50 = .ok (.invokevirtual 210, 3) := by decide +kernel
theorem dX9_shelve_53 : decode cX9_shelve 53 = .ok (.ifCond .eq 33, 3) := by decide +kernel
theorem dX9_shelve_56 : decode cX9_shelve 56 = .ok (.iload 4, 2) := by decide +kernel
theorem dX9_shelve_58 : decode cX9_shelve 58 = .ok (.ifCond .eq 28, 3) := by decide +kernel
theorem dX9_shelve_61 : decode cX9_shelve 61 = .ok (.aload_n 0, 1) := by decide +kernel
theorem dX9_shelve_62 : decode cX9_shelve 62 = .ok (.iconst 3, 1) := by decide +kernel
theorem dX9_shelve_63 : decode cX9_shelve 63 = .ok (.iload_n 1, 1) := by decide +kernel
theorem dX9_shelve_64 : decode cX9_shelve 64 = .ok (.imul, 1) := by decide +kernel
theorem dX9_shelve_65 : decode cX9_shelve 65 = .ok (.iload_n 2, 1) := by decide +kernel
theorem dX9_shelve_66 : decode cX9_shelve 66 = .ok (.iadd, 1) := by decide +kernel
theorem dX9_shelve_67 : decode cX9_shelve 67 = .ok (.iload_n 2, 1) := by decide +kernel
theorem dX9_shelve_68 : decode cX9_shelve 68 = .ok (.iconst 2, 1) := by decide +kernel
theorem dX9_shelve_69 : decode cX9_shelve 69 = .ok (.if_icmp .ne 10, 3) := by decide +kernel
theorem dX9_shelve_72 : decode cX9_shelve 72 = .ok (.iload_n 3, 1) := by decide +kernel
theorem dX9_shelve_73 : decode cX9_shelve 73 = .ok (.invokestatic 229, 3) := by decide +kernel
theorem dX9_shelve_76 : decode cX9_shelve 76 = .ok (.goto 4, 3) := by decide +kernel
theorem dX9_shelve_79 : decode cX9_shelve 79 = .ok (.iload_n 3, 1) := by decide +kernel
theorem dX9_shelve_80 : decode cX9_shelve 80 = .ok (.invokevirtual 232, 3) := by decide +kernel
theorem dX9_shelve_83 : decode cX9_shelve 83 = .ok (.goto 4, 3) := by decide +kernel
theorem dX9_shelve_86 : decode cX9_shelve 86 = .ok (.iconst (-1), 1) := by decide +kernel
theorem dX9_shelve_87 : decode cX9_shelve 87 = .ok (.ireturn, 1) := by decide +kernel
theorem dX9_alter_0 : decode cX9_alter 0 = .ok (.iload_n 2, 1) := by decide +kernel
theorem dX9_alter_1 : decode cX9_alter 1 = .ok (.ifCond .ne 15, 3) := by decide +kernel
theorem dX9_alter_4 : decode cX9_alter 4 = .ok (.iload_n 3, 1) := by decide +kernel
theorem dX9_alter_5 : decode cX9_alter 5 = .ok (.i2l, 1) := by decide +kernel
theorem dX9_alter_6 : decode cX9_alter 6 = .ok (.lconst 0, 1) := by decide +kernel
theorem dX9_alter_7 : decode cX9_alter 7 = .ok (.ldc2_w 214, 3) := by decide +kernel
theorem dX9_alter_10 : decode cX9_alter 10 = .ok (.invokestatic 78, 3) := by decide +kernel
theorem dX9_alter_13 : decode cX9_alter 13 = .ok (.goto 38, 3) := by decide +kernel
theorem dX9_alter_16 : decode cX9_alter 16 = .ok (.iload_n 2, 1) := by decide +kernel
theorem dX9_alter_17 : decode cX9_alter 17 = .ok (.iconst 1, 1) := by decide +kernel
theorem dX9_alter_18 : decode cX9_alter 18 = .ok (.if_icmp .ne 11, 3) := by decide +kernel
theorem dX9_alter_21 : decode cX9_alter 21 = .ok (.aload_n 0, 1) := by decide +kernel
theorem dX9_alter_22 : decode cX9_alter 22 = .ok (.iload_n 3, 1) := by decide +kernel
theorem dX9_alter_23 : decode cX9_alter 23 = .ok (.invokevirtual 226, 3) := by decide +kernel
theorem dX9_alter_26 : decode cX9_alter 26 = .ok (.goto 25, 3) := by decide +kernel
theorem dX9_alter_29 : decode cX9_alter 29 = .ok (.iload_n 2, 1) := by decide +kernel
theorem dX9_alter_30 : decode cX9_alter 30 = .ok (.iconst 2, 1) := by decide +kernel
theorem dX9_alter_31 : decode cX9_alter 31 = .ok (.if_icmp .ne 19, 3) := by decide +kernel
theorem dX9_alter_34 : decode cX9_alter 34 = .ok (.iload_n 3, 1) := by decide +kernel
theorem dX9_alter_35 : decode cX9_alter 35 = .ok (.i2l, 1) := by decide +kernel
theorem dX9_alter_36 : decode cX9_alter 36 = .ok (.lconst 1, 1) := by decide +kernel
theorem dX9_alter_37 : decode cX9_alter 37 = .ok (.ldc2_w 235, 3) := by decide +kernel
theorem dX9_alter_40 : decode cX9_alter 40 = .ok (.invokestatic 78, 3) := by decide +kernel
theorem dX9_alter_43 : decode cX9_alter 43 = .ok (.ifCond .eq 7, 3) := by decide +kernel
theorem dX9_alter_46 : decode cX9_alter 46 = .ok (.iconst 1, 1) := by decide +kernel
theorem dX9_alter_47 : decode cX9_alter 47 = .ok (.goto 4, 3) := by decide +kernel
theorem dX9_alter_50 : decode cX9_alter 50 = .ok (.iconst 0, 1) := by decide +kernel
theorem dX9_alter_51 : decode cX9_alter 51 = .ok (.istore 4, 2) := by decide +kernel
theorem dX9_alter_53 : decode cX9_alter 53 = .ok (.aload_n 0, 1) := by decide +kernel
theorem dX9_alter_54 : decode cX9_alter 54 = .ok (.iload_n 1, 1) := by decide +kernel
theorem dX9_alter_55 : decode cX9_alter 55 = .ok (.invokevirtual 216, 3) := by decide +kernel
theorem dX9_alter_58 : decode cX9_alter 58 = .ok (.ifCond .eq 36, 3) := by decide +kernel
theorem dX9_alter_61 : decode cX9_alter 61 = .ok (.iload 4, 2) := by decide +kernel
theorem dX9_alter_63 : decode cX9_alter 63 = .ok (.ifCond .eq 31, 3) := by decide +kernel
theorem dX9_alter_66 : decode cX9_alter 66 = .ok (.aload_n 0, 1) := by decide +kernel
theorem dX9_alter_67 : decode cX9_alter 67 = .ok (.bipush 24, 2) := by decide +kernel
theorem dX9_alter_69 : decode cX9_alter 69 = .ok (.iconst 4, 1) := by decide +kernel
theorem dX9_alter_70 : decode cX9_alter 70 = .ok (.iload_n 1, 1) := by decide +kernel
theorem dX9_alter_71 : decode cX9_alter 71 = .ok (.imul, 1) := by decide +kernel
theorem dX9_alter_72 : decode cX9_alter 72 = .ok (.iadd, 1) := by decide +kernel
theorem dX9_alter_73 : decode cX9_alter 73 = .ok (.iload_n 2, 1) := by decide +kernel
theorem dX9_alter_74 : decode cX9_alter 74 = .ok (.iadd, 1) := by decide +kernel
theorem dX9_alter_75 : decode cX9_alter 75 = .ok (.iload_n 2, 1) := by decide +kernel
theorem dX9_alter_76 : decode cX9_alter 76 = .ok (.iconst 1, 1) := by decide +kernel
theorem dX9_alter_77 : decode cX9_alter 77 = .ok (.if_icmp .ne 10, 3) := by decide +kernel
theorem dX9_alter_80 : decode cX9_alter 80 = .ok (.iload_n 3, 1) := by decide +kernel
theorem dX9_alter_81 : decode cX9_alter 81 = .ok (.invokestatic 229, 3) := by decide +kernel
theorem dX9_alter_84 : decode cX9_alter 84 = .ok (.goto 4, 3) := by decide +kernel
theorem dX9_alter_87 : decode cX9_alter 87 = .ok (.iload_n 3, 1) := by decide +kernel
theorem dX9_alter_88 : decode cX9_alter 88 = .ok (.invokevirtual 232, 3) := by decide +kernel
theorem dX9_alter_91 : decode cX9_alter 91 = .ok (.goto 4, 3) := by decide +kernel
theorem dX9_alter_94 : decode cX9_alter 94 = .ok (.iconst (-1), 1) := by decide +kernel
theorem dX9_alter_95 : decode cX9_alter 95 = .ok (.ireturn, 1) := by decide +kernel
theorem dX9_roll_0 : decode cX9_roll 0 = .ok (.iload_n 1, 1) := by decide +kernel
theorem dX9_roll_1 : decode cX9_roll 1 = .ok (.invokestatic 221, 3) := by decide +kernel
theorem dX9_roll_4 : decode cX9_roll 4 = .ok (.ifCond .eq 13, 3) := by decide +kernel
theorem dX9_roll_7 : decode cX9_roll 7 = .ok (.aload_n 0, 1) := by decide +kernel
theorem dX9_roll_8 : decode cX9_roll 8 = .ok (.bipush 40, 2) := by decide +kernel
theorem dX9_roll_10 : decode cX9_roll 10 = .ok (.iload_n 1, 1) := by decide +kernel
theorem dX9_roll_11 : decode cX9_roll 11 = .ok (.invokevirtual 232, 3) := by decide +kernel
theorem dX9_roll_14 : decode cX9_roll 14 = .ok (.goto 4, 3) := by decide +kernel
theorem dX9_roll_17 : decode cX9_roll 17 = .ok (.iconst (-1), 1) := by decide +kernel
theorem dX9_roll_18 : decode cX9_roll 18 = .ok (.ireturn, 1) := by decide +kernel
theorem dX9_forgets_0 : decode cX9_forgets 0 = .ok (.aload_n 0, 1) := by decide +kernel
theorem dX9_forgets_1 : decode cX9_forgets 1 = .ok (.iload_n 1, 1) := by decide +kernel
theorem dX9_forgets_2 : decode cX9_forgets 2 = .ok (.invokevirtual 216, 3) := by decide +kernel
theorem dX9_forgets_5 : decode cX9_forgets 5 = .ok (.ifCond .eq 22, 3) := by decide +kernel
theorem dX9_forgets_8 : decode cX9_forgets 8 = .ok (.aload_n 0, 1) := by decide +kernel
theorem dX9_forgets_9 : decode cX9_forgets 9 = .ok (.bipush 24, 2) := by decide +kernel
theorem dX9_forgets_11 : decode cX9_forgets 11 = .ok (.iconst 4, 1) := by decide +kernel
theorem dX9_forgets_12 : decode cX9_forgets 12 = .ok (.iload_n 1, 1) := by decide +kernel
theorem dX9_forgets_13 : decode cX9_forgets 13 = .ok (.imul, 1) := by decide +kernel
theorem dX9_forgets_14 : decode cX9_forgets 14 = .ok (.iadd, 1) := by decide +kernel
theorem dX9_forgets_15 : decode cX9_forgets 15 = .ok (.iconst 3, 1) := by decide +kernel
theorem dX9_forgets_16 : decode cX9_forgets 16 = .ok (.iadd, 1) := by decide +kernel
theorem dX9_forgets_17 : decode cX9_forgets 17 = .ok (.iconst 0, 1) := by decide +kernel
theorem dX9_forgets_18 : decode cX9_forgets 18 = .ok (.invokevirtual 232, 3) := by decide +kernel
theorem dX9_forgets_21 : decode cX9_forgets 21 = .ok (.invokestatic 237, 3) := by decide +kernel
theorem dX9_forgets_24 : decode cX9_forgets 24 = .ok (.goto 4, 3) := by decide +kernel
theorem dX9_forgets_27 : decode cX9_forgets 27 = .ok (.iconst (-1), 1) := by decide +kernel
theorem dX9_forgets_28 : decode cX9_forgets 28 = .ok (.ireturn, 1) := by decide +kernel
theorem dX9_fetch_0 : decode cX9_fetch 0 = .ok (.aload_n 0, 1) := by decide +kernel
theorem dX9_fetch_1 : decode cX9_fetch 1 = .ok (.iload_n 1, 1) := by decide +kernel
theorem dX9_fetch_2 : decode cX9_fetch 2 = .ok (.invokevirtual 216, 3) := by decide +kernel
theorem dX9_fetch_5 : decode cX9_fetch 5 = .ok (.ifCond .eq 11, 3) := by decide +kernel
theorem dX9_fetch_8 : decode cX9_fetch 8 = .ok (.aload_n 0, 1) := by decide +kernel
theorem dX9_fetch_9 : decode cX9_fetch 9 = .ok (.iload_n 2, 1) := by decide +kernel
theorem dX9_fetch_10 : decode cX9_fetch 10 = .ok (.invokevirtual 210, 3) := by decide +kernel
theorem dX9_fetch_13 : decode cX9_fetch 13 = .ok (.ifCond .ne 5, 3) := by decide +kernel
theorem dX9_fetch_16 : decode cX9_fetch 16 = .ok (.iconst (-1), 1) := by decide +kernel
theorem dX9_fetch_17 : decode cX9_fetch 17 = .ok (.ireturn, 1) := by decide +kernel
theorem dX9_fetch_18 : decode cX9_fetch 18 = .ok (.aload_n 0, 1) := by decide +kernel
theorem dX9_fetch_19 : decode cX9_fetch 19 = .ok (.invokevirtual 204, 3) := by decide +kernel
theorem dX9_fetch_22 : decode cX9_fetch 22 = .ok (.aload_n 0, 1) := by decide +kernel
theorem dX9_fetch_23 : decode cX9_fetch 23 = .ok (.iload_n 1, 1) := by decide +kernel
theorem dX9_fetch_24 : decode cX9_fetch 24 = .ok (.iload_n 2, 1) := by decide +kernel
theorem dX9_fetch_25 : decode cX9_fetch 25 = .ok (.invokevirtual 181, 3) := by decide +kernel
theorem dX9_fetch_28 : decode cX9_fetch 28 = .ok (.ifCond .eq 6, 3) := by decide +kernel
theorem dX9_fetch_31 : decode cX9_fetch 31 = .ok (.bipush (-2), 2) := by decide +kernel
theorem dX9_fetch_33 : decode cX9_fetch 33 = .ok (.ireturn, 1) := by decide +kernel
theorem dX9_fetch_34 : decode cX9_fetch 34 = .ok (.aload_n 0, 1) := by decide +kernel
theorem dX9_fetch_35 : decode cX9_fetch 35 = .ok (.invokevirtual 194, 3) := by decide +kernel
theorem dX9_fetch_38 : decode cX9_fetch 38 = .ok (.aload_n 0, 1) := by decide +kernel
theorem dX9_fetch_39 : decode cX9_fetch 39 = .ok (.iload_n 1, 1) := by decide +kernel
theorem dX9_fetch_40 : decode cX9_fetch 40 = .ok (.iload_n 2, 1) := by decide +kernel
theorem dX9_fetch_41 : decode cX9_fetch 41 = .ok (.invokevirtual 187, 3) := by decide +kernel
theorem dX9_fetch_44 : decode cX9_fetch 44 = .ok (.aload_n 0, 1) := by decide +kernel
theorem dX9_fetch_45 : decode cX9_fetch 45 = .ok (.getfield 13, 3) := by decide +kernel
theorem dX9_fetch_48 : decode cX9_fetch 48 = .ok (.bipush 41, 2) := by decide +kernel
theorem dX9_fetch_50 : decode cX9_fetch 50 = .ok (.iaload, 1) := by decide +kernel
theorem dX9_fetch_51 : decode cX9_fetch 51 = .ok (.sipush 9999, 3) := by decide +kernel
theorem dX9_fetch_54 : decode cX9_fetch 54 = .ok (.if_icmp .le 6, 3) := by decide +kernel
theorem dX9_fetch_57 : decode cX9_fetch 57 = .ok (.bipush (-3), 2) := by decide +kernel
theorem dX9_fetch_59 : decode cX9_fetch 59 = .ok (.ireturn, 1) := by decide +kernel
theorem dX9_fetch_60 : decode cX9_fetch 60 = .ok (.aload_n 0, 1) := by decide +kernel
theorem dX9_fetch_61 : decode cX9_fetch 61 = .ok (.invokevirtual 240, 3) := by decide +kernel
theorem dX9_fetch_64 : decode cX9_fetch 64 = .ok (.aload_n 0, 1) := by decide +kernel
theorem dX9_fetch_65 : decode cX9_fetch 65 = .ok (.getfield 165, 3) := by decide +kernel
theorem dX9_fetch_68 : decode cX9_fetch 68 = .ok (.ireturn, 1) := by decide +kernel
theorem dX9_days_0 : decode cX9_days 0 = .ok (.iload_n 1, 1) := by decide +kernel
theorem dX9_days_1 : decode cX9_days 1 = .ok (.i2l, 1) := by decide +kernel
theorem dX9_days_2 : decode cX9_days 2 = .ok (.lconst 0, 1) := by decide +kernel
theorem dX9_days_3 : decode cX9_days 3 = .ok (.ldc2_w 243, 3) := by decide +kernel
theorem dX9_days_6 : decode cX9_days 6 = .ok (.invokestatic 78, 3) := by decide +kernel
theorem dX9_days_9 : decode cX9_days 9 = .ok (.ifCond .ne 5, 3) := by decide +kernel
theorem dX9_days_12 : decode cX9_days 12 = .ok (.iconst (-1), 1) := by decide +kernel
theorem dX9_days_13 : decode cX9_days 13 = .ok (.ireturn, 1) := by decide +kernel
theorem dX9_days_14 : decode cX9_days 14 = .ok (.aload_n 0, 1) := by decide +kernel
theorem dX9_days_15 : decode cX9_days 15 = .ok (.invokevirtual 204, 3) := by decide +kernel
theorem dX9_days_18 : decode cX9_days 18 = .ok (.aload_n 0, 1) := by decide +kernel
theorem dX9_days_19 : decode cX9_days 19 = .ok (.iload_n 1, 1) := by decide +kernel
theorem dX9_days_20 : decode cX9_days 20 = .ok (.invokevirtual 245, 3) := by decide +kernel
theorem dX9_days_23 : decode cX9_days 23 = .ok (.aload_n 0, 1) := by decide +kernel
theorem dX9_days_24 : decode cX9_days 24 = .ok (.getfield 13, 3) := by decide +kernel
theorem dX9_days_27 : decode cX9_days 27 = .ok (.bipush 42, 2) := by decide +kernel
theorem dX9_days_29 : decode cX9_days 29 = .ok (.iaload, 1) := by decide +kernel
theorem dX9_days_30 : decode cX9_days 30 = .ok (.sipush 999, 3) := by decide +kernel
theorem dX9_days_33 : decode cX9_days 33 = .ok (.if_icmp .gt 16, 3) := by decide +kernel
theorem dX9_days_36 : decode cX9_days 36 = .ok (.aload_n 0, 1) := by decide +kernel
theorem dX9_days_37 : decode cX9_days 37 = .ok (.getfield 13, 3) := by decide +kernel
theorem dX9_days_40 : decode cX9_days 40 = .ok (.bipush 41, 2) := by decide +kernel
theorem dX9_days_42 : decode cX9_days 42 = .ok (.iaload, 1) := by decide +kernel
theorem dX9_days_43 : decode cX9_days 43 = .ok (.sipush 9999, 3) := by decide +kernel
theorem dX9_days_46 : decode cX9_days 46 = .ok (.if_icmp .le 6, 3) := by decide +kernel
theorem dX9_days_49 : decode cX9_days 49 = .ok (.bipush (-3), 2) := by decide +kernel
theorem dX9_days_51 : decode cX9_days 51 = .ok (.ireturn, 1) := by decide +kernel
theorem dX9_days_52 : decode cX9_days 52 = .ok (.aload_n 0, 1) := by decide +kernel
theorem dX9_days_53 : decode cX9_days 53 = .ok (.invokevirtual 240, 3) := by decide +kernel
theorem dX9_days_56 : decode cX9_days 56 = .ok (.aload_n 0, 1) := by decide +kernel
theorem dX9_days_57 : decode cX9_days 57 = .ok (.getfield 162, 3) := by decide +kernel
theorem dX9_days_60 : decode cX9_days 60 = .ok (.ireturn, 1) := by decide +kernel
theorem dX9_isFar_0 : decode cX9_isFar 0 = .ok (.iload_n 0, 1) := by decide +kernel
theorem dX9_isFar_1 : decode cX9_isFar 1 = .ok (.i2l, 1) := by decide +kernel
theorem dX9_isFar_2 : decode cX9_isFar 2 = .ok (.lconst 0, 1) := by decide +kernel
theorem dX9_isFar_3 : decode cX9_isFar 3 = .ok (.ldc2_w 248, 3) := by decide +kernel
theorem dX9_isFar_6 : decode cX9_isFar 6 = .ok (.invokestatic 78, 3) := by decide +kernel
theorem dX9_isFar_9 : decode cX9_isFar 9 = .ok (.ireturn, 1) := by decide +kernel
theorem dX9_runs_0 : decode cX9_runs 0 = .ok (.iload_n 1, 1) := by decide +kernel
theorem dX9_runs_1 : decode cX9_runs 1 = .ok (.invokestatic 250, 3) := by decide +kernel
theorem dX9_runs_4 : decode cX9_runs 4 = .ok (.ifCond .eq 15, 3) := by decide +kernel
theorem dX9_runs_7 : decode cX9_runs 7 = .ok (.iload_n 2, 1) := by decide +kernel
theorem dX9_runs_8 : decode cX9_runs 8 = .ok (.i2l, 1) := by decide +kernel
theorem dX9_runs_9 : decode cX9_runs 9 = .ok (.lconst 0, 1) := by decide +kernel
theorem dX9_runs_10 : decode cX9_runs 10 = .ok (.ldc2_w 214, 3) := by decide +kernel
theorem dX9_runs_13 : decode cX9_runs 13 = .ok (.invokestatic 78, 3) := by decide +kernel
theorem dX9_runs_16 : decode cX9_runs 16 = .ok (.ifCond .ne 5, 3) := by decide +kernel
theorem dX9_runs_19 : decode cX9_runs 19 = .ok (.iconst (-1), 1) := by decide +kernel
theorem dX9_runs_20 : decode cX9_runs 20 = .ok (.ireturn, 1) := by decide +kernel
theorem dX9_runs_21 : decode cX9_runs 21 = .ok (.bipush (-4), 2) := by decide +kernel
theorem dX9_runs_23 : decode cX9_runs 23 = .ok (.istore_n 3, 1) := by decide +kernel
theorem dX9_runs_24 : decode cX9_runs 24 = .ok (.aload_n 0, 1) := by decide +kernel
theorem dX9_runs_25 : decode cX9_runs 25 = .ok (.invokevirtual 204, 3) := by decide +kernel
theorem dX9_runs_28 : decode cX9_runs 28 = .ok (.aload_n 0, 1) := by decide +kernel
theorem dX9_runs_29 : decode cX9_runs 29 = .ok (.invokevirtual 194, 3) := by decide +kernel
theorem dX9_runs_32 : decode cX9_runs 32 = .ok (.iconst 0, 1) := by decide +kernel
theorem dX9_runs_33 : decode cX9_runs 33 = .ok (.istore 4, 2) := by decide +kernel
theorem dX9_runs_35 : decode cX9_runs 35 = .ok (.iload 4, 2) := by decide +kernel
theorem dX9_runs_37 : decode cX9_runs 37 = .ok (.iload_n 1, 1) := by decide +kernel
theorem dX9_runs_38 : decode cX9_runs 38 = .ok (.if_icmp .gt 47, 3) := by decide +kernel
theorem dX9_runs_41 : decode cX9_runs 41 = .ok (.iload_n 3, 1) := by decide +kernel
theorem dX9_runs_42 : decode cX9_runs 42 = .ok (.bipush (-4), 2) := by decide +kernel
theorem dX9_runs_44 : decode cX9_runs 44 = .ok (.if_icmp .ne 23, 3) := by decide +kernel
theorem dX9_runs_47 : decode cX9_runs 47 = .ok (.aload_n 0, 1) := by decide +kernel
theorem dX9_runs_48 : decode cX9_runs 48 = .ok (.invokevirtual 207, 3) := by decide +kernel
theorem dX9_runs_51 : decode cX9_runs 51 = .ok (.iconst 1, 1) := by decide +kernel
theorem dX9_runs_52 : decode cX9_runs 52 = .ok (.aload_n 0, 1) := by decide +kernel
theorem dX9_runs_53 : decode cX9_runs 53 = .ok (.getfield 73, 3) := by decide +kernel
theorem dX9_runs_56 : decode cX9_runs 56 = .ok (.ishl, 1) := by decide +kernel
theorem dX9_runs_57 : decode cX9_runs 57 = .ok (.iconst 1, 1) := by decide +kernel
theorem dX9_runs_58 : decode cX9_runs 58 = .ok (.isub, 1) := by decide +kernel
end
section
theorem dX9_runs_59 : decode cX9_runs 59 = .ok (.if_icmp .ne 8, 3) := by decide +kernel
theorem dX9_runs_62 : decode cX9_runs 62 = .ok (.iload 4, 2) := by decide +kernel
theorem dX9_runs_64 : decode cX9_runs 64 = .ok (.goto 4, 3) := by decide +kernel
theorem dX9_runs_67 : decode cX9_runs 67 = .ok (.iload_n 3, 1) := by decide +kernel
theorem dX9_runs_68 : decode cX9_runs 68 = .ok (.istore_n 3, 1) := by decide +kernel
theorem dX9_runs_69 : decode cX9_runs 69 = .ok (.iload 4, 2) := by decide +kernel
theorem dX9_runs_71 : decode cX9_runs 71 = .ok (.iload_n 1, 1) := by decide +kernel
theorem dX9_runs_72 : decode cX9_runs 72 = .ok (.if_icmp .ge 7, 3) := by decide +kernel
theorem dX9_runs_75 : decode cX9_runs 75 = .ok (.aload_n 0, 1) := by decide +kernel
theorem dX9_runs_76 : decode cX9_runs 76 = .ok (.invokevirtual 197, 3) := by decide +kernel
theorem dX9_runs_79 : decode cX9_runs 79 = .ok (.iinc 4 1, 3) := by decide +kernel
theorem dX9_runs_82 : decode cX9_runs 82 = .ok (.goto (-47), 3) := by decide +kernel
theorem dX9_runs_85 : decode cX9_runs 85 = .ok (.iload_n 2, 1) := by decide +kernel
theorem dX9_runs_86 : decode cX9_runs 86 = .ok (.ifCond .ne 10, 3) := by decide +kernel
theorem dX9_runs_89 : decode cX9_runs 89 = .ok (.aload_n 0, 1) := by decide +kernel
theorem dX9_runs_90 : decode cX9_runs 90 = .ok (.getfield 162, 3) := by decide +kernel
theorem dX9_runs_93 : decode cX9_runs 93 = .ok (.goto 28, 3) := by decide +kernel
theorem dX9_runs_96 : decode cX9_runs 96 = .ok (.iload_n 2, 1) := by decide +kernel
theorem dX9_runs_97 : decode cX9_runs 97 = .ok (.iconst 1, 1) := by decide +kernel
theorem dX9_runs_98 : decode cX9_runs 98 = .ok (.if_icmp .ne 10, 3) := by decide +kernel
theorem dX9_runs_101 : decode cX9_runs 101 = .ok (.aload_n 0, 1) := by decide +kernel
theorem dX9_runs_102 : decode cX9_runs 102 = .ok (.getfield 165, 3) := by decide +kernel
theorem dX9_runs_105 : decode cX9_runs 105 = .ok (.goto 16, 3) := by decide +kernel
theorem dX9_runs_108 : decode cX9_runs 108 = .ok (.iload_n 2, 1) := by decide +kernel
theorem dX9_runs_109 : decode cX9_runs 109 = .ok (.iconst 2, 1) := by decide +kernel
theorem dX9_runs_110 : decode cX9_runs 110 = .ok (.if_icmp .ne 10, 3) := by decide +kernel
theorem dX9_runs_113 : decode cX9_runs 113 = .ok (.aload_n 0, 1) := by decide +kernel
theorem dX9_runs_114 : decode cX9_runs 114 = .ok (.getfield 168, 3) := by decide +kernel
theorem dX9_runs_117 : decode cX9_runs 117 = .ok (.goto 4, 3) := by decide +kernel
theorem dX9_runs_120 : decode cX9_runs 120 = .ok (.iload_n 3, 1) := by decide +kernel
theorem dX9_runs_121 : decode cX9_runs 121 = .ok (.ireturn, 1) := by decide +kernel
theorem dX9_ahead_0 : decode cX9_ahead 0 = .ok (.aload_n 0, 1) := by decide +kernel
theorem dX9_ahead_1 : decode cX9_ahead 1 = .ok (.iload_n 1, 1) := by decide +kernel
theorem dX9_ahead_2 : decode cX9_ahead 2 = .ok (.invokevirtual 216, 3) := by decide +kernel
theorem dX9_ahead_5 : decode cX9_ahead 5 = .ok (.ifCond .eq 17, 3) := by decide +kernel
theorem dX9_ahead_8 : decode cX9_ahead 8 = .ok (.iload_n 2, 1) := by decide +kernel
theorem dX9_ahead_9 : decode cX9_ahead 9 = .ok (.invokestatic 250, 3) := by decide +kernel
theorem dX9_ahead_12 : decode cX9_ahead 12 = .ok (.ifCond .eq 10, 3) := by decide +kernel
theorem dX9_ahead_15 : decode cX9_ahead 15 = .ok (.iload_n 3, 1) := by decide +kernel
theorem dX9_ahead_16 : decode cX9_ahead 16 = .ok (.invokestatic 253, 3) := by decide +kernel
theorem dX9_ahead_19 : decode cX9_ahead 19 = .ok (.ifCond .ne 5, 3) := by decide +kernel
theorem dX9_ahead_22 : decode cX9_ahead 22 = .ok (.iconst (-1), 1) := by decide +kernel
theorem dX9_ahead_23 : decode cX9_ahead 23 = .ok (.ireturn, 1) := by decide +kernel
theorem dX9_ahead_24 : decode cX9_ahead 24 = .ok (.aload_n 0, 1) := by decide +kernel
theorem dX9_ahead_25 : decode cX9_ahead 25 = .ok (.invokevirtual 204, 3) := by decide +kernel
theorem dX9_ahead_28 : decode cX9_ahead 28 = .ok (.aload_n 0, 1) := by decide +kernel
theorem dX9_ahead_29 : decode cX9_ahead 29 = .ok (.iload_n 2, 1) := by decide +kernel
theorem dX9_ahead_30 : decode cX9_ahead 30 = .ok (.invokevirtual 245, 3) := by decide +kernel
theorem dX9_ahead_33 : decode cX9_ahead 33 = .ok (.iload_n 3, 1) := by decide +kernel
theorem dX9_ahead_34 : decode cX9_ahead 34 = .ok (.ifCond .ne 12, 3) := by decide +kernel
theorem dX9_ahead_37 : decode cX9_ahead 37 = .ok (.aload_n 0, 1) := by decide +kernel
theorem dX9_ahead_38 : decode cX9_ahead 38 = .ok (.iload_n 1, 1) := by decide +kernel
theorem dX9_ahead_39 : decode cX9_ahead 39 = .ok (.iconst 1, 1) := by decide +kernel
theorem dX9_ahead_40 : decode cX9_ahead 40 = .ok (.invokevirtual 153, 3) := by decide +kernel
theorem dX9_ahead_43 : decode cX9_ahead 43 = .ok (.goto 9, 3) := by decide +kernel
theorem dX9_ahead_46 : decode cX9_ahead 46 = .ok (.aload_n 0, 1) := by decide +kernel
theorem dX9_ahead_47 : decode cX9_ahead 47 = .ok (.iload_n 1, 1) := by decide +kernel
theorem dX9_ahead_48 : decode cX9_ahead 48 = .ok (.iconst 3, 1) := by decide +kernel
theorem dX9_ahead_49 : decode cX9_ahead 49 = .ok (.invokevirtual 153, 3) := by decide +kernel
theorem dX9_ahead_52 : decode cX9_ahead 52 = .ok (.ireturn, 1) := by decide +kernel
theorem dX9_daysTo_0 : decode cX9_daysTo 0 = .ok (.iconst 0, 1) := by decide +kernel
theorem dX9_daysTo_1 : decode cX9_daysTo 1 = .ok (.istore_n 2, 1) := by decide +kernel
theorem dX9_daysTo_2 : decode cX9_daysTo 2 = .ok (.iload_n 2, 1) := by decide +kernel
theorem dX9_daysTo_3 : decode cX9_daysTo 3 = .ok (.bipush 60, 2) := by decide +kernel
theorem dX9_daysTo_5 : decode cX9_daysTo 5 = .ok (.if_icmp .gt 26, 3) := by decide +kernel
theorem dX9_daysTo_8 : decode cX9_daysTo 8 = .ok (.aload_n 0, 1) := by decide +kernel
theorem dX9_daysTo_9 : decode cX9_daysTo 9 = .ok (.iload_n 1, 1) := by decide +kernel
theorem dX9_daysTo_10 : decode cX9_daysTo 10 = .ok (.iconst 1, 1) := by decide +kernel
theorem dX9_daysTo_11 : decode cX9_daysTo 11 = .ok (.invokevirtual 153, 3) := by decide +kernel
theorem dX9_daysTo_14 : decode cX9_daysTo 14 = .ok (.bipush (-4), 2) := by decide +kernel
theorem dX9_daysTo_16 : decode cX9_daysTo 16 = .ok (.if_icmp .ne 5, 3) := by decide +kernel
theorem dX9_daysTo_19 : decode cX9_daysTo 19 = .ok (.iload_n 2, 1) := by decide +kernel
theorem dX9_daysTo_20 : decode cX9_daysTo 20 = .ok (.ireturn, 1) := by decide +kernel
theorem dX9_daysTo_21 : decode cX9_daysTo 21 = .ok (.aload_n 0, 1) := by decide +kernel
theorem dX9_daysTo_22 : decode cX9_daysTo 22 = .ok (.invokevirtual 197, 3) := by decide +kernel
theorem dX9_daysTo_25 : decode cX9_daysTo 25 = .ok (.iinc 2 1, 3) := by decide +kernel
theorem dX9_daysTo_28 : decode cX9_daysTo 28 = .ok (.goto (-26), 3) := by decide +kernel
theorem dX9_daysTo_31 : decode cX9_daysTo 31 = .ok (.bipush (-4), 2) := by decide +kernel
theorem dX9_daysTo_33 : decode cX9_daysTo 33 = .ok (.ireturn, 1) := by decide +kernel
theorem dX9_done_0 : decode cX9_done 0 = .ok (.aload_n 0, 1) := by decide +kernel
theorem dX9_done_1 : decode cX9_done 1 = .ok (.iload_n 1, 1) := by decide +kernel
theorem dX9_done_2 : decode cX9_done 2 = .ok (.invokevirtual 216, 3) := by decide +kernel
theorem dX9_done_5 : decode cX9_done 5 = .ok (.ifCond .ne 5, 3) := by decide +kernel
theorem dX9_done_8 : decode cX9_done 8 = .ok (.iconst (-1), 1) := by decide +kernel
theorem dX9_done_9 : decode cX9_done 9 = .ok (.ireturn, 1) := by decide +kernel
theorem dX9_done_10 : decode cX9_done 10 = .ok (.aload_n 0, 1) := by decide +kernel
theorem dX9_done_11 : decode cX9_done 11 = .ok (.invokevirtual 204, 3) := by decide +kernel
theorem dX9_done_14 : decode cX9_done 14 = .ok (.aload_n 0, 1) := by decide +kernel
theorem dX9_done_15 : decode cX9_done 15 = .ok (.iload_n 1, 1) := by decide +kernel
theorem dX9_done_16 : decode cX9_done 16 = .ok (.invokevirtual 256, 3) := by decide +kernel
theorem dX9_done_19 : decode cX9_done 19 = .ok (.ireturn, 1) := by decide +kernel
theorem dX9_vertigo_0 : decode cX9_vertigo 0 = .ok (.aload_n 0, 1) := by decide +kernel
theorem dX9_vertigo_1 : decode cX9_vertigo 1 = .ok (.iload_n 1, 1) := by decide +kernel
theorem dX9_vertigo_2 : decode cX9_vertigo 2 = .ok (.invokevirtual 216, 3) := by decide +kernel
theorem dX9_vertigo_5 : decode cX9_vertigo 5 = .ok (.ifCond .ne 5, 3) := by decide +kernel
theorem dX9_vertigo_8 : decode cX9_vertigo 8 = .ok (.iconst (-1), 1) := by decide +kernel
theorem dX9_vertigo_9 : decode cX9_vertigo 9 = .ok (.ireturn, 1) := by decide +kernel
theorem dX9_vertigo_10 : decode cX9_vertigo 10 = .ok (.aload_n 0, 1) := by decide +kernel
theorem dX9_vertigo_11 : decode cX9_vertigo 11 = .ok (.invokevirtual 204, 3) := by decide +kernel
theorem dX9_vertigo_14 : decode cX9_vertigo 14 = .ok (.aload_n 0, 1) := by decide +kernel
theorem dX9_vertigo_15 : decode cX9_vertigo 15 = .ok (.iload_n 1, 1) := by decide +kernel
theorem dX9_vertigo_16 : decode cX9_vertigo 16 = .ok (.invokevirtual 191, 3) := by decide +kernel
theorem dX9_vertigo_19 : decode cX9_vertigo 19 = .ok (.aload_n 0, 1) := by decide +kernel
theorem dX9_vertigo_20 : decode cX9_vertigo 20 = .ok (.getfield 178, 3) := by decide +kernel
theorem dX9_vertigo_23 : decode cX9_vertigo 23 = .ok (.ireturn, 1) := by decide +kernel
theorem dX9_isRow_0 : decode cX9_isRow 0 = .ok (.iload_n 1, 1) := by decide +kernel
theorem dX9_isRow_1 : decode cX9_isRow 1 = .ok (.istore_n 2, 1) := by decide +kernel
theorem dX9_isRow_2 : decode cX9_isRow 2 = .ok (.iconst 0, 1) := by decide +kernel
theorem dX9_isRow_3 : decode cX9_isRow 3 = .ok (.istore_n 3, 1) := by decide +kernel
theorem dX9_isRow_4 : decode cX9_isRow 4 = .ok (.aload_n 0, 1) := by decide +kernel
theorem dX9_isRow_5 : decode cX9_isRow 5 = .ok (.getfield 73, 3) := by decide +kernel
theorem dX9_isRow_8 : decode cX9_isRow 8 = .ok (.iconst 1, 1) := by decide +kernel
theorem dX9_isRow_9 : decode cX9_isRow 9 = .ok (.isub, 1) := by decide +kernel
theorem dX9_isRow_10 : decode cX9_isRow 10 = .ok (.istore 4, 2) := by decide +kernel
theorem dX9_isRow_12 : decode cX9_isRow 12 = .ok (.iload 4, 2) := by decide +kernel
theorem dX9_isRow_14 : decode cX9_isRow 14 = .ok (.ifCond .lt 35, 3) := by decide +kernel
theorem dX9_isRow_17 : decode cX9_isRow 17 = .ok (.aload_n 0, 1) := by decide +kernel
theorem dX9_isRow_18 : decode cX9_isRow 18 = .ok (.getfield 26, 3) := by decide +kernel
theorem dX9_isRow_21 : decode cX9_isRow 21 = .ok (.iload 4, 2) := by decide +kernel
theorem dX9_isRow_23 : decode cX9_isRow 23 = .ok (.iload_n 2, 1) := by decide +kernel
theorem dX9_isRow_24 : decode cX9_isRow 24 = .ok (.iconst 4, 1) := by decide +kernel
theorem dX9_isRow_25 : decode cX9_isRow 25 = .ok (.irem, 1) := by decide +kernel
theorem dX9_isRow_26 : decode cX9_isRow 26 = .ok (.iastore, 1) := by decide +kernel
theorem dX9_isRow_27 : decode cX9_isRow 27 = .ok (.iload_n 2, 1) := by decide +kernel
theorem dX9_isRow_28 : decode cX9_isRow 28 = .ok (.iconst 4, 1) := by decide +kernel
theorem dX9_isRow_29 : decode cX9_isRow 29 = .ok (.idiv, 1) := by decide +kernel
theorem dX9_isRow_30 : decode cX9_isRow 30 = .ok (.istore_n 2, 1) := by decide +kernel
theorem dX9_isRow_31 : decode cX9_isRow 31 = .ok (.iload_n 3, 1) := by decide +kernel
theorem dX9_isRow_32 : decode cX9_isRow 32 = .ok (.iconst 1, 1) := by decide +kernel
theorem dX9_isRow_33 : decode cX9_isRow 33 = .ok (.aload_n 0, 1) := by decide +kernel
theorem dX9_isRow_34 : decode cX9_isRow 34 = .ok (.getfield 26, 3) := by decide +kernel
theorem dX9_isRow_37 : decode cX9_isRow 37 = .ok (.iload 4, 2) := by decide +kernel
theorem dX9_isRow_39 : decode cX9_isRow 39 = .ok (.iaload, 1) := by decide +kernel
theorem dX9_isRow_40 : decode cX9_isRow 40 = .ok (.ishl, 1) := by decide +kernel
theorem dX9_isRow_41 : decode cX9_isRow 41 = .ok (.ior, 1) := by decide +kernel
theorem dX9_isRow_42 : decode cX9_isRow 42 = .ok (.istore_n 3, 1) := by decide +kernel
theorem dX9_isRow_43 : decode cX9_isRow 43 = .ok (.iinc 4 (-1), 3) := by decide +kernel
theorem dX9_isRow_46 : decode cX9_isRow 46 = .ok (.goto (-34), 3) := by decide +kernel
theorem dX9_isRow_49 : decode cX9_isRow 49 = .ok (.iload_n 3, 1) := by decide +kernel
theorem dX9_isRow_50 : decode cX9_isRow 50 = .ok (.iconst 1, 1) := by decide +kernel
theorem dX9_isRow_51 : decode cX9_isRow 51 = .ok (.aload_n 0, 1) := by decide +kernel
theorem dX9_isRow_52 : decode cX9_isRow 52 = .ok (.getfield 73, 3) := by decide +kernel
theorem dX9_isRow_55 : decode cX9_isRow 55 = .ok (.ishl, 1) := by decide +kernel
theorem dX9_isRow_56 : decode cX9_isRow 56 = .ok (.iconst 1, 1) := by decide +kernel
theorem dX9_isRow_57 : decode cX9_isRow 57 = .ok (.isub, 1) := by decide +kernel
theorem dX9_isRow_58 : decode cX9_isRow 58 = .ok (.if_icmp .ne 7, 3) := by decide +kernel
theorem dX9_isRow_61 : decode cX9_isRow 61 = .ok (.iconst 1, 1) := by decide +kernel
theorem dX9_isRow_62 : decode cX9_isRow 62 = .ok (.goto 4, 3) := by decide +kernel
theorem dX9_isRow_65 : decode cX9_isRow 65 = .ok (.iconst 0, 1) := by decide +kernel
theorem dX9_isRow_66 : decode cX9_isRow 66 = .ok (.ireturn, 1) := by decide +kernel
theorem dX9_minutesByRow_0 : decode cX9_minutesByRow 0 = .ok (.aload_n 0, 1) := by decide +kernel
theorem dX9_minutesByRow_1 : decode cX9_minutesByRow 1 = .ok (.invokevirtual 204, 3) := by decide +kernel
theorem dX9_minutesByRow_4 : decode cX9_minutesByRow 4 = .ok (.aload_n 0, 1) := by decide +kernel
theorem dX9_minutesByRow_5 : decode cX9_minutesByRow 5 = .ok (.invokevirtual 194, 3) := by decide +kernel
theorem dX9_minutesByRow_8 : decode cX9_minutesByRow 8 = .ok (.iconst 0, 1) := by decide +kernel
theorem dX9_minutesByRow_9 : decode cX9_minutesByRow 9 = .ok (.istore_n 1, 1) := by decide +kernel
theorem dX9_minutesByRow_10 : decode cX9_minutesByRow 10 = .ok (.iload_n 1, 1) := by decide +kernel
theorem dX9_minutesByRow_11 : decode cX9_minutesByRow 11 = .ok (.aload_n 0, 1) := by decide +kernel
theorem dX9_minutesByRow_12 : decode cX9_minutesByRow 12 = .ok (.getfield 73, 3) := by decide +kernel
theorem dX9_minutesByRow_15 : decode cX9_minutesByRow 15 = .ok (.if_icmp .ge 19, 3) := by decide +kernel
theorem dX9_minutesByRow_18 : decode cX9_minutesByRow 18 = .ok (.aload_n 0, 1) := by decide +kernel
theorem dX9_minutesByRow_19 : decode cX9_minutesByRow 19 = .ok (.aload_n 0, 1) := by decide +kernel
theorem dX9_minutesByRow_20 : decode cX9_minutesByRow 20 = .ok (.getfield 26, 3) := by decide +kernel
theorem dX9_minutesByRow_23 : decode cX9_minutesByRow 23 = .ok (.iload_n 1, 1) := by decide +kernel
theorem dX9_minutesByRow_24 : decode cX9_minutesByRow 24 = .ok (.iaload, 1) := by decide +kernel
theorem dX9_minutesByRow_25 : decode cX9_minutesByRow 25 = .ok (.invokevirtual 191, 3) := by decide +kernel
theorem dX9_minutesByRow_28 : decode cX9_minutesByRow 28 = .ok (.iinc 1 1, 3) := by decide +kernel
theorem dX9_minutesByRow_31 : decode cX9_minutesByRow 31 = .ok (.goto (-21), 3) := by decide +kernel
theorem dX9_minutesByRow_34 : decode cX9_minutesByRow 34 = .ok (.aload_n 0, 1) := by decide +kernel
theorem dX9_minutesByRow_35 : decode cX9_minutesByRow 35 = .ok (.getfield 165, 3) := by decide +kernel
theorem dX9_minutesByRow_38 : decode cX9_minutesByRow 38 = .ok (.ireturn, 1) := by decide +kernel
theorem dX9_findOrder_0 : decode cX9_findOrder 0 = .ok (.iconst 1, 1) := by decide +kernel
theorem dX9_findOrder_1 : decode cX9_findOrder 1 = .ok (.istore_n 1, 1) := by decide +kernel
theorem dX9_findOrder_2 : decode cX9_findOrder 2 = .ok (.ldc_w 259, 3) := by decide +kernel
theorem dX9_findOrder_5 : decode cX9_findOrder 5 = .ok (.istore_n 2, 1) := by decide +kernel
theorem dX9_findOrder_6 : decode cX9_findOrder 6 = .ok (.iconst 0, 1) := by decide +kernel
theorem dX9_findOrder_7 : decode cX9_findOrder 7 = .ok (.istore_n 3, 1) := by decide +kernel
theorem dX9_findOrder_8 : decode cX9_findOrder 8 = .ok (.iload_n 3, 1) := by decide +kernel
theorem dX9_findOrder_9 : decode cX9_findOrder 9 = .ok (.aload_n 0, 1) := by decide +kernel
theorem dX9_findOrder_10 : decode cX9_findOrder 10 = .ok (.getfield 73, 3) := by decide +kernel
theorem dX9_findOrder_13 : decode cX9_findOrder 13 = .ok (.if_icmp .ge 13, 3) := by decide +kernel
theorem dX9_findOrder_16 : decode cX9_findOrder 16 = .ok (.iload_n 1, 1) := by decide +kernel
theorem dX9_findOrder_17 : decode cX9_findOrder 17 = .ok (.iconst 4, 1) := by decide +kernel
theorem dX9_findOrder_18 : decode cX9_findOrder 18 = .ok (.imul, 1) := by decide +kernel
theorem dX9_findOrder_19 : decode cX9_findOrder 19 = .ok (.istore_n 1, 1) := by decide +kernel
theorem dX9_findOrder_20 : decode cX9_findOrder 20 = .ok (.iinc 3 1, 3) := by decide +kernel
theorem dX9_findOrder_23 : decode cX9_findOrder 23 = .ok (.goto (-15), 3) := by decide +kernel
theorem dX9_findOrder_26 : decode cX9_findOrder 26 = .ok (.iconst 0, 1) := by decide +kernel
theorem dX9_findOrder_27 : decode cX9_findOrder 27 = .ok (.istore_n 3, 1) := by decide +kernel
theorem dX9_findOrder_28 : decode cX9_findOrder 28 = .ok (.iload_n 3, 1) := by decide +kernel
theorem dX9_findOrder_29 : decode cX9_findOrder 29 = .ok (.iload_n 1, 1) := by decide +kernel
theorem dX9_findOrder_30 : decode cX9_findOrder 30 = .ok (.if_icmp .ge 70, 3) := by decide +kernel
theorem dX9_findOrder_33 : decode cX9_findOrder 33 = .ok (.aload_n 0, 1) := by decide +kernel
theorem dX9_findOrder_34 : decode cX9_findOrder 34 = .ok (.iload_n 3, 1) := by decide +kernel
theorem dX9_findOrder_35 : decode cX9_findOrder 35 = .ok (.invokevirtual 260, 3) := by decide +kernel
theorem dX9_findOrder_38 : decode cX9_findOrder 38 = .ok (.ifCond .eq 10, 3) := by decide +kernel
theorem dX9_findOrder_41 : decode cX9_findOrder 41 = .ok (.aload_n 0, 1) := by decide +kernel
theorem dX9_findOrder_42 : decode cX9_findOrder 42 = .ok (.invokevirtual 263, 3) := by decide +kernel
theorem dX9_findOrder_45 : decode cX9_findOrder 45 = .ok (.goto 6, 3) := by decide +kernel
theorem dX9_findOrder_48 : decode cX9_findOrder 48 = .ok (.ldc_w 259, 3) := by decide +kernel
theorem dX9_findOrder_51 : decode cX9_findOrder 51 = .ok (.istore 4, 2) := by decide +kernel
theorem dX9_findOrder_53 : decode cX9_findOrder 53 = .ok (.iload 4, 2) := by decide +kernel
theorem dX9_findOrder_55 : decode cX9_findOrder 55 = .ok (.iload_n 2, 1) := by decide +kernel
theorem dX9_findOrder_56 : decode cX9_findOrder 56 = .ok (.if_icmp .ge 38, 3) := by decide +kernel
theorem dX9_findOrder_59 : decode cX9_findOrder 59 = .ok (.iload 4, 2) := by decide +kernel
theorem dX9_findOrder_61 : decode cX9_findOrder 61 = .ok (.istore_n 2, 1) := by decide +kernel
theorem dX9_findOrder_62 : decode cX9_findOrder 62 = .ok (.iconst 0, 1) := by decide +kernel
theorem dX9_findOrder_63 : decode cX9_findOrder 63 = .ok (.istore 5, 2) := by decide +kernel
theorem dX9_findOrder_65 : decode cX9_findOrder 65 = .ok (.iload 5, 2) := by decide +kernel
theorem dX9_findOrder_67 : decode cX9_findOrder 67 = .ok (.aload_n 0, 1) := by decide +kernel
theorem dX9_findOrder_68 : decode cX9_findOrder 68 = .ok (.getfield 73, 3) := by decide +kernel
theorem dX9_findOrder_71 : decode cX9_findOrder 71 = .ok (.if_icmp .ge 23, 3) := by decide +kernel
theorem dX9_findOrder_74 : decode cX9_findOrder 74 = .ok (.aload_n 0, 1) := by decide +kernel
theorem dX9_findOrder_75 : decode cX9_findOrder 75 = .ok (.getfield 29, 3) := by decide +kernel
theorem dX9_findOrder_78 : decode cX9_findOrder 78 = .ok (.iload 5, 2) := by decide +kernel
theorem dX9_findOrder_80 : decode cX9_findOrder 80 = .ok (.aload_n 0, 1) := by decide +kernel
theorem dX9_findOrder_81 : decode cX9_findOrder 81 = .ok (.getfield 26, 3) := by decide +kernel
theorem dX9_findOrder_84 : decode cX9_findOrder 84 = .ok (.iload 5, 2) := by decide +kernel
theorem dX9_findOrder_86 : decode cX9_findOrder 86 = .ok (.iaload, 1) := by decide +kernel
theorem dX9_findOrder_87 : decode cX9_findOrder 87 = .ok (.iastore, 1) := by decide +kernel
theorem dX9_findOrder_88 : decode cX9_findOrder 88 = .ok (.iinc 5 1, 3) := by decide +kernel
theorem dX9_findOrder_91 : decode cX9_findOrder 91 = .ok (.goto (-26), 3) := by decide +kernel
theorem dX9_findOrder_94 : decode cX9_findOrder 94 = .ok (.iinc 3 1, 3) := by decide +kernel
theorem dX9_findOrder_97 : decode cX9_findOrder 97 = .ok (.goto (-69), 3) := by decide +kernel
theorem dX9_findOrder_100 : decode cX9_findOrder 100 = .ok (.iload_n 2, 1) := by decide +kernel
theorem dX9_findOrder_101 : decode cX9_findOrder 101 = .ok (.ireturn, 1) := by decide +kernel
theorem dX9_order_0 : decode cX9_order 0 = .ok (.iload_n 1, 1) := by decide +kernel
theorem dX9_order_1 : decode cX9_order 1 = .ok (.ifCond .eq 16, 3) := by decide +kernel
theorem dX9_order_4 : decode cX9_order 4 = .ok (.aload_n 0, 1) := by decide +kernel
theorem dX9_order_5 : decode cX9_order 5 = .ok (.iload_n 1, 1) := by decide +kernel
theorem dX9_order_6 : decode cX9_order 6 = .ok (.bipush 10, 2) := by decide +kernel
theorem dX9_order_8 : decode cX9_order 8 = .ok (.isub, 1) := by decide +kernel
theorem dX9_order_9 : decode cX9_order 9 = .ok (.invokevirtual 216, 3) := by decide +kernel
theorem dX9_order_12 : decode cX9_order 12 = .ok (.ifCond .ne 5, 3) := by decide +kernel
theorem dX9_order_15 : decode cX9_order 15 = .ok (.iconst (-1), 1) := by decide +kernel
theorem dX9_order_16 : decode cX9_order 16 = .ok (.ireturn, 1) := by decide +kernel
theorem dX9_order_17 : decode cX9_order 17 = .ok (.aload_n 0, 1) := by decide +kernel
theorem dX9_order_18 : decode cX9_order 18 = .ok (.invokevirtual 266, 3) := by decide +kernel
theorem dX9_order_21 : decode cX9_order 21 = .ok (.istore_n 2, 1) := by decide +kernel
theorem dX9_order_22 : decode cX9_order 22 = .ok (.iload_n 1, 1) := by decide +kernel
theorem dX9_order_23 : decode cX9_order 23 = .ok (.ifCond .ne 7, 3) := by decide +kernel
theorem dX9_order_26 : decode cX9_order 26 = .ok (.iload_n 2, 1) := by decide +kernel
theorem dX9_order_27 : decode cX9_order 27 = .ok (.goto 12, 3) := by decide +kernel
theorem dX9_order_30 : decode cX9_order 30 = .ok (.aload_n 0, 1) := by decide +kernel
theorem dX9_order_31 : decode cX9_order 31 = .ok (.getfield 29, 3) := by decide +kernel
theorem dX9_order_34 : decode cX9_order 34 = .ok (.iload_n 1, 1) := by decide +kernel
theorem dX9_order_35 : decode cX9_order 35 = .ok (.bipush 10, 2) := by decide +kernel
theorem dX9_order_37 : decode cX9_order 37 = .ok (.isub, 1) := by decide +kernel
theorem dX9_order_38 : decode cX9_order 38 = .ok (.iaload, 1) := by decide +kernel
theorem dX9_order_39 : decode cX9_order 39 = .ok (.ireturn, 1) := by decide +kernel
theorem dX9_start_0 : decode cX9_start 0 = .ok (.iload_n 1, 1) := by decide +kernel
theorem dX9_start_1 : decode cX9_start 1 = .ok (.invokestatic 250, 3) := by decide +kernel
theorem dX9_start_4 : decode cX9_start 4 = .ok (.ifCond .eq 10, 3) := by decide +kernel
theorem dX9_start_7 : decode cX9_start 7 = .ok (.iload_n 2, 1) := by decide +kernel
theorem dX9_start_8 : decode cX9_start 8 = .ok (.invokestatic 253, 3) := by decide +kernel
theorem dX9_start_11 : decode cX9_start 11 = .ok (.ifCond .ne 5, 3) := by decide +kernel
theorem dX9_start_14 : decode cX9_start 14 = .ok (.iconst (-1), 1) := by decide +kernel
theorem dX9_start_15 : decode cX9_start 15 = .ok (.ireturn, 1) := by decide +kernel
theorem dX9_start_16 : decode cX9_start 16 = .ok (.ldc_w 259, 3) := by decide +kernel
theorem dX9_start_19 : decode cX9_start 19 = .ok (.istore_n 3, 1) := by decide +kernel
theorem dX9_start_20 : decode cX9_start 20 = .ok (.iconst 0, 1) := by decide +kernel
theorem dX9_start_21 : decode cX9_start 21 = .ok (.istore 4, 2) := by decide +kernel
theorem dX9_start_23 : decode cX9_start 23 = .ok (.iconst 0, 1) := by decide +kernel
theorem dX9_start_24 : decode cX9_start 24 = .ok (.istore 5, 2) := by decide +kernel
theorem dX9_start_26 : decode cX9_start 26 = .ok (.iload 5, 2) := by decide +kernel
theorem dX9_start_28 : decode cX9_start 28 = .ok (.bipush 8, 2) := by decide +kernel
theorem dX9_start_30 : decode cX9_start 30 = .ok (.if_icmp .ge 53, 3) := by decide +kernel
theorem dX9_start_33 : decode cX9_start 33 = .ok (.aload_n 0, 1) := by decide +kernel
theorem dX9_start_34 : decode cX9_start 34 = .ok (.invokevirtual 204, 3) := by decide +kernel
theorem dX9_start_37 : decode cX9_start 37 = .ok (.aload_n 0, 1) := by decide +kernel
theorem dX9_start_38 : decode cX9_start 38 = .ok (.getfield 13, 3) := by decide +kernel
theorem dX9_start_41 : decode cX9_start 41 = .ok (.bipush 40, 2) := by decide +kernel
theorem dX9_start_43 : decode cX9_start 43 = .ok (.iload 5, 2) := by decide +kernel
theorem dX9_start_45 : decode cX9_start 45 = .ok (.iastore, 1) := by decide +kernel
theorem dX9_start_46 : decode cX9_start 46 = .ok (.aload_n 0, 1) := by decide +kernel
theorem dX9_start_47 : decode cX9_start 47 = .ok (.iload_n 1, 1) := by decide +kernel
theorem dX9_start_48 : decode cX9_start 48 = .ok (.invokevirtual 245, 3) := by decide +kernel
theorem dX9_start_51 : decode cX9_start 51 = .ok (.aload_n 0, 1) := by decide +kernel
theorem dX9_start_52 : decode cX9_start 52 = .ok (.getfield 165, 3) := by decide +kernel
theorem dX9_start_55 : decode cX9_start 55 = .ok (.iload_n 3, 1) := by decide +kernel
theorem dX9_start_56 : decode cX9_start 56 = .ok (.if_icmp .ge 8, 3) := by decide +kernel
theorem dX9_start_59 : decode cX9_start 59 = .ok (.iload 5, 2) := by decide +kernel
theorem dX9_start_61 : decode cX9_start 61 = .ok (.goto 5, 3) := by decide +kernel
theorem dX9_start_64 : decode cX9_start 64 = .ok (.iload 4, 2) := by decide +kernel
theorem dX9_start_66 : decode cX9_start 66 = .ok (.istore 4, 2) := by decide +kernel
theorem dX9_start_68 : decode cX9_start 68 = .ok (.aload_n 0, 1) := by decide +kernel
theorem dX9_start_69 : decode cX9_start 69 = .ok (.getfield 165, 3) := by decide +kernel
theorem dX9_start_72 : decode cX9_start 72 = .ok (.iload_n 3, 1) := by decide +kernel
theorem dX9_start_73 : decode cX9_start 73 = .ok (.invokestatic 269, 3) := by decide +kernel
theorem dX9_start_76 : decode cX9_start 76 = .ok (.istore_n 3, 1) := by decide +kernel
theorem dX9_start_77 : decode cX9_start 77 = .ok (.iinc 5 1, 3) := by decide +kernel
theorem dX9_start_80 : decode cX9_start 80 = .ok (.goto (-54), 3) := by decide +kernel
theorem dX9_start_83 : decode cX9_start 83 = .ok (.iload_n 2, 1) := by decide +kernel
theorem dX9_start_84 : decode cX9_start 84 = .ok (.ifCond .ne 8, 3) := by decide +kernel
theorem dX9_start_87 : decode cX9_start 87 = .ok (.iload 4, 2) := by decide +kernel
theorem dX9_start_89 : decode cX9_start 89 = .ok (.goto 4, 3) := by decide +kernel
theorem dX9_start_92 : decode cX9_start 92 = .ok (.iload_n 3, 1) := by decide +kernel
theorem dX9_start_93 : decode cX9_start 93 = .ok (.ireturn, 1) := by decide +kernel
theorem dX9_swap_0 : decode cX9_swap 0 = .ok (.iload_n 1, 1) := by decide +kernel
theorem dX9_swap_1 : decode cX9_swap 1 = .ok (.invokestatic 250, 3) := by decide +kernel
theorem dX9_swap_4 : decode cX9_swap 4 = .ok (.ifCond .eq 10, 3) := by decide +kernel
theorem dX9_swap_7 : decode cX9_swap 7 = .ok (.iload_n 2, 1) := by decide +kernel
theorem dX9_swap_8 : decode cX9_swap 8 = .ok (.invokestatic 253, 3) := by decide +kernel
theorem dX9_swap_11 : decode cX9_swap 11 = .ok (.ifCond .ne 5, 3) := by decide +kernel
theorem dX9_swap_14 : decode cX9_swap 14 = .ok (.iconst (-1), 1) := by decide +kernel
theorem dX9_swap_15 : decode cX9_swap 15 = .ok (.ireturn, 1) := by decide +kernel
theorem dX9_swap_16 : decode cX9_swap 16 = .ok (.aload_n 0, 1) := by decide +kernel
theorem dX9_swap_17 : decode cX9_swap 17 = .ok (.invokevirtual 204, 3) := by decide +kernel
theorem dX9_swap_20 : decode cX9_swap 20 = .ok (.aload_n 0, 1) := by decide +kernel
theorem dX9_swap_21 : decode cX9_swap 21 = .ok (.iload_n 1, 1) := by decide +kernel
theorem dX9_swap_22 : decode cX9_swap 22 = .ok (.invokevirtual 245, 3) := by decide +kernel
theorem dX9_swap_25 : decode cX9_swap 25 = .ok (.aload_n 0, 1) := by decide +kernel
theorem dX9_swap_26 : decode cX9_swap 26 = .ok (.getfield 162, 3) := by decide +kernel
theorem dX9_swap_29 : decode cX9_swap 29 = .ok (.istore_n 3, 1) := by decide +kernel
theorem dX9_swap_30 : decode cX9_swap 30 = .ok (.bipush (-4), 2) := by decide +kernel
theorem dX9_swap_32 : decode cX9_swap 32 = .ok (.istore 4, 2) := by decide +kernel
theorem dX9_swap_34 : decode cX9_swap 34 = .ok (.iconst 0, 1) := by decide +kernel
theorem dX9_swap_35 : decode cX9_swap 35 = .ok (.istore 5, 2) := by decide +kernel
theorem dX9_swap_37 : decode cX9_swap 37 = .ok (.iload 5, 2) := by decide +kernel
theorem dX9_swap_39 : decode cX9_swap 39 = .ok (.aload_n 0, 1) := by decide +kernel
theorem dX9_swap_40 : decode cX9_swap 40 = .ok (.getfield 70, 3) := by decide +kernel
theorem dX9_swap_43 : decode cX9_swap 43 = .ok (.if_icmp .ge 142, 3) := by decide +kernel
theorem dX9_swap_46 : decode cX9_swap 46 = .ok (.iload 5, 2) := by decide +kernel
theorem dX9_swap_48 : decode cX9_swap 48 = .ok (.iconst 1, 1) := by decide +kernel
theorem dX9_swap_49 : decode cX9_swap 49 = .ok (.iadd, 1) := by decide +kernel
theorem dX9_swap_50 : decode cX9_swap 50 = .ok (.istore 6, 2) := by decide +kernel
theorem dX9_swap_52 : decode cX9_swap 52 = .ok (.iload 6, 2) := by decide +kernel
theorem dX9_swap_54 : decode cX9_swap 54 = .ok (.aload_n 0, 1) := by decide +kernel
theorem dX9_swap_55 : decode cX9_swap 55 = .ok (.getfield 70, 3) := by decide +kernel
theorem dX9_swap_58 : decode cX9_swap 58 = .ok (.if_icmp .ge 121, 3) := by decide +kernel
theorem dX9_swap_61 : decode cX9_swap 61 = .ok (.aload_n 0, 1) := by decide +kernel
theorem dX9_swap_62 : decode cX9_swap 62 = .ok (.invokevirtual 204, 3) := by decide +kernel
theorem dX9_swap_65 : decode cX9_swap 65 = .ok (.iconst 0, 1) := by decide +kernel
theorem dX9_swap_66 : decode cX9_swap 66 = .ok (.istore 7, 2) := by decide +kernel
theorem dX9_swap_68 : decode cX9_swap 68 = .ok (.iload 7, 2) := by decide +kernel
theorem dX9_swap_70 : decode cX9_swap 70 = .ok (.iconst 1, 1) := by decide +kernel
theorem dX9_swap_71 : decode cX9_swap 71 = .ok (.if_icmp .gt 57, 3) := by decide +kernel
theorem dX9_swap_74 : decode cX9_swap 74 = .ok (.aload_n 0, 1) := by decide +kernel
theorem dX9_swap_75 : decode cX9_swap 75 = .ok (.getfield 13, 3) := by decide +kernel
theorem dX9_swap_78 : decode cX9_swap 78 = .ok (.iconst 3, 1) := by decide +kernel
theorem dX9_swap_79 : decode cX9_swap 79 = .ok (.iload 5, 2) := by decide +kernel
theorem dX9_swap_81 : decode cX9_swap 81 = .ok (.imul, 1) := by decide +kernel
theorem dX9_swap_82 : decode cX9_swap 82 = .ok (.iload 7, 2) := by decide +kernel
theorem dX9_swap_84 : decode cX9_swap 84 = .ok (.iadd, 1) := by decide +kernel
theorem dX9_swap_85 : decode cX9_swap 85 = .ok (.aload_n 0, 1) := by decide +kernel
theorem dX9_swap_86 : decode cX9_swap 86 = .ok (.getfield 7, 3) := by decide +kernel
theorem dX9_swap_89 : decode cX9_swap 89 = .ok (.iconst 3, 1) := by decide +kernel
theorem dX9_swap_90 : decode cX9_swap 90 = .ok (.iload 6, 2) := by decide +kernel
theorem dX9_swap_92 : decode cX9_swap 92 = .ok (.imul, 1) := by decide +kernel
theorem dX9_swap_93 : decode cX9_swap 93 = .ok (.iload 7, 2) := by decide +kernel
theorem dX9_swap_95 : decode cX9_swap 95 = .ok (.iadd, 1) := by decide +kernel
theorem dX9_swap_96 : decode cX9_swap 96 = .ok (.iaload, 1) := by decide +kernel
theorem dX9_swap_97 : decode cX9_swap 97 = .ok (.iastore, 1) := by decide +kernel
theorem dX9_swap_98 : decode cX9_swap 98 = .ok (.aload_n 0, 1) := by decide +kernel
theorem dX9_swap_99 : decode cX9_swap 99 = .ok (.getfield 13, 3) := by decide +kernel
theorem dX9_swap_102 : decode cX9_swap 102 = .ok (.iconst 3, 1) := by decide +kernel
theorem dX9_swap_103 : decode cX9_swap 103 = .ok (.iload 6, 2) := by decide +kernel
theorem dX9_swap_105 : decode cX9_swap 105 = .ok (.imul, 1) := by decide +kernel
theorem dX9_swap_106 : decode cX9_swap 106 = .ok (.iload 7, 2) := by decide +kernel
theorem dX9_swap_108 : decode cX9_swap 108 = .ok (.iadd, 1) := by decide +kernel
theorem dX9_swap_109 : decode cX9_swap 109 = .ok (.aload_n 0, 1) := by decide +kernel
theorem dX9_swap_110 : decode cX9_swap 110 = .ok (.getfield 7, 3) := by decide +kernel
theorem dX9_swap_113 : decode cX9_swap 113 = .ok (.iconst 3, 1) := by decide +kernel
theorem dX9_swap_114 : decode cX9_swap 114 = .ok (.iload 5, 2) := by decide +kernel
theorem dX9_swap_116 : decode cX9_swap 116 = .ok (.imul, 1) := by decide +kernel
theorem dX9_swap_117 : decode cX9_swap 117 = .ok (.iload 7, 2) := by decide +kernel
theorem dX9_swap_119 : decode cX9_swap 119 = .ok (.iadd, 1) := by decide +kernel
theorem dX9_swap_120 : decode cX9_swap 120 = .ok (.iaload, 1) := by decide +kernel
theorem dX9_swap_121 : decode cX9_swap 121 = .ok (.iastore, 1) := by decide +kernel
theorem dX9_swap_122 : decode cX9_swap 122 = .ok (.iinc 7 1, 3) := by decide +kernel
theorem dX9_swap_125 : decode cX9_swap 125 = .ok (.goto (-57), 3) := by decide +kernel
theorem dX9_swap_128 : decode cX9_swap 128 = .ok (.aload_n 0, 1) := by decide +kernel
theorem dX9_swap_129 : decode cX9_swap 129 = .ok (.iload_n 1, 1) := by decide +kernel
theorem dX9_swap_130 : decode cX9_swap 130 = .ok (.invokevirtual 245, 3) := by decide +kernel
theorem dX9_swap_133 : decode cX9_swap 133 = .ok (.aload_n 0, 1) := by decide +kernel
theorem dX9_swap_134 : decode cX9_swap 134 = .ok (.getfield 162, 3) := by decide +kernel
theorem dX9_swap_137 : decode cX9_swap 137 = .ok (.iload_n 3, 1) := by decide +kernel
theorem dX9_swap_138 : decode cX9_swap 138 = .ok (.if_icmp .le 14, 3) := by decide +kernel
theorem dX9_swap_141 : decode cX9_swap 141 = .ok (.bipush 10, 2) := by decide +kernel
theorem dX9_swap_143 : decode cX9_swap 143 = .ok (.iload 5, 2) := by decide +kernel
theorem dX9_swap_145 : decode cX9_swap 145 = .ok (.imul, 1) := by decide +kernel
theorem dX9_swap_146 : decode cX9_swap 146 = .ok (.iload 6, 2) := by decide +kernel
theorem dX9_swap_148 : decode cX9_swap 148 = .ok (.iadd, 1) := by decide +kernel
theorem dX9_swap_149 : decode cX9_swap 149 = .ok (.goto 5, 3) := by decide +kernel
theorem dX9_swap_152 : decode cX9_swap 152 = .ok (.iload 4, 2) := by decide +kernel
theorem dX9_swap_154 : decode cX9_swap 154 = .ok (.istore 4, 2) := by decide +kernel
theorem dX9_swap_156 : decode cX9_swap 156 = .ok (.aload_n 0, 1) := by decide +kernel
theorem dX9_swap_157 : decode cX9_swap 157 = .ok (.getfield 162, 3) := by decide +kernel
theorem dX9_swap_160 : decode cX9_swap 160 = .ok (.iload_n 3, 1) := by decide +kernel
theorem dX9_swap_161 : decode cX9_swap 161 = .ok (.if_icmp .le 10, 3) := by decide +kernel
theorem dX9_swap_164 : decode cX9_swap 164 = .ok (.aload_n 0, 1) := by decide +kernel
theorem dX9_swap_165 : decode cX9_swap 165 = .ok (.getfield 162, 3) := by decide +kernel
theorem dX9_swap_168 : decode cX9_swap 168 = .ok (.goto 4, 3) := by decide +kernel
theorem dX9_swap_171 : decode cX9_swap 171 = .ok (.iload_n 3, 1) := by decide +kernel
theorem dX9_swap_172 : decode cX9_swap 172 = .ok (.istore_n 3, 1) := by decide +kernel
theorem dX9_swap_173 : decode cX9_swap 173 = .ok (.iinc 6 1, 3) := by decide +kernel
theorem dX9_swap_176 : decode cX9_swap 176 = .ok (.goto (-124), 3) := by decide +kernel
theorem dX9_swap_179 : decode cX9_swap 179 = .ok (.iinc 5 1, 3) := by decide +kernel
theorem dX9_swap_182 : decode cX9_swap 182 = .ok (.goto (-145), 3) := by decide +kernel
theorem dX9_swap_185 : decode cX9_swap 185 = .ok (.iload 4, 2) := by decide +kernel
theorem dX9_swap_187 : decode cX9_swap 187 = .ok (.bipush (-4), 2) := by decide +kernel
theorem dX9_swap_189 : decode cX9_swap 189 = .ok (.if_icmp .ne 8, 3) := by decide +kernel
theorem dX9_swap_192 : decode cX9_swap 192 = .ok (.bipush (-4), 2) := by decide +kernel
theorem dX9_swap_194 : decode cX9_swap 194 = .ok (.goto 13, 3) := by decide +kernel
theorem dX9_swap_197 : decode cX9_swap 197 = .ok (.iload_n 2, 1) := by decide +kernel
theorem dX9_swap_198 : decode cX9_swap 198 = .ok (.ifCond .ne 8, 3) := by decide +kernel
theorem dX9_swap_201 : decode cX9_swap 201 = .ok (.iload 4, 2) := by decide +kernel
theorem dX9_swap_203 : decode cX9_swap 203 = .ok (.goto 4, 3) := by decide +kernel
theorem dX9_swap_206 : decode cX9_swap 206 = .ok (.iload_n 3, 1) := by decide +kernel
theorem dX9_swap_207 : decode cX9_swap 207 = .ok (.ireturn, 1) := by decide +kernel
theorem dX9_knee_0 : decode cX9_knee 0 = .ok (.aload_n 0, 1) := by decide +kernel
theorem dX9_knee_1 : decode cX9_knee 1 = .ok (.iload_n 1, 1) := by decide +kernel
theorem dX9_knee_2 : decode cX9_knee 2 = .ok (.invokevirtual 216, 3) := by decide +kernel
theorem dX9_knee_5 : decode cX9_knee 5 = .ok (.ifCond .eq 10, 3) := by decide +kernel
theorem dX9_knee_8 : decode cX9_knee 8 = .ok (.iload_n 2, 1) := by decide +kernel
theorem dX9_knee_9 : decode cX9_knee 9 = .ok (.invokestatic 253, 3) := by decide +kernel
theorem dX9_knee_12 : decode cX9_knee 12 = .ok (.ifCond .ne 5, 3) := by decide +kernel
theorem dX9_knee_15 : decode cX9_knee 15 = .ok (.iconst (-1), 1) := by decide +kernel
theorem dX9_knee_16 : decode cX9_knee 16 = .ok (.ireturn, 1) := by decide +kernel
theorem dX9_knee_17 : decode cX9_knee 17 = .ok (.ldc_w 259, 3) := by decide +kernel
theorem dX9_knee_20 : decode cX9_knee 20 = .ok (.istore_n 3, 1) := by decide +kernel
theorem dX9_knee_21 : decode cX9_knee 21 = .ok (.bipush (-4), 2) := by decide +kernel
theorem dX9_knee_23 : decode cX9_knee 23 = .ok (.istore 4, 2) := by decide +kernel
theorem dX9_knee_25 : decode cX9_knee 25 = .ok (.iconst 0, 1) := by decide +kernel
theorem dX9_knee_26 : decode cX9_knee 26 = .ok (.istore 5, 2) := by decide +kernel
theorem dX9_knee_28 : decode cX9_knee 28 = .ok (.iload 5, 2) := by decide +kernel
theorem dX9_knee_30 : decode cX9_knee 30 = .ok (.aload_n 0, 1) := by decide +kernel
theorem dX9_knee_31 : decode cX9_knee 31 = .ok (.getfield 70, 3) := by decide +kernel
theorem dX9_knee_34 : decode cX9_knee 34 = .ok (.if_icmp .ge 78, 3) := by decide +kernel
theorem dX9_knee_37 : decode cX9_knee 37 = .ok (.aload_n 0, 1) := by decide +kernel
theorem dX9_knee_38 : decode cX9_knee 38 = .ok (.invokevirtual 204, 3) := by decide +kernel
theorem dX9_knee_41 : decode cX9_knee 41 = .ok (.aload_n 0, 1) := by decide +kernel
theorem dX9_knee_42 : decode cX9_knee 42 = .ok (.getfield 13, 3) := by decide +kernel
theorem dX9_knee_45 : decode cX9_knee 45 = .ok (.iconst 3, 1) := by decide +kernel
theorem dX9_knee_46 : decode cX9_knee 46 = .ok (.iload 5, 2) := by decide +kernel
theorem dX9_knee_48 : decode cX9_knee 48 = .ok (.imul, 1) := by decide +kernel
theorem dX9_knee_49 : decode cX9_knee 49 = .ok (.iconst 1, 1) := by decide +kernel
theorem dX9_knee_50 : decode cX9_knee 50 = .ok (.iadd, 1) := by decide +kernel
theorem dX9_knee_51 : decode cX9_knee 51 = .ok (.iconst 0, 1) := by decide +kernel
theorem dX9_knee_52 : decode cX9_knee 52 = .ok (.iastore, 1) := by decide +kernel
theorem dX9_knee_53 : decode cX9_knee 53 = .ok (.aload_n 0, 1) := by decide +kernel
theorem dX9_knee_54 : decode cX9_knee 54 = .ok (.iload_n 1, 1) := by decide +kernel
theorem dX9_knee_55 : decode cX9_knee 55 = .ok (.invokevirtual 256, 3) := by decide +kernel
theorem dX9_knee_58 : decode cX9_knee 58 = .ok (.istore 6, 2) := by decide +kernel
theorem dX9_knee_60 : decode cX9_knee 60 = .ok (.iload 6, 2) := by decide +kernel
theorem dX9_knee_62 : decode cX9_knee 62 = .ok (.bipush (-4), 2) := by decide +kernel
theorem dX9_knee_64 : decode cX9_knee 64 = .ok (.if_icmp .eq 13, 3) := by decide +kernel
theorem dX9_knee_67 : decode cX9_knee 67 = .ok (.iload 6, 2) := by decide +kernel
theorem dX9_knee_69 : decode cX9_knee 69 = .ok (.iload_n 3, 1) := by decide +kernel
theorem dX9_knee_70 : decode cX9_knee 70 = .ok (.if_icmp .ge 7, 3) := by decide +kernel
theorem dX9_knee_73 : decode cX9_knee 73 = .ok (.iconst 1, 1) := by decide +kernel
theorem dX9_knee_74 : decode cX9_knee 74 = .ok (.goto 4, 3) := by decide +kernel
theorem dX9_knee_77 : decode cX9_knee 77 = .ok (.iconst 0, 1) := by decide +kernel
theorem dX9_knee_78 : decode cX9_knee 78 = .ok (.istore 7, 2) := by decide +kernel
theorem dX9_knee_80 : decode cX9_knee 80 = .ok (.iload 7, 2) := by decide +kernel
theorem dX9_knee_82 : decode cX9_knee 82 = .ok (.ifCond .eq 8, 3) := by decide +kernel
theorem dX9_knee_85 : decode cX9_knee 85 = .ok (.iload 5, 2) := by decide +kernel
theorem dX9_knee_87 : decode cX9_knee 87 = .ok (.goto 5, 3) := by decide +kernel
theorem dX9_knee_90 : decode cX9_knee 90 = .ok (.iload 4, 2) := by decide +kernel
theorem dX9_knee_92 : decode cX9_knee 92 = .ok (.istore 4, 2) := by decide +kernel
theorem dX9_knee_94 : decode cX9_knee 94 = .ok (.iload 7, 2) := by decide +kernel
theorem dX9_knee_96 : decode cX9_knee 96 = .ok (.ifCond .eq 8, 3) := by decide +kernel
theorem dX9_knee_99 : decode cX9_knee 99 = .ok (.iload 6, 2) := by decide +kernel
theorem dX9_knee_101 : decode cX9_knee 101 = .ok (.goto 4, 3) := by decide +kernel
theorem dX9_knee_104 : decode cX9_knee 104 = .ok (.iload_n 3, 1) := by decide +kernel
theorem dX9_knee_105 : decode cX9_knee 105 = .ok (.istore_n 3, 1) := by decide +kernel
theorem dX9_knee_106 : decode cX9_knee 106 = .ok (.iinc 5 1, 3) := by decide +kernel
theorem dX9_knee_109 : decode cX9_knee 109 = .ok (.goto (-81), 3) := by decide +kernel
theorem dX9_knee_112 : decode cX9_knee 112 = .ok (.iload 4, 2) := by decide +kernel
theorem dX9_knee_114 : decode cX9_knee 114 = .ok (.bipush (-4), 2) := by decide +kernel
theorem dX9_knee_116 : decode cX9_knee 116 = .ok (.if_icmp .ne 8, 3) := by decide +kernel
theorem dX9_knee_119 : decode cX9_knee 119 = .ok (.bipush (-4), 2) := by decide +kernel
theorem dX9_knee_121 : decode cX9_knee 121 = .ok (.goto 13, 3) := by decide +kernel
theorem dX9_knee_124 : decode cX9_knee 124 = .ok (.iload_n 2, 1) := by decide +kernel
theorem dX9_knee_125 : decode cX9_knee 125 = .ok (.ifCond .ne 8, 3) := by decide +kernel
theorem dX9_knee_128 : decode cX9_knee 128 = .ok (.iload 4, 2) := by decide +kernel
theorem dX9_knee_130 : decode cX9_knee 130 = .ok (.goto 4, 3) := by decide +kernel
theorem dX9_knee_133 : decode cX9_knee 133 = .ok (.iload_n 3, 1) := by decide +kernel
theorem dX9_knee_134 : decode cX9_knee 134 = .ok (.ireturn, 1) := by decide +kernel
theorem dX9_need_0 : decode cX9_need 0 = .ok (.aload_n 0, 1) := by decide +kernel
theorem dX9_need_1 : decode cX9_need 1 = .ok (.iload_n 1, 1) := by decide +kernel
theorem dX9_need_2 : decode cX9_need 2 = .ok (.invokevirtual 216, 3) := by decide +kernel
theorem dX9_need_5 : decode cX9_need 5 = .ok (.ifCond .eq 10, 3) := by decide +kernel
theorem dX9_need_8 : decode cX9_need 8 = .ok (.iload_n 2, 1) := by decide +kernel
theorem dX9_need_9 : decode cX9_need 9 = .ok (.invokestatic 250, 3) := by decide +kernel
theorem dX9_need_12 : decode cX9_need 12 = .ok (.ifCond .ne 5, 3) := by decide +kernel
theorem dX9_need_15 : decode cX9_need 15 = .ok (.iconst (-1), 1) := by decide +kernel
theorem dX9_need_16 : decode cX9_need 16 = .ok (.ireturn, 1) := by decide +kernel
theorem dX9_need_17 : decode cX9_need 17 = .ok (.iconst 1, 1) := by decide +kernel
theorem dX9_need_18 : decode cX9_need 18 = .ok (.istore_n 3, 1) := by decide +kernel
theorem dX9_need_19 : decode cX9_need 19 = .ok (.iload_n 3, 1) := by decide +kernel
theorem dX9_need_20 : decode cX9_need 20 = .ok (.bipush 99, 2) := by decide +kernel
theorem dX9_need_22 : decode cX9_need 22 = .ok (.if_icmp .gt 38, 3) := by decide +kernel
theorem dX9_need_25 : decode cX9_need 25 = .ok (.aload_n 0, 1) := by decide +kernel
theorem dX9_need_26 : decode cX9_need 26 = .ok (.invokevirtual 204, 3) := by decide +kernel
theorem dX9_need_29 : decode cX9_need 29 = .ok (.aload_n 0, 1) := by decide +kernel
theorem dX9_need_30 : decode cX9_need 30 = .ok (.iload_n 1, 1) := by decide +kernel
theorem dX9_need_31 : decode cX9_need 31 = .ok (.iconst 2, 1) := by decide +kernel
theorem dX9_need_32 : decode cX9_need 32 = .ok (.iload_n 3, 1) := by decide +kernel
theorem dX9_need_33 : decode cX9_need 33 = .ok (.invokevirtual 174, 3) := by decide +kernel
theorem dX9_need_36 : decode cX9_need 36 = .ok (.aload_n 0, 1) := by decide +kernel
theorem dX9_need_37 : decode cX9_need 37 = .ok (.iload_n 2, 1) := by decide +kernel
theorem dX9_need_38 : decode cX9_need 38 = .ok (.invokevirtual 245, 3) := by decide +kernel
theorem dX9_need_41 : decode cX9_need 41 = .ok (.aload_n 0, 1) := by decide +kernel
theorem dX9_need_42 : decode cX9_need 42 = .ok (.iload_n 1, 1) := by decide +kernel
theorem dX9_need_43 : decode cX9_need 43 = .ok (.iconst 1, 1) := by decide +kernel
theorem dX9_need_44 : decode cX9_need 44 = .ok (.invokevirtual 153, 3) := by decide +kernel
theorem dX9_need_47 : decode cX9_need 47 = .ok (.bipush (-4), 2) := by decide +kernel
theorem dX9_need_49 : decode cX9_need 49 = .ok (.if_icmp .ne 5, 3) := by decide +kernel
theorem dX9_need_52 : decode cX9_need 52 = .ok (.iload_n 3, 1) := by decide +kernel
theorem dX9_need_53 : decode cX9_need 53 = .ok (.ireturn, 1) := by decide +kernel
theorem dX9_need_54 : decode cX9_need 54 = .ok (.iinc 3 1, 3) := by decide +kernel
theorem dX9_need_57 : decode cX9_need 57 = .ok (.goto (-38), 3) := by decide +kernel
theorem dX9_need_60 : decode cX9_need 60 = .ok (.bipush (-4), 2) := by decide +kernel
theorem dX9_need_62 : decode cX9_need 62 = .ok (.ireturn, 1) := by decide +kernel
theorem dX9_high_0 : decode cX9_high 0 = .ok (.aload_n 0, 1) := by decide +kernel
theorem dX9_high_1 : decode cX9_high 1 = .ok (.iload_n 1, 1) := by decide +kernel
theorem dX9_high_2 : decode cX9_high 2 = .ok (.invokevirtual 210, 3) := by decide +kernel
theorem dX9_high_5 : decode cX9_high 5 = .ok (.ifCond .eq 18, 3) := by decide +kernel
theorem dX9_high_8 : decode cX9_high 8 = .ok (.aload_n 0, 1) := by decide +kernel
theorem dX9_high_9 : decode cX9_high 9 = .ok (.iload_n 2, 1) := by decide +kernel
theorem dX9_high_10 : decode cX9_high 10 = .ok (.invokevirtual 216, 3) := by decide +kernel
theorem dX9_high_13 : decode cX9_high 13 = .ok (.ifCond .eq 10, 3) := by decide +kernel
theorem dX9_high_16 : decode cX9_high 16 = .ok (.iload_n 3, 1) := by decide +kernel
theorem dX9_high_17 : decode cX9_high 17 = .ok (.invokestatic 250, 3) := by decide +kernel
theorem dX9_high_20 : decode cX9_high 20 = .ok (.ifCond .ne 5, 3) := by decide +kernel
theorem dX9_high_23 : decode cX9_high 23 = .ok (.iconst (-1), 1) := by decide +kernel
theorem dX9_high_24 : decode cX9_high 24 = .ok (.ireturn, 1) := by decide +kernel
theorem dX9_high_25 : decode cX9_high 25 = .ok (.bipush 9, 2) := by decide +kernel
theorem dX9_high_27 : decode cX9_high 27 = .ok (.istore 4, 2) := by decide +kernel
theorem dX9_high_29 : decode cX9_high 29 = .ok (.iload 4, 2) := by decide +kernel
theorem dX9_high_31 : decode cX9_high 31 = .ok (.ifCond .lt 42, 3) := by decide +kernel
theorem dX9_high_34 : decode cX9_high 34 = .ok (.aload_n 0, 1) := by decide +kernel
theorem dX9_high_35 : decode cX9_high 35 = .ok (.invokevirtual 204, 3) := by decide +kernel
theorem dX9_high_38 : decode cX9_high 38 = .ok (.aload_n 0, 1) := by decide +kernel
theorem dX9_high_39 : decode cX9_high 39 = .ok (.getfield 13, 3) := by decide +kernel
theorem dX9_high_42 : decode cX9_high 42 = .ok (.iconst 3, 1) := by decide +kernel
theorem dX9_high_43 : decode cX9_high 43 = .ok (.iload_n 1, 1) := by decide +kernel
theorem dX9_high_44 : decode cX9_high 44 = .ok (.imul, 1) := by decide +kernel
theorem dX9_high_45 : decode cX9_high 45 = .ok (.iconst 1, 1) := by decide +kernel
theorem dX9_high_46 : decode cX9_high 46 = .ok (.iadd, 1) := by decide +kernel
theorem dX9_high_47 : decode cX9_high 47 = .ok (.iload 4, 2) := by decide +kernel
theorem dX9_high_49 : decode cX9_high 49 = .ok (.iastore, 1) := by decide +kernel
theorem dX9_high_50 : decode cX9_high 50 = .ok (.aload_n 0, 1) := by decide +kernel
theorem dX9_high_51 : decode cX9_high 51 = .ok (.iload_n 3, 1) := by decide +kernel
theorem dX9_high_52 : decode cX9_high 52 = .ok (.invokevirtual 245, 3) := by decide +kernel
theorem dX9_high_55 : decode cX9_high 55 = .ok (.aload_n 0, 1) := by decide +kernel
theorem dX9_high_56 : decode cX9_high 56 = .ok (.iload_n 2, 1) := by decide +kernel
theorem dX9_high_57 : decode cX9_high 57 = .ok (.iload_n 1, 1) := by decide +kernel
theorem dX9_high_58 : decode cX9_high 58 = .ok (.invokevirtual 181, 3) := by decide +kernel
theorem dX9_high_61 : decode cX9_high 61 = .ok (.ifCond .eq 6, 3) := by decide +kernel
theorem dX9_high_64 : decode cX9_high 64 = .ok (.iload 4, 2) := by decide +kernel
theorem dX9_high_66 : decode cX9_high 66 = .ok (.ireturn, 1) := by decide +kernel
theorem dX9_high_67 : decode cX9_high 67 = .ok (.iinc 4 (-1), 3) := by decide +kernel
theorem dX9_high_70 : decode cX9_high 70 = .ok (.goto (-41), 3) := by decide +kernel
theorem dX9_high_73 : decode cX9_high 73 = .ok (.bipush (-4), 2) := by decide +kernel
theorem dX9_high_75 : decode cX9_high 75 = .ok (.ireturn, 1) := by decide +kernel
theorem dX9_common_0 : decode cX9_common 0 = .ok (.lload_n 0, 1) := by decide +kernel
theorem dX9_common_1 : decode cX9_common 1 = .ok (.lstore 4, 2) := by decide +kernel
theorem dX9_common_3 : decode cX9_common 3 = .ok (.lload_n 2, 1) := by decide +kernel
theorem dX9_common_4 : decode cX9_common 4 = .ok (.lstore 6, 2) := by decide +kernel
theorem dX9_common_6 : decode cX9_common 6 = .ok (.lload 6, 2) := by decide +kernel
theorem dX9_common_8 : decode cX9_common 8 = .ok (.lconst 0, 1) := by decide +kernel
theorem dX9_common_9 : decode cX9_common 9 = .ok (.lcmp, 1) := by decide +kernel
theorem dX9_common_10 : decode cX9_common 10 = .ok (.ifCond .eq 21, 3) := by decide +kernel
theorem dX9_common_13 : decode cX9_common 13 = .ok (.lload 4, 2) := by decide +kernel
theorem dX9_common_15 : decode cX9_common 15 = .ok (.lload 6, 2) := by decide +kernel
theorem dX9_common_17 : decode cX9_common 17 = .ok (.lrem, 1) := by decide +kernel
theorem dX9_common_18 : decode cX9_common 18 = .ok (.lstore 8, 2) := by decide +kernel
theorem dX9_common_20 : decode cX9_common 20 = .ok (.lload 6, 2) := by decide +kernel
theorem dX9_common_22 : decode cX9_common 22 = .ok (.lstore 4, 2) := by decide +kernel
theorem dX9_common_24 : decode cX9_common 24 = .ok (.lload 8, 2) := by decide +kernel
theorem dX9_common_26 : decode cX9_common 26 = .ok (.lstore 6, 2) := by decide +kernel
theorem dX9_common_28 : decode cX9_common 28 = .ok (.goto (-22), 3) := by decide +kernel
theorem dX9_common_31 : decode cX9_common 31 = .ok (.lload 4, 2) := by decide +kernel
theorem dX9_common_33 : decode cX9_common 33 = .ok (.lreturn, 1) := by decide +kernel
theorem dX9_told_0 : decode cX9_told 0 = .ok (.lload_n 2, 1) := by decide +kernel
theorem dX9_told_1 : decode cX9_told 1 = .ok (.lload_n 0, 1) := by decide +kernel
theorem dX9_told_2 : decode cX9_told 2 = .ok (.invokestatic 272, 3) := by decide +kernel
theorem dX9_told_5 : decode cX9_told 5 = .ok (.lstore 5, 2) := by decide +kernel
theorem dX9_told_7 : decode cX9_told 7 = .ok (.iload 4, 2) := by decide +kernel
theorem dX9_told_9 : decode cX9_told 9 = .ok (.ifCond .ne 10, 3) := by decide +kernel
theorem dX9_told_12 : decode cX9_told 12 = .ok (.lload_n 0, 1) := by decide +kernel
theorem dX9_told_13 : decode cX9_told 13 = .ok (.lload 5, 2) := by decide +kernel
theorem dX9_told_15 : decode cX9_told 15 = .ok (.ldiv, 1) := by decide +kernel
theorem dX9_told_16 : decode cX9_told 16 = .ok (.goto 7, 3) := by decide +kernel
theorem dX9_told_19 : decode cX9_told 19 = .ok (.lload_n 2, 1) := by decide +kernel
theorem dX9_told_20 : decode cX9_told 20 = .ok (.lload 5, 2) := by decide +kernel
theorem dX9_told_22 : decode cX9_told 22 = .ok (.ldiv, 1) := by decide +kernel
theorem dX9_told_23 : decode cX9_told 23 = .ok (.lreturn, 1) := by decide +kernel
theorem dX9_findOdds_0 : decode cX9_findOdds 0 = .ok (.aload_n 0, 1) := by decide +kernel
theorem dX9_findOdds_1 : decode cX9_findOdds 1 = .ok (.lconst 0, 1) := by decide +kernel
theorem dX9_findOdds_2 : decode cX9_findOdds 2 = .ok (.putfield 276, 3) := by decide +kernel
theorem dX9_findOdds_5 : decode cX9_findOdds 5 = .ok (.aload_n 0, 1) := by decide +kernel
theorem dX9_findOdds_6 : decode cX9_findOdds 6 = .ok (.lconst 0, 1) := by decide +kernel
theorem dX9_findOdds_7 : decode cX9_findOdds 7 = .ok (.putfield 280, 3) := by decide +kernel
theorem dX9_findOdds_10 : decode cX9_findOdds 10 = .ok (.aload_n 0, 1) := by decide +kernel
theorem dX9_findOdds_11 : decode cX9_findOdds 11 = .ok (.lconst 1, 1) := by decide +kernel
theorem dX9_findOdds_12 : decode cX9_findOdds 12 = .ok (.putfield 283, 3) := by decide +kernel
theorem dX9_findOdds_15 : decode cX9_findOdds 15 = .ok (.iconst 0, 1) := by decide +kernel
theorem dX9_findOdds_16 : decode cX9_findOdds 16 = .ok (.istore 4, 2) := by decide +kernel
theorem dX9_findOdds_18 : decode cX9_findOdds 18 = .ok (.iload 4, 2) := by decide +kernel
theorem dX9_findOdds_20 : decode cX9_findOdds 20 = .ok (.iload_n 2, 1) := by decide +kernel
theorem dX9_findOdds_21 : decode cX9_findOdds 21 = .ok (.if_icmp .ge 21, 3) := by decide +kernel
theorem dX9_findOdds_24 : decode cX9_findOdds 24 = .ok (.aload_n 0, 1) := by decide +kernel
theorem dX9_findOdds_25 : decode cX9_findOdds 25 = .ok (.dup, 1) := by decide +kernel
theorem dX9_findOdds_26 : decode cX9_findOdds 26 = .ok (.getfield 283, 3) := by decide +kernel
theorem dX9_findOdds_29 : decode cX9_findOdds 29 = .ok (.ldc2_w 286, 3) := by decide +kernel
theorem dX9_findOdds_32 : decode cX9_findOdds 32 = .ok (.lmul, 1) := by decide +kernel
theorem dX9_findOdds_33 : decode cX9_findOdds 33 = .ok (.putfield 283, 3) := by decide +kernel
theorem dX9_findOdds_36 : decode cX9_findOdds 36 = .ok (.iinc 4 1, 3) := by decide +kernel
theorem dX9_findOdds_39 : decode cX9_findOdds 39 = .ok (.goto (-21), 3) := by decide +kernel
theorem dX9_findOdds_42 : decode cX9_findOdds 42 = .ok (.iconst 0, 1) := by decide +kernel
theorem dX9_findOdds_43 : decode cX9_findOdds 43 = .ok (.istore 4, 2) := by decide +kernel
theorem dX9_findOdds_45 : decode cX9_findOdds 45 = .ok (.iload 4, 2) := by decide +kernel
theorem dX9_findOdds_47 : decode cX9_findOdds 47 = .ok (.iconst 1, 1) := by decide +kernel
theorem dX9_findOdds_48 : decode cX9_findOdds 48 = .ok (.iload_n 2, 1) := by decide +kernel
theorem dX9_findOdds_49 : decode cX9_findOdds 49 = .ok (.ishl, 1) := by decide +kernel
theorem dX9_findOdds_50 : decode cX9_findOdds 50 = .ok (.if_icmp .ge 141, 3) := by decide +kernel
theorem dX9_findOdds_53 : decode cX9_findOdds 53 = .ok (.lconst 1, 1) := by decide +kernel
theorem dX9_findOdds_54 : decode cX9_findOdds 54 = .ok (.lstore 5, 2) := by decide +kernel
theorem dX9_findOdds_56 : decode cX9_findOdds 56 = .ok (.aload_n 0, 1) := by decide +kernel
theorem dX9_findOdds_57 : decode cX9_findOdds 57 = .ok (.invokevirtual 204, 3) := by decide +kernel
theorem dX9_findOdds_60 : decode cX9_findOdds 60 = .ok (.aload_n 0, 1) := by decide +kernel
theorem dX9_findOdds_61 : decode cX9_findOdds 61 = .ok (.invokevirtual 194, 3) := by decide +kernel
theorem dX9_findOdds_64 : decode cX9_findOdds 64 = .ok (.iconst 0, 1) := by decide +kernel
theorem dX9_findOdds_65 : decode cX9_findOdds 65 = .ok (.istore 7, 2) := by decide +kernel
theorem dX9_findOdds_67 : decode cX9_findOdds 67 = .ok (.iload 7, 2) := by decide +kernel
theorem dX9_findOdds_69 : decode cX9_findOdds 69 = .ok (.iload_n 2, 1) := by decide +kernel
theorem dX9_findOdds_70 : decode cX9_findOdds 70 = .ok (.if_icmp .ge 75, 3) := by decide +kernel
theorem dX9_findOdds_73 : decode cX9_findOdds 73 = .ok (.iload 4, 2) := by decide +kernel
theorem dX9_findOdds_75 : decode cX9_findOdds 75 = .ok (.iload 7, 2) := by decide +kernel
theorem dX9_findOdds_77 : decode cX9_findOdds 77 = .ok (.ishr, 1) := by decide +kernel
theorem dX9_findOdds_78 : decode cX9_findOdds 78 = .ok (.iconst 1, 1) := by decide +kernel
theorem dX9_findOdds_79 : decode cX9_findOdds 79 = .ok (.iand, 1) := by decide +kernel
theorem dX9_findOdds_80 : decode cX9_findOdds 80 = .ok (.iconst 1, 1) := by decide +kernel
theorem dX9_findOdds_81 : decode cX9_findOdds 81 = .ok (.if_icmp .ne 7, 3) := by decide +kernel
theorem dX9_findOdds_84 : decode cX9_findOdds 84 = .ok (.iconst 1, 1) := by decide +kernel
theorem dX9_findOdds_85 : decode cX9_findOdds 85 = .ok (.goto 4, 3) := by decide +kernel
theorem dX9_findOdds_88 : decode cX9_findOdds 88 = .ok (.iconst 0, 1) := by decide +kernel
theorem dX9_findOdds_89 : decode cX9_findOdds 89 = .ok (.istore 8, 2) := by decide +kernel
theorem dX9_findOdds_91 : decode cX9_findOdds 91 = .ok (.lload 5, 2) := by decide +kernel
theorem dX9_findOdds_93 : decode cX9_findOdds 93 = .ok (.iload 8, 2) := by decide +kernel
theorem dX9_findOdds_95 : decode cX9_findOdds 95 = .ok (.ifCond .eq 8, 3) := by decide +kernel
theorem dX9_findOdds_98 : decode cX9_findOdds 98 = .ok (.iload_n 1, 1) := by decide +kernel
theorem dX9_findOdds_99 : decode cX9_findOdds 99 = .ok (.i2l, 1) := by decide +kernel
theorem dX9_findOdds_100 : decode cX9_findOdds 100 = .ok (.goto 8, 3) := by decide +kernel
theorem dX9_findOdds_103 : decode cX9_findOdds 103 = .ok (.bipush 10, 2) := by decide +kernel
theorem dX9_findOdds_105 : decode cX9_findOdds 105 = .ok (.iload_n 1, 1) := by decide +kernel
theorem dX9_findOdds_106 : decode cX9_findOdds 106 = .ok (.isub, 1) := by decide +kernel
theorem dX9_findOdds_107 : decode cX9_findOdds 107 = .ok (.i2l, 1) := by decide +kernel
theorem dX9_findOdds_108 : decode cX9_findOdds 108 = .ok (.lmul, 1) := by decide +kernel
theorem dX9_findOdds_109 : decode cX9_findOdds 109 = .ok (.lstore 5, 2) := by decide +kernel
theorem dX9_findOdds_111 : decode cX9_findOdds 111 = .ok (.aload_n 0, 1) := by decide +kernel
theorem dX9_findOdds_112 : decode cX9_findOdds 112 = .ok (.getfield 13, 3) := by decide +kernel
theorem dX9_findOdds_115 : decode cX9_findOdds 115 = .ok (.bipush 40, 2) := by decide +kernel
theorem dX9_findOdds_117 : decode cX9_findOdds 117 = .ok (.iload 8, 2) := by decide +kernel
theorem dX9_findOdds_119 : decode cX9_findOdds 119 = .ok (.ifCond .eq 8, 3) := by decide +kernel
theorem dX9_findOdds_122 : decode cX9_findOdds 122 = .ok (.bipush 7, 2) := by decide +kernel
theorem dX9_findOdds_124 : decode cX9_findOdds 124 = .ok (.goto 10, 3) := by decide +kernel
theorem dX9_findOdds_127 : decode cX9_findOdds 127 = .ok (.aload_n 0, 1) := by decide +kernel
theorem dX9_findOdds_128 : decode cX9_findOdds 128 = .ok (.getfield 13, 3) := by decide +kernel
theorem dX9_findOdds_131 : decode cX9_findOdds 131 = .ok (.bipush 40, 2) := by decide +kernel
theorem dX9_findOdds_133 : decode cX9_findOdds 133 = .ok (.iaload, 1) := by decide +kernel
theorem dX9_findOdds_134 : decode cX9_findOdds 134 = .ok (.iastore, 1) := by decide +kernel
theorem dX9_findOdds_135 : decode cX9_findOdds 135 = .ok (.aload_n 0, 1) := by decide +kernel
theorem dX9_findOdds_136 : decode cX9_findOdds 136 = .ok (.invokevirtual 197, 3) := by decide +kernel
theorem dX9_findOdds_139 : decode cX9_findOdds 139 = .ok (.iinc 7 1, 3) := by decide +kernel
theorem dX9_findOdds_142 : decode cX9_findOdds 142 = .ok (.goto (-75), 3) := by decide +kernel
theorem dX9_findOdds_145 : decode cX9_findOdds 145 = .ok (.aload_n 0, 1) := by decide +kernel
theorem dX9_findOdds_146 : decode cX9_findOdds 146 = .ok (.dup, 1) := by decide +kernel
theorem dX9_findOdds_147 : decode cX9_findOdds 147 = .ok (.getfield 276, 3) := by decide +kernel
theorem dX9_findOdds_150 : decode cX9_findOdds 150 = .ok (.aload_n 0, 1) := by decide +kernel
theorem dX9_findOdds_151 : decode cX9_findOdds 151 = .ok (.getfield 165, 3) := by decide +kernel
theorem dX9_findOdds_154 : decode cX9_findOdds 154 = .ok (.iload_n 3, 1) := by decide +kernel
theorem dX9_findOdds_155 : decode cX9_findOdds 155 = .ok (.if_icmp .gt 8, 3) := by decide +kernel
theorem dX9_findOdds_158 : decode cX9_findOdds 158 = .ok (.lload 5, 2) := by decide +kernel
theorem dX9_findOdds_160 : decode cX9_findOdds 160 = .ok (.goto 4, 3) := by decide +kernel
theorem dX9_findOdds_163 : decode cX9_findOdds 163 = .ok (.lconst 0, 1) := by decide +kernel
theorem dX9_findOdds_164 : decode cX9_findOdds 164 = .ok (.ladd, 1) := by decide +kernel
theorem dX9_findOdds_165 : decode cX9_findOdds 165 = .ok (.putfield 276, 3) := by decide +kernel
theorem dX9_findOdds_168 : decode cX9_findOdds 168 = .ok (.aload_n 0, 1) := by decide +kernel
theorem dX9_findOdds_169 : decode cX9_findOdds 169 = .ok (.dup, 1) := by decide +kernel
theorem dX9_findOdds_170 : decode cX9_findOdds 170 = .ok (.getfield 280, 3) := by decide +kernel
theorem dX9_findOdds_173 : decode cX9_findOdds 173 = .ok (.lload 5, 2) := by decide +kernel
theorem dX9_findOdds_175 : decode cX9_findOdds 175 = .ok (.aload_n 0, 1) := by decide +kernel
theorem dX9_findOdds_176 : decode cX9_findOdds 176 = .ok (.getfield 165, 3) := by decide +kernel
theorem dX9_findOdds_179 : decode cX9_findOdds 179 = .ok (.i2l, 1) := by decide +kernel
theorem dX9_findOdds_180 : decode cX9_findOdds 180 = .ok (.lmul, 1) := by decide +kernel
theorem dX9_findOdds_181 : decode cX9_findOdds 181 = .ok (.ladd, 1) := by decide +kernel
theorem dX9_findOdds_182 : decode cX9_findOdds 182 = .ok (.putfield 280, 3) := by decide +kernel
theorem dX9_findOdds_185 : decode cX9_findOdds 185 = .ok (.iinc 4 1, 3) := by decide +kernel
theorem dX9_findOdds_188 : decode cX9_findOdds 188 = .ok (.goto (-143), 3) := by decide +kernel
theorem dX9_findOdds_191 : decode cX9_findOdds 191 = .ok (.return_, 1) := by decide +kernel
theorem dX9_luck_0 : decode cX9_luck 0 = .ok (.iload_n 1, 1) := by decide +kernel
theorem dX9_luck_1 : decode cX9_luck 1 = .ok (.i2l, 1) := by decide +kernel
theorem dX9_luck_2 : decode cX9_luck 2 = .ok (.lconst 0, 1) := by decide +kernel
theorem dX9_luck_3 : decode cX9_luck 3 = .ok (.ldc2_w 286, 3) := by decide +kernel
theorem dX9_luck_6 : decode cX9_luck 6 = .ok (.invokestatic 78, 3) := by decide +kernel
theorem dX9_luck_9 : decode cX9_luck 9 = .ok (.ifCond .eq 35, 3) := by decide +kernel
theorem dX9_luck_12 : decode cX9_luck 12 = .ok (.iload_n 2, 1) := by decide +kernel
theorem dX9_luck_13 : decode cX9_luck 13 = .ok (.i2l, 1) := by decide +kernel
theorem dX9_luck_14 : decode cX9_luck 14 = .ok (.lconst 0, 1) := by decide +kernel
theorem dX9_luck_15 : decode cX9_luck 15 = .ok (.ldc2_w 288, 3) := by decide +kernel
theorem dX9_luck_18 : decode cX9_luck 18 = .ok (.invokestatic 78, 3) := by decide +kernel
theorem dX9_luck_21 : decode cX9_luck 21 = .ok (.ifCond .eq 23, 3) := by decide +kernel
theorem dX9_luck_24 : decode cX9_luck 24 = .ok (.iload_n 3, 1) := by decide +kernel
theorem dX9_luck_25 : decode cX9_luck 25 = .ok (.i2l, 1) := by decide +kernel
theorem dX9_luck_26 : decode cX9_luck 26 = .ok (.lconst 0, 1) := by decide +kernel
theorem dX9_luck_27 : decode cX9_luck 27 = .ok (.ldc2_w 290, 3) := by decide +kernel
theorem dX9_luck_30 : decode cX9_luck 30 = .ok (.invokestatic 78, 3) := by decide +kernel
theorem dX9_luck_33 : decode cX9_luck 33 = .ok (.ifCond .eq 11, 3) := by decide +kernel
theorem dX9_luck_36 : decode cX9_luck 36 = .ok (.iload 4, 2) := by decide +kernel
theorem dX9_luck_38 : decode cX9_luck 38 = .ok (.invokestatic 253, 3) := by decide +kernel
theorem dX9_luck_41 : decode cX9_luck 41 = .ok (.ifCond .ne 7, 3) := by decide +kernel
theorem dX9_luck_44 : decode cX9_luck 44 = .ok (.ldc2_w 292, 3) := by decide +kernel
theorem dX9_luck_47 : decode cX9_luck 47 = .ok (.lreturn, 1) := by decide +kernel
theorem dX9_luck_48 : decode cX9_luck 48 = .ok (.aload_n 0, 1) := by decide +kernel
theorem dX9_luck_49 : decode cX9_luck 49 = .ok (.iload_n 1, 1) := by decide +kernel
theorem dX9_luck_50 : decode cX9_luck 50 = .ok (.iload_n 2, 1) := by decide +kernel
theorem dX9_luck_51 : decode cX9_luck 51 = .ok (.iload_n 3, 1) := by decide +kernel
theorem dX9_luck_52 : decode cX9_luck 52 = .ok (.invokevirtual 294, 3) := by decide +kernel
theorem dX9_luck_55 : decode cX9_luck 55 = .ok (.aload_n 0, 1) := by decide +kernel
theorem dX9_luck_56 : decode cX9_luck 56 = .ok (.getfield 276, 3) := by decide +kernel
theorem dX9_luck_59 : decode cX9_luck 59 = .ok (.aload_n 0, 1) := by decide +kernel
theorem dX9_luck_60 : decode cX9_luck 60 = .ok (.getfield 283, 3) := by decide +kernel
theorem dX9_luck_63 : decode cX9_luck 63 = .ok (.iload 4, 2) := by decide +kernel
theorem dX9_luck_65 : decode cX9_luck 65 = .ok (.invokestatic 297, 3) := by decide +kernel
theorem dX9_luck_68 : decode cX9_luck 68 = .ok (.lreturn, 1) := by decide +kernel
theorem dX9_mean_0 : decode cX9_mean 0 = .ok (.iload_n 1, 1) := by decide +kernel
theorem dX9_mean_1 : decode cX9_mean 1 = .ok (.i2l, 1) := by decide +kernel
theorem dX9_mean_2 : decode cX9_mean 2 = .ok (.lconst 0, 1) := by decide +kernel
theorem dX9_mean_3 : decode cX9_mean 3 = .ok (.ldc2_w 286, 3) := by decide +kernel
theorem dX9_mean_6 : decode cX9_mean 6 = .ok (.invokestatic 78, 3) := by decide +kernel
theorem dX9_mean_9 : decode cX9_mean 9 = .ok (.ifCond .eq 22, 3) := by decide +kernel
theorem dX9_mean_12 : decode cX9_mean 12 = .ok (.iload_n 2, 1) := by decide +kernel
theorem dX9_mean_13 : decode cX9_mean 13 = .ok (.i2l, 1) := by decide +kernel
theorem dX9_mean_14 : decode cX9_mean 14 = .ok (.lconst 0, 1) := by decide +kernel
theorem dX9_mean_15 : decode cX9_mean 15 = .ok (.ldc2_w 288, 3) := by decide +kernel
theorem dX9_mean_18 : decode cX9_mean 18 = .ok (.invokestatic 78, 3) := by decide +kernel
theorem dX9_mean_21 : decode cX9_mean 21 = .ok (.ifCond .eq 10, 3) := by decide +kernel
theorem dX9_mean_24 : decode cX9_mean 24 = .ok (.iload_n 3, 1) := by decide +kernel
theorem dX9_mean_25 : decode cX9_mean 25 = .ok (.invokestatic 253, 3) := by decide +kernel
theorem dX9_mean_28 : decode cX9_mean 28 = .ok (.ifCond .ne 7, 3) := by decide +kernel
theorem dX9_mean_31 : decode cX9_mean 31 = .ok (.ldc2_w 292, 3) := by decide +kernel
theorem dX9_mean_34 : decode cX9_mean 34 = .ok (.lreturn, 1) := by decide +kernel
theorem dX9_mean_35 : decode cX9_mean 35 = .ok (.aload_n 0, 1) := by decide +kernel
theorem dX9_mean_36 : decode cX9_mean 36 = .ok (.iload_n 1, 1) := by decide +kernel
theorem dX9_mean_37 : decode cX9_mean 37 = .ok (.iload_n 2, 1) := by decide +kernel
theorem dX9_mean_38 : decode cX9_mean 38 = .ok (.iconst 0, 1) := by decide +kernel
theorem dX9_mean_39 : decode cX9_mean 39 = .ok (.invokevirtual 294, 3) := by decide +kernel
theorem dX9_mean_42 : decode cX9_mean 42 = .ok (.aload_n 0, 1) := by decide +kernel
theorem dX9_mean_43 : decode cX9_mean 43 = .ok (.getfield 280, 3) := by decide +kernel
theorem dX9_mean_46 : decode cX9_mean 46 = .ok (.aload_n 0, 1) := by decide +kernel
theorem dX9_mean_47 : decode cX9_mean 47 = .ok (.getfield 283, 3) := by decide +kernel
theorem dX9_mean_50 : decode cX9_mean 50 = .ok (.iload_n 3, 1) := by decide +kernel
theorem dX9_mean_51 : decode cX9_mean 51 = .ok (.invokestatic 297, 3) := by decide +kernel
theorem dX9_mean_54 : decode cX9_mean 54 = .ok (.lreturn, 1) := by decide +kernel
theorem dX9_see_0 : decode cX9_see 0 = .ok (.iload_n 1, 1) := by decide +kernel
theorem dX9_see_1 : decode cX9_see 1 = .ok (.i2l, 1) := by decide +kernel
theorem dX9_see_2 : decode cX9_see 2 = .ok (.lconst 0, 1) := by decide +kernel
theorem dX9_see_3 : decode cX9_see 3 = .ok (.ldc2_w 301, 3) := by decide +kernel
theorem dX9_see_6 : decode cX9_see 6 = .ok (.invokestatic 78, 3) := by decide +kernel
theorem dX9_see_9 : decode cX9_see 9 = .ok (.ifCond .eq 29, 3) := by decide +kernel
theorem dX9_see_12 : decode cX9_see 12 = .ok (.aload_n 0, 1) := by decide +kernel
theorem dX9_see_13 : decode cX9_see 13 = .ok (.iload_n 2, 1) := by decide +kernel
theorem dX9_see_14 : decode cX9_see 14 = .ok (.invokevirtual 216, 3) := by decide +kernel
theorem dX9_see_17 : decode cX9_see 17 = .ok (.ifCond .eq 21, 3) := by decide +kernel
theorem dX9_see_20 : decode cX9_see 20 = .ok (.iload_n 3, 1) := by decide +kernel
theorem dX9_see_21 : decode cX9_see 21 = .ok (.i2l, 1) := by decide +kernel
theorem dX9_see_22 : decode cX9_see 22 = .ok (.lconst 0, 1) := by decide +kernel
theorem dX9_see_23 : decode cX9_see 23 = .ok (.ldc2_w 224, 3) := by decide +kernel
theorem dX9_see_26 : decode cX9_see 26 = .ok (.invokestatic 78, 3) := by decide +kernel
theorem dX9_see_29 : decode cX9_see 29 = .ok (.ifCond .eq 9, 3) := by decide +kernel
theorem dX9_see_32 : decode cX9_see 32 = .ok (.iload_n 3, 1) := by decide +kernel
theorem dX9_see_33 : decode cX9_see 33 = .ok (.bipush 8, 2) := by decide +kernel
theorem dX9_see_35 : decode cX9_see 35 = .ok (.if_icmp .ne 5, 3) := by decide +kernel
theorem dX9_see_38 : decode cX9_see 38 = .ok (.iconst (-1), 1) := by decide +kernel
theorem dX9_see_39 : decode cX9_see 39 = .ok (.ireturn, 1) := by decide +kernel
theorem dX9_see_40 : decode cX9_see 40 = .ok (.aload_n 0, 1) := by decide +kernel
theorem dX9_see_41 : decode cX9_see 41 = .ok (.getfield 7, 3) := by decide +kernel
theorem dX9_see_44 : decode cX9_see 44 = .ok (.bipush 43, 2) := by decide +kernel
theorem dX9_see_46 : decode cX9_see 46 = .ok (.iaload, 1) := by decide +kernel
theorem dX9_see_47 : decode cX9_see 47 = .ok (.bipush 6, 2) := by decide +kernel
theorem dX9_see_49 : decode cX9_see 49 = .ok (.if_icmp .ne 6, 3) := by decide +kernel
theorem dX9_see_52 : decode cX9_see 52 = .ok (.bipush (-3), 2) := by decide +kernel
theorem dX9_see_54 : decode cX9_see 54 = .ok (.ireturn, 1) := by decide +kernel
theorem dX9_see_55 : decode cX9_see 55 = .ok (.bipush 44, 2) := by decide +kernel
theorem dX9_see_57 : decode cX9_see 57 = .ok (.iconst 3, 1) := by decide +kernel
theorem dX9_see_58 : decode cX9_see 58 = .ok (.aload_n 0, 1) := by decide +kernel
theorem dX9_see_59 : decode cX9_see 59 = .ok (.getfield 7, 3) := by decide +kernel
theorem dX9_see_62 : decode cX9_see 62 = .ok (.bipush 43, 2) := by decide +kernel
theorem dX9_see_64 : decode cX9_see 64 = .ok (.iaload, 1) := by decide +kernel
theorem dX9_see_65 : decode cX9_see 65 = .ok (.imul, 1) := by decide +kernel
theorem dX9_see_66 : decode cX9_see 66 = .ok (.iadd, 1) := by decide +kernel
theorem dX9_see_67 : decode cX9_see 67 = .ok (.istore 4, 2) := by decide +kernel
theorem dX9_see_69 : decode cX9_see 69 = .ok (.aload_n 0, 1) := by decide +kernel
theorem dX9_see_70 : decode cX9_see 70 = .ok (.getfield 7, 3) := by decide +kernel
theorem dX9_see_73 : decode cX9_see 73 = .ok (.iload 4, 2) := by decide +kernel
theorem dX9_see_75 : decode cX9_see 75 = .ok (.iload_n 1, 1) := by decide +kernel
theorem dX9_see_76 : decode cX9_see 76 = .ok (.iastore, 1) := by decide +kernel
theorem dX9_see_77 : decode cX9_see 77 = .ok (.aload_n 0, 1) := by decide +kernel
theorem dX9_see_78 : decode cX9_see 78 = .ok (.getfield 7, 3) := by decide +kernel
theorem dX9_see_81 : decode cX9_see 81 = .ok (.iload 4, 2) := by decide +kernel
theorem dX9_see_83 : decode cX9_see 83 = .ok (.iconst 1, 1) := by decide +kernel
theorem dX9_see_84 : decode cX9_see 84 = .ok (.iadd, 1) := by decide +kernel
theorem dX9_see_85 : decode cX9_see 85 = .ok (.iload_n 2, 1) := by decide +kernel
theorem dX9_see_86 : decode cX9_see 86 = .ok (.iastore, 1) := by decide +kernel
theorem dX9_see_87 : decode cX9_see 87 = .ok (.aload_n 0, 1) := by decide +kernel
theorem dX9_see_88 : decode cX9_see 88 = .ok (.getfield 7, 3) := by decide +kernel
theorem dX9_see_91 : decode cX9_see 91 = .ok (.iload 4, 2) := by decide +kernel
theorem dX9_see_93 : decode cX9_see 93 = .ok (.iconst 2, 1) := by decide +kernel
theorem dX9_see_94 : decode cX9_see 94 = .ok (.iadd, 1) := by decide +kernel
theorem dX9_see_95 : decode cX9_see 95 = .ok (.iload_n 3, 1) := by decide +kernel
theorem dX9_see_96 : decode cX9_see 96 = .ok (.invokestatic 229, 3) := by decide +kernel
theorem dX9_see_99 : decode cX9_see 99 = .ok (.iastore, 1) := by decide +kernel
theorem dX9_see_100 : decode cX9_see 100 = .ok (.aload_n 0, 1) := by decide +kernel
theorem dX9_see_101 : decode cX9_see 101 = .ok (.getfield 7, 3) := by decide +kernel
theorem dX9_see_104 : decode cX9_see 104 = .ok (.bipush 43, 2) := by decide +kernel
theorem dX9_see_106 : decode cX9_see 106 = .ok (.dup2, 1) := by decide +kernel
theorem dX9_see_107 : decode cX9_see 107 = .ok (.iaload, 1) := by decide +kernel
theorem dX9_see_108 : decode cX9_see 108 = .ok (.iconst 1, 1) := by decide +kernel
theorem dX9_see_109 : decode cX9_see 109 = .ok (.iadd, 1) := by decide +kernel
theorem dX9_see_110 : decode cX9_see 110 = .ok (.iastore, 1) := by decide +kernel
theorem dX9_see_111 : decode cX9_see 111 = .ok (.aload_n 0, 1) := by decide +kernel
theorem dX9_see_112 : decode cX9_see 112 = .ok (.getfield 7, 3) := by decide +kernel
theorem dX9_see_115 : decode cX9_see 115 = .ok (.bipush 43, 2) := by decide +kernel
theorem dX9_see_117 : decode cX9_see 117 = .ok (.iaload, 1) := by decide +kernel
theorem dX9_see_118 : decode cX9_see 118 = .ok (.ireturn, 1) := by decide +kernel
theorem dX9_forget_0 : decode cX9_forget 0 = .ok (.iload_n 1, 1) := by decide +kernel
theorem dX9_forget_1 : decode cX9_forget 1 = .ok (.i2l, 1) := by decide +kernel
theorem dX9_forget_2 : decode cX9_forget 2 = .ok (.lconst 0, 1) := by decide +kernel
theorem dX9_forget_3 : decode cX9_forget 3 = .ok (.aload_n 0, 1) := by decide +kernel
theorem dX9_forget_4 : decode cX9_forget 4 = .ok (.getfield 7, 3) := by decide +kernel
theorem dX9_forget_7 : decode cX9_forget 7 = .ok (.bipush 43, 2) := by decide +kernel
theorem dX9_forget_9 : decode cX9_forget 9 = .ok (.iaload, 1) := by decide +kernel
theorem dX9_forget_10 : decode cX9_forget 10 = .ok (.i2l, 1) := by decide +kernel
theorem dX9_forget_11 : decode cX9_forget 11 = .ok (.invokestatic 78, 3) := by decide +kernel
theorem dX9_forget_14 : decode cX9_forget 14 = .ok (.ifCond .eq 13, 3) := by decide +kernel
theorem dX9_forget_17 : decode cX9_forget 17 = .ok (.aload_n 0, 1) := by decide +kernel
theorem dX9_forget_18 : decode cX9_forget 18 = .ok (.bipush 43, 2) := by decide +kernel
theorem dX9_forget_20 : decode cX9_forget 20 = .ok (.iload_n 1, 1) := by decide +kernel
theorem dX9_forget_21 : decode cX9_forget 21 = .ok (.invokevirtual 232, 3) := by decide +kernel
theorem dX9_forget_24 : decode cX9_forget 24 = .ok (.goto 4, 3) := by decide +kernel
theorem dX9_forget_27 : decode cX9_forget 27 = .ok (.iconst (-1), 1) := by decide +kernel
theorem dX9_forget_28 : decode cX9_forget 28 = .ok (.ireturn, 1) := by decide +kernel
theorem dX9_isSoWith_0 : decode cX9_isSoWith 0 = .ok (.aload_n 0, 1) := by decide +kernel
theorem dX9_isSoWith_1 : decode cX9_isSoWith 1 = .ok (.invokevirtual 204, 3) := by decide +kernel
theorem dX9_isSoWith_4 : decode cX9_isSoWith 4 = .ok (.aload_n 0, 1) := by decide +kernel
theorem dX9_isSoWith_5 : decode cX9_isSoWith 5 = .ok (.getfield 13, 3) := by decide +kernel
theorem dX9_isSoWith_8 : decode cX9_isSoWith 8 = .ok (.iload_n 1, 1) := by decide +kernel
theorem dX9_isSoWith_9 : decode cX9_isSoWith 9 = .ok (.iload_n 2, 1) := by decide +kernel
theorem dX9_isSoWith_10 : decode cX9_isSoWith 10 = .ok (.iastore, 1) := by decide +kernel
theorem dX9_isSoWith_11 : decode cX9_isSoWith 11 = .ok (.iconst 0, 1) := by decide +kernel
theorem dX9_isSoWith_12 : decode cX9_isSoWith 12 = .ok (.istore_n 3, 1) := by decide +kernel
theorem dX9_isSoWith_13 : decode cX9_isSoWith 13 = .ok (.iload_n 3, 1) := by decide +kernel
theorem dX9_isSoWith_14 : decode cX9_isSoWith 14 = .ok (.bipush 20, 2) := by decide +kernel
theorem dX9_isSoWith_16 : decode cX9_isSoWith 16 = .ok (.if_icmp .gt 49, 3) := by decide +kernel
theorem dX9_isSoWith_19 : decode cX9_isSoWith 19 = .ok (.iconst 0, 1) := by decide +kernel
theorem dX9_isSoWith_20 : decode cX9_isSoWith 20 = .ok (.istore 4, 2) := by decide +kernel
theorem dX9_isSoWith_22 : decode cX9_isSoWith 22 = .ok (.iload 4, 2) := by decide +kernel
theorem dX9_isSoWith_24 : decode cX9_isSoWith 24 = .ok (.aload_n 0, 1) := by decide +kernel
theorem dX9_isSoWith_25 : decode cX9_isSoWith 25 = .ok (.getfield 73, 3) := by decide +kernel
theorem dX9_isSoWith_28 : decode cX9_isSoWith 28 = .ok (.if_icmp .ge 27, 3) := by decide +kernel
theorem dX9_isSoWith_31 : decode cX9_isSoWith 31 = .ok (.aload_n 0, 1) := by decide +kernel
theorem dX9_isSoWith_32 : decode cX9_isSoWith 32 = .ok (.getfield 32, 3) := by decide +kernel
theorem dX9_isSoWith_35 : decode cX9_isSoWith 35 = .ok (.iconst 4, 1) := by decide +kernel
theorem dX9_isSoWith_36 : decode cX9_isSoWith 36 = .ok (.iload_n 3, 1) := by decide +kernel
theorem dX9_isSoWith_37 : decode cX9_isSoWith 37 = .ok (.imul, 1) := by decide +kernel
theorem dX9_isSoWith_38 : decode cX9_isSoWith 38 = .ok (.iload 4, 2) := by decide +kernel
theorem dX9_isSoWith_40 : decode cX9_isSoWith 40 = .ok (.iadd, 1) := by decide +kernel
theorem dX9_isSoWith_41 : decode cX9_isSoWith 41 = .ok (.aload_n 0, 1) := by decide +kernel
theorem dX9_isSoWith_42 : decode cX9_isSoWith 42 = .ok (.iload 4, 2) := by decide +kernel
theorem dX9_isSoWith_44 : decode cX9_isSoWith 44 = .ok (.iconst 1, 1) := by decide +kernel
theorem dX9_isSoWith_45 : decode cX9_isSoWith 45 = .ok (.invokevirtual 153, 3) := by decide +kernel
theorem dX9_isSoWith_48 : decode cX9_isSoWith 48 = .ok (.iastore, 1) := by decide +kernel
theorem dX9_isSoWith_49 : decode cX9_isSoWith 49 = .ok (.iinc 4 1, 3) := by decide +kernel
theorem dX9_isSoWith_52 : decode cX9_isSoWith 52 = .ok (.goto (-30), 3) := by decide +kernel
theorem dX9_isSoWith_55 : decode cX9_isSoWith 55 = .ok (.aload_n 0, 1) := by decide +kernel
theorem dX9_isSoWith_56 : decode cX9_isSoWith 56 = .ok (.invokevirtual 197, 3) := by decide +kernel
theorem dX9_isSoWith_59 : decode cX9_isSoWith 59 = .ok (.iinc 3 1, 3) := by decide +kernel
theorem dX9_isSoWith_62 : decode cX9_isSoWith 62 = .ok (.goto (-49), 3) := by decide +kernel
theorem dX9_isSoWith_65 : decode cX9_isSoWith 65 = .ok (.iconst 1, 1) := by decide +kernel
theorem dX9_isSoWith_66 : decode cX9_isSoWith 66 = .ok (.istore_n 3, 1) := by decide +kernel
theorem dX9_isSoWith_67 : decode cX9_isSoWith 67 = .ok (.iconst 0, 1) := by decide +kernel
theorem dX9_isSoWith_68 : decode cX9_isSoWith 68 = .ok (.istore 4, 2) := by decide +kernel
theorem dX9_isSoWith_70 : decode cX9_isSoWith 70 = .ok (.iload 4, 2) := by decide +kernel
theorem dX9_isSoWith_72 : decode cX9_isSoWith 72 = .ok (.aload_n 0, 1) := by decide +kernel
theorem dX9_isSoWith_73 : decode cX9_isSoWith 73 = .ok (.getfield 7, 3) := by decide +kernel
theorem dX9_isSoWith_76 : decode cX9_isSoWith 76 = .ok (.bipush 43, 2) := by decide +kernel
theorem dX9_isSoWith_78 : decode cX9_isSoWith 78 = .ok (.iaload, 1) := by decide +kernel
theorem dX9_isSoWith_79 : decode cX9_isSoWith 79 = .ok (.if_icmp .ge 64, 3) := by decide +kernel
theorem dX9_isSoWith_82 : decode cX9_isSoWith 82 = .ok (.bipush 44, 2) := by decide +kernel
theorem dX9_isSoWith_84 : decode cX9_isSoWith 84 = .ok (.iconst 3, 1) := by decide +kernel
theorem dX9_isSoWith_85 : decode cX9_isSoWith 85 = .ok (.iload 4, 2) := by decide +kernel
theorem dX9_isSoWith_87 : decode cX9_isSoWith 87 = .ok (.imul, 1) := by decide +kernel
theorem dX9_isSoWith_88 : decode cX9_isSoWith 88 = .ok (.iadd, 1) := by decide +kernel
theorem dX9_isSoWith_89 : decode cX9_isSoWith 89 = .ok (.istore 5, 2) := by decide +kernel
theorem dX9_isSoWith_91 : decode cX9_isSoWith 91 = .ok (.iload_n 3, 1) := by decide +kernel
theorem dX9_isSoWith_92 : decode cX9_isSoWith 92 = .ok (.ifCond .eq 43, 3) := by decide +kernel
theorem dX9_isSoWith_95 : decode cX9_isSoWith 95 = .ok (.aload_n 0, 1) := by decide +kernel
theorem dX9_isSoWith_96 : decode cX9_isSoWith 96 = .ok (.getfield 32, 3) := by decide +kernel
theorem dX9_isSoWith_99 : decode cX9_isSoWith 99 = .ok (.iconst 4, 1) := by decide +kernel
theorem dX9_isSoWith_100 : decode cX9_isSoWith 100 = .ok (.aload_n 0, 1) := by decide +kernel
theorem dX9_isSoWith_101 : decode cX9_isSoWith 101 = .ok (.getfield 7, 3) := by decide +kernel
theorem dX9_isSoWith_104 : decode cX9_isSoWith 104 = .ok (.iload 5, 2) := by decide +kernel
theorem dX9_isSoWith_106 : decode cX9_isSoWith 106 = .ok (.iaload, 1) := by decide +kernel
theorem dX9_isSoWith_107 : decode cX9_isSoWith 107 = .ok (.imul, 1) := by decide +kernel
theorem dX9_isSoWith_108 : decode cX9_isSoWith 108 = .ok (.aload_n 0, 1) := by decide +kernel
theorem dX9_isSoWith_109 : decode cX9_isSoWith 109 = .ok (.getfield 7, 3) := by decide +kernel
theorem dX9_isSoWith_112 : decode cX9_isSoWith 112 = .ok (.iload 5, 2) := by decide +kernel
theorem dX9_isSoWith_114 : decode cX9_isSoWith 114 = .ok (.iconst 1, 1) := by decide +kernel
theorem dX9_isSoWith_115 : decode cX9_isSoWith 115 = .ok (.iadd, 1) := by decide +kernel
theorem dX9_isSoWith_116 : decode cX9_isSoWith 116 = .ok (.iaload, 1) := by decide +kernel
theorem dX9_isSoWith_117 : decode cX9_isSoWith 117 = .ok (.iadd, 1) := by decide +kernel
theorem dX9_isSoWith_118 : decode cX9_isSoWith 118 = .ok (.iaload, 1) := by decide +kernel
theorem dX9_isSoWith_119 : decode cX9_isSoWith 119 = .ok (.aload_n 0, 1) := by decide +kernel
theorem dX9_isSoWith_120 : decode cX9_isSoWith 120 = .ok (.getfield 7, 3) := by decide +kernel
theorem dX9_isSoWith_123 : decode cX9_isSoWith 123 = .ok (.iload 5, 2) := by decide +kernel
theorem dX9_isSoWith_125 : decode cX9_isSoWith 125 = .ok (.iconst 2, 1) := by decide +kernel
theorem dX9_isSoWith_126 : decode cX9_isSoWith 126 = .ok (.iadd, 1) := by decide +kernel
theorem dX9_isSoWith_127 : decode cX9_isSoWith 127 = .ok (.iaload, 1) := by decide +kernel
theorem dX9_isSoWith_128 : decode cX9_isSoWith 128 = .ok (.if_icmp .ne 7, 3) := by decide +kernel
theorem dX9_isSoWith_131 : decode cX9_isSoWith 131 = .ok (.iconst 1, 1) := by decide +kernel
theorem dX9_isSoWith_132 : decode cX9_isSoWith 132 = .ok (.goto 4, 3) := by decide +kernel
theorem dX9_isSoWith_135 : decode cX9_isSoWith 135 = .ok (.iconst 0, 1) := by decide +kernel
theorem dX9_isSoWith_136 : decode cX9_isSoWith 136 = .ok (.istore_n 3, 1) := by decide +kernel
theorem dX9_isSoWith_137 : decode cX9_isSoWith 137 = .ok (.iinc 4 1, 3) := by decide +kernel
theorem dX9_isSoWith_140 : decode cX9_isSoWith 140 = .ok (.goto (-70), 3) := by decide +kernel
theorem dX9_isSoWith_143 : decode cX9_isSoWith 143 = .ok (.iload_n 3, 1) := by decide +kernel
theorem dX9_isSoWith_144 : decode cX9_isSoWith 144 = .ok (.ireturn, 1) := by decide +kernel
theorem dX9_kinds_0 : decode cX9_kinds 0 = .ok (.aload_n 0, 1) := by decide +kernel
theorem dX9_kinds_1 : decode cX9_kinds 1 = .ok (.iload_n 1, 1) := by decide +kernel
theorem dX9_kinds_2 : decode cX9_kinds 2 = .ok (.invokevirtual 216, 3) := by decide +kernel
theorem dX9_kinds_5 : decode cX9_kinds 5 = .ok (.ifCond .ne 5, 3) := by decide +kernel
theorem dX9_kinds_8 : decode cX9_kinds 8 = .ok (.iconst (-1), 1) := by decide +kernel
theorem dX9_kinds_9 : decode cX9_kinds 9 = .ok (.ireturn, 1) := by decide +kernel
theorem dX9_kinds_10 : decode cX9_kinds 10 = .ok (.iconst 0, 1) := by decide +kernel
theorem dX9_kinds_11 : decode cX9_kinds 11 = .ok (.istore_n 2, 1) := by decide +kernel
theorem dX9_kinds_12 : decode cX9_kinds 12 = .ok (.iconst 0, 1) := by decide +kernel
theorem dX9_kinds_13 : decode cX9_kinds 13 = .ok (.istore_n 3, 1) := by decide +kernel
theorem dX9_kinds_14 : decode cX9_kinds 14 = .ok (.iload_n 3, 1) := by decide +kernel
theorem dX9_kinds_15 : decode cX9_kinds 15 = .ok (.iconst 4, 1) := by decide +kernel
theorem dX9_kinds_16 : decode cX9_kinds 16 = .ok (.if_icmp .ge 30, 3) := by decide +kernel
theorem dX9_kinds_19 : decode cX9_kinds 19 = .ok (.iload_n 2, 1) := by decide +kernel
theorem dX9_kinds_20 : decode cX9_kinds 20 = .ok (.aload_n 0, 1) := by decide +kernel
theorem dX9_kinds_21 : decode cX9_kinds 21 = .ok (.bipush 24, 2) := by decide +kernel
theorem dX9_kinds_23 : decode cX9_kinds 23 = .ok (.iconst 4, 1) := by decide +kernel
theorem dX9_kinds_24 : decode cX9_kinds 24 = .ok (.iload_n 1, 1) := by decide +kernel
theorem dX9_kinds_25 : decode cX9_kinds 25 = .ok (.imul, 1) := by decide +kernel
theorem dX9_kinds_26 : decode cX9_kinds 26 = .ok (.iadd, 1) := by decide +kernel
theorem dX9_kinds_27 : decode cX9_kinds 27 = .ok (.iconst 0, 1) := by decide +kernel
theorem dX9_kinds_28 : decode cX9_kinds 28 = .ok (.iadd, 1) := by decide +kernel
theorem dX9_kinds_29 : decode cX9_kinds 29 = .ok (.iload_n 3, 1) := by decide +kernel
theorem dX9_kinds_30 : decode cX9_kinds 30 = .ok (.invokevirtual 303, 3) := by decide +kernel
theorem dX9_kinds_33 : decode cX9_kinds 33 = .ok (.invokestatic 200, 3) := by decide +kernel
theorem dX9_kinds_36 : decode cX9_kinds 36 = .ok (.iload_n 3, 1) := by decide +kernel
theorem dX9_kinds_37 : decode cX9_kinds 37 = .ok (.ishl, 1) := by decide +kernel
theorem dX9_kinds_38 : decode cX9_kinds 38 = .ok (.ior, 1) := by decide +kernel
theorem dX9_kinds_39 : decode cX9_kinds 39 = .ok (.istore_n 2, 1) := by decide +kernel
theorem dX9_kinds_40 : decode cX9_kinds 40 = .ok (.iinc 3 1, 3) := by decide +kernel
theorem dX9_kinds_43 : decode cX9_kinds 43 = .ok (.goto (-29), 3) := by decide +kernel
theorem dX9_kinds_46 : decode cX9_kinds 46 = .ok (.iload_n 2, 1) := by decide +kernel
theorem dX9_kinds_47 : decode cX9_kinds 47 = .ok (.ireturn, 1) := by decide +kernel
theorem dX9_heights_0 : decode cX9_heights 0 = .ok (.aload_n 0, 1) := by decide +kernel
theorem dX9_heights_1 : decode cX9_heights 1 = .ok (.iload_n 1, 1) := by decide +kernel
theorem dX9_heights_2 : decode cX9_heights 2 = .ok (.invokevirtual 210, 3) := by decide +kernel
theorem dX9_heights_5 : decode cX9_heights 5 = .ok (.ifCond .ne 5, 3) := by decide +kernel
theorem dX9_heights_8 : decode cX9_heights 8 = .ok (.iconst (-1), 1) := by decide +kernel
theorem dX9_heights_9 : decode cX9_heights 9 = .ok (.ireturn, 1) := by decide +kernel
theorem dX9_heights_10 : decode cX9_heights 10 = .ok (.iconst 0, 1) := by decide +kernel
theorem dX9_heights_11 : decode cX9_heights 11 = .ok (.istore_n 2, 1) := by decide +kernel
theorem dX9_heights_12 : decode cX9_heights 12 = .ok (.iconst 0, 1) := by decide +kernel
theorem dX9_heights_13 : decode cX9_heights 13 = .ok (.istore_n 3, 1) := by decide +kernel
theorem dX9_heights_14 : decode cX9_heights 14 = .ok (.iload_n 3, 1) := by decide +kernel
theorem dX9_heights_15 : decode cX9_heights 15 = .ok (.bipush 9, 2) := by decide +kernel
theorem dX9_heights_17 : decode cX9_heights 17 = .ok (.if_icmp .gt 27, 3) := by decide +kernel
theorem dX9_heights_20 : decode cX9_heights 20 = .ok (.iload_n 2, 1) := by decide +kernel
theorem dX9_heights_21 : decode cX9_heights 21 = .ok (.aload_n 0, 1) := by decide +kernel
theorem dX9_heights_22 : decode cX9_heights 22 = .ok (.iconst 3, 1) := by decide +kernel
theorem dX9_heights_23 : decode cX9_heights 23 = .ok (.iload_n 1, 1) := by decide +kernel
theorem dX9_heights_24 : decode cX9_heights 24 = .ok (.imul, 1) := by decide +kernel
theorem dX9_heights_25 : decode cX9_heights 25 = .ok (.iconst 1, 1) := by decide +kernel
theorem dX9_heights_26 : decode cX9_heights 26 = .ok (.iadd, 1) := by decide +kernel
theorem dX9_heights_27 : decode cX9_heights 27 = .ok (.iload_n 3, 1) := by decide +kernel
theorem dX9_heights_28 : decode cX9_heights 28 = .ok (.invokevirtual 303, 3) := by decide +kernel
theorem dX9_heights_31 : decode cX9_heights 31 = .ok (.invokestatic 200, 3) := by decide +kernel
theorem dX9_heights_34 : decode cX9_heights 34 = .ok (.iload_n 3, 1) := by decide +kernel
theorem dX9_heights_35 : decode cX9_heights 35 = .ok (.ishl, 1) := by decide +kernel
theorem dX9_heights_36 : decode cX9_heights 36 = .ok (.ior, 1) := by decide +kernel
theorem dX9_heights_37 : decode cX9_heights 37 = .ok (.istore_n 2, 1) := by decide +kernel
theorem dX9_heights_38 : decode cX9_heights 38 = .ok (.iinc 3 1, 3) := by decide +kernel
theorem dX9_heights_41 : decode cX9_heights 41 = .ok (.goto (-27), 3) := by decide +kernel
theorem dX9_heights_44 : decode cX9_heights 44 = .ok (.iload_n 2, 1) := by decide +kernel
theorem dX9_heights_45 : decode cX9_heights 45 = .ok (.ireturn, 1) := by decide +kernel
theorem dX9_ask_0 : decode cX9_ask 0 = .ok (.aload_n 0, 1) := by decide +kernel
theorem dX9_ask_1 : decode cX9_ask 1 = .ok (.iload_n 1, 1) := by decide +kernel
theorem dX9_ask_2 : decode cX9_ask 2 = .ok (.invokevirtual 210, 3) := by decide +kernel
theorem dX9_ask_5 : decode cX9_ask 5 = .ok (.ifCond .eq 10, 3) := by decide +kernel
theorem dX9_ask_8 : decode cX9_ask 8 = .ok (.iload_n 2, 1) := by decide +kernel
theorem dX9_ask_9 : decode cX9_ask 9 = .ok (.invokestatic 253, 3) := by decide +kernel
theorem dX9_ask_12 : decode cX9_ask 12 = .ok (.ifCond .ne 5, 3) := by decide +kernel
theorem dX9_ask_15 : decode cX9_ask 15 = .ok (.iconst (-1), 1) := by decide +kernel
theorem dX9_ask_16 : decode cX9_ask 16 = .ok (.ireturn, 1) := by decide +kernel
theorem dX9_ask_17 : decode cX9_ask 17 = .ok (.iconst 0, 1) := by decide +kernel
theorem dX9_ask_18 : decode cX9_ask 18 = .ok (.istore_n 3, 1) := by decide +kernel
theorem dX9_ask_19 : decode cX9_ask 19 = .ok (.iconst 0, 1) := by decide +kernel
theorem dX9_ask_20 : decode cX9_ask 20 = .ok (.istore 4, 2) := by decide +kernel
theorem dX9_ask_22 : decode cX9_ask 22 = .ok (.iload 4, 2) := by decide +kernel
theorem dX9_ask_24 : decode cX9_ask 24 = .ok (.bipush 9, 2) := by decide +kernel
theorem dX9_ask_26 : decode cX9_ask 26 = .ok (.if_icmp .gt 61, 3) := by decide +kernel
theorem dX9_ask_29 : decode cX9_ask 29 = .ok (.aload_n 0, 1) := by decide +kernel
theorem dX9_ask_30 : decode cX9_ask 30 = .ok (.iconst 3, 1) := by decide +kernel
theorem dX9_ask_31 : decode cX9_ask 31 = .ok (.iload_n 1, 1) := by decide +kernel
theorem dX9_ask_32 : decode cX9_ask 32 = .ok (.imul, 1) := by decide +kernel
theorem dX9_ask_33 : decode cX9_ask 33 = .ok (.iconst 1, 1) := by decide +kernel
theorem dX9_ask_34 : decode cX9_ask 34 = .ok (.iadd, 1) := by decide +kernel
theorem dX9_ask_35 : decode cX9_ask 35 = .ok (.iload 4, 2) := by decide +kernel
theorem dX9_ask_37 : decode cX9_ask 37 = .ok (.invokevirtual 303, 3) := by decide +kernel
theorem dX9_ask_40 : decode cX9_ask 40 = .ok (.ifCond .eq 41, 3) := by decide +kernel
theorem dX9_ask_43 : decode cX9_ask 43 = .ok (.iconst 0, 1) := by decide +kernel
theorem dX9_ask_44 : decode cX9_ask 44 = .ok (.istore 5, 2) := by decide +kernel
theorem dX9_ask_46 : decode cX9_ask 46 = .ok (.iload 5, 2) := by decide +kernel
theorem dX9_ask_48 : decode cX9_ask 48 = .ok (.bipush 84, 2) := by decide +kernel
theorem dX9_ask_50 : decode cX9_ask 50 = .ok (.if_icmp .ge 28, 3) := by decide +kernel
theorem dX9_ask_53 : decode cX9_ask 53 = .ok (.aload_n 0, 1) := by decide +kernel
theorem dX9_ask_54 : decode cX9_ask 54 = .ok (.getfield 35, 3) := by decide +kernel
theorem dX9_ask_57 : decode cX9_ask 57 = .ok (.bipush 84, 2) := by decide +kernel
theorem dX9_ask_59 : decode cX9_ask 59 = .ok (.iload_n 3, 1) := by decide +kernel
theorem dX9_ask_60 : decode cX9_ask 60 = .ok (.imul, 1) := by decide +kernel
theorem dX9_ask_61 : decode cX9_ask 61 = .ok (.iload 5, 2) := by decide +kernel
theorem dX9_ask_63 : decode cX9_ask 63 = .ok (.iadd, 1) := by decide +kernel
theorem dX9_ask_64 : decode cX9_ask 64 = .ok (.aload_n 0, 1) := by decide +kernel
theorem dX9_ask_65 : decode cX9_ask 65 = .ok (.getfield 32, 3) := by decide +kernel
theorem dX9_ask_68 : decode cX9_ask 68 = .ok (.iload 5, 2) := by decide +kernel
theorem dX9_ask_70 : decode cX9_ask 70 = .ok (.iaload, 1) := by decide +kernel
theorem dX9_ask_71 : decode cX9_ask 71 = .ok (.iastore, 1) := by decide +kernel
theorem dX9_ask_72 : decode cX9_ask 72 = .ok (.iinc 5 1, 3) := by decide +kernel
theorem dX9_ask_75 : decode cX9_ask 75 = .ok (.goto (-29), 3) := by decide +kernel
theorem dX9_ask_78 : decode cX9_ask 78 = .ok (.iinc 3 1, 3) := by decide +kernel
theorem dX9_ask_81 : decode cX9_ask 81 = .ok (.iinc 4 1, 3) := by decide +kernel
theorem dX9_ask_84 : decode cX9_ask 84 = .ok (.goto (-62), 3) := by decide +kernel
theorem dX9_ask_87 : decode cX9_ask 87 = .ok (.iload_n 3, 1) := by decide +kernel
theorem dX9_ask_88 : decode cX9_ask 88 = .ok (.istore 4, 2) := by decide +kernel
theorem dX9_ask_90 : decode cX9_ask 90 = .ok (.bipush (-4), 2) := by decide +kernel
theorem dX9_ask_92 : decode cX9_ask 92 = .ok (.istore 5, 2) := by decide +kernel
theorem dX9_ask_94 : decode cX9_ask 94 = .ok (.iconst 0, 1) := by decide +kernel
theorem dX9_ask_95 : decode cX9_ask 95 = .ok (.istore 6, 2) := by decide +kernel
theorem dX9_ask_97 : decode cX9_ask 97 = .ok (.iload 6, 2) := by decide +kernel
theorem dX9_ask_99 : decode cX9_ask 99 = .ok (.bipush 84, 2) := by decide +kernel
theorem dX9_ask_101 : decode cX9_ask 101 = .ok (.if_icmp .ge 129, 3) := by decide +kernel
theorem dX9_ask_104 : decode cX9_ask 104 = .ok (.iconst 0, 1) := by decide +kernel
theorem dX9_ask_105 : decode cX9_ask 105 = .ok (.istore 7, 2) := by decide +kernel
theorem dX9_ask_107 : decode cX9_ask 107 = .ok (.iconst 0, 1) := by decide +kernel
theorem dX9_ask_108 : decode cX9_ask 108 = .ok (.istore 8, 2) := by decide +kernel
theorem dX9_ask_110 : decode cX9_ask 110 = .ok (.iload 8, 2) := by decide +kernel
theorem dX9_ask_112 : decode cX9_ask 112 = .ok (.iload_n 3, 1) := by decide +kernel
theorem dX9_ask_113 : decode cX9_ask 113 = .ok (.if_icmp .ge 85, 3) := by decide +kernel
theorem dX9_ask_116 : decode cX9_ask 116 = .ok (.iconst 0, 1) := by decide +kernel
theorem dX9_ask_117 : decode cX9_ask 117 = .ok (.istore 9, 2) := by decide +kernel
theorem dX9_ask_119 : decode cX9_ask 119 = .ok (.iconst 0, 1) := by decide +kernel
theorem dX9_ask_120 : decode cX9_ask 120 = .ok (.istore 10, 2) := by decide +kernel
theorem dX9_ask_122 : decode cX9_ask 122 = .ok (.iload 10, 2) := by decide +kernel
theorem dX9_ask_124 : decode cX9_ask 124 = .ok (.iload_n 3, 1) := by decide +kernel
theorem dX9_ask_125 : decode cX9_ask 125 = .ok (.if_icmp .ge 51, 3) := by decide +kernel
theorem dX9_ask_128 : decode cX9_ask 128 = .ok (.iload 9, 2) := by decide +kernel
theorem dX9_ask_130 : decode cX9_ask 130 = .ok (.aload_n 0, 1) := by decide +kernel
theorem dX9_ask_131 : decode cX9_ask 131 = .ok (.getfield 35, 3) := by decide +kernel
theorem dX9_ask_134 : decode cX9_ask 134 = .ok (.bipush 84, 2) := by decide +kernel
theorem dX9_ask_136 : decode cX9_ask 136 = .ok (.iload 8, 2) := by decide +kernel
theorem dX9_ask_138 : decode cX9_ask 138 = .ok (.imul, 1) := by decide +kernel
theorem dX9_ask_139 : decode cX9_ask 139 = .ok (.iload 6, 2) := by decide +kernel
theorem dX9_ask_141 : decode cX9_ask 141 = .ok (.iadd, 1) := by decide +kernel
theorem dX9_ask_142 : decode cX9_ask 142 = .ok (.iaload, 1) := by decide +kernel
theorem dX9_ask_143 : decode cX9_ask 143 = .ok (.aload_n 0, 1) := by decide +kernel
theorem dX9_ask_144 : decode cX9_ask 144 = .ok (.getfield 35, 3) := by decide +kernel
theorem dX9_ask_147 : decode cX9_ask 147 = .ok (.bipush 84, 2) := by decide +kernel
theorem dX9_ask_149 : decode cX9_ask 149 = .ok (.iload 10, 2) := by decide +kernel
theorem dX9_ask_151 : decode cX9_ask 151 = .ok (.imul, 1) := by decide +kernel
theorem dX9_ask_152 : decode cX9_ask 152 = .ok (.iload 6, 2) := by decide +kernel
theorem dX9_ask_154 : decode cX9_ask 154 = .ok (.iadd, 1) := by decide +kernel
theorem dX9_ask_155 : decode cX9_ask 155 = .ok (.iaload, 1) := by decide +kernel
theorem dX9_ask_156 : decode cX9_ask 156 = .ok (.if_icmp .ne 7, 3) := by decide +kernel
theorem dX9_ask_159 : decode cX9_ask 159 = .ok (.iconst 1, 1) := by decide +kernel
theorem dX9_ask_160 : decode cX9_ask 160 = .ok (.goto 4, 3) := by decide +kernel
theorem dX9_ask_163 : decode cX9_ask 163 = .ok (.iconst 0, 1) := by decide +kernel
theorem dX9_ask_164 : decode cX9_ask 164 = .ok (.invokestatic 200, 3) := by decide +kernel
theorem dX9_ask_167 : decode cX9_ask 167 = .ok (.iadd, 1) := by decide +kernel
theorem dX9_ask_168 : decode cX9_ask 168 = .ok (.istore 9, 2) := by decide +kernel
theorem dX9_ask_170 : decode cX9_ask 170 = .ok (.iinc 10 1, 3) := by decide +kernel
theorem dX9_ask_173 : decode cX9_ask 173 = .ok (.goto (-51), 3) := by decide +kernel
theorem dX9_ask_176 : decode cX9_ask 176 = .ok (.iload 9, 2) := by decide +kernel
theorem dX9_ask_178 : decode cX9_ask 178 = .ok (.iload 7, 2) := by decide +kernel
theorem dX9_ask_180 : decode cX9_ask 180 = .ok (.if_icmp .le 8, 3) := by decide +kernel
theorem dX9_ask_183 : decode cX9_ask 183 = .ok (.iload 9, 2) := by decide +kernel
theorem dX9_ask_185 : decode cX9_ask 185 = .ok (.goto 5, 3) := by decide +kernel
theorem dX9_ask_188 : decode cX9_ask 188 = .ok (.iload 7, 2) := by decide +kernel
theorem dX9_ask_190 : decode cX9_ask 190 = .ok (.istore 7, 2) := by decide +kernel
theorem dX9_ask_192 : decode cX9_ask 192 = .ok (.iinc 8 1, 3) := by decide +kernel
theorem dX9_ask_195 : decode cX9_ask 195 = .ok (.goto (-85), 3) := by decide +kernel
theorem dX9_ask_198 : decode cX9_ask 198 = .ok (.iload 6, 2) := by decide +kernel
theorem dX9_ask_200 : decode cX9_ask 200 = .ok (.iconst 4, 1) := by decide +kernel
theorem dX9_ask_201 : decode cX9_ask 201 = .ok (.irem, 1) := by decide +kernel
theorem dX9_ask_202 : decode cX9_ask 202 = .ok (.aload_n 0, 1) := by decide +kernel
theorem dX9_ask_203 : decode cX9_ask 203 = .ok (.getfield 73, 3) := by decide +kernel
theorem dX9_ask_206 : decode cX9_ask 206 = .ok (.if_icmp .ge 18, 3) := by decide +kernel
theorem dX9_ask_209 : decode cX9_ask 209 = .ok (.iload 7, 2) := by decide +kernel
theorem dX9_ask_211 : decode cX9_ask 211 = .ok (.iload 4, 2) := by decide +kernel
theorem dX9_ask_213 : decode cX9_ask 213 = .ok (.if_icmp .ge 11, 3) := by decide +kernel
theorem dX9_ask_216 : decode cX9_ask 216 = .ok (.iload 7, 2) := by decide +kernel
theorem dX9_ask_218 : decode cX9_ask 218 = .ok (.istore 4, 2) := by decide +kernel
theorem dX9_ask_220 : decode cX9_ask 220 = .ok (.iload 6, 2) := by decide +kernel
theorem dX9_ask_222 : decode cX9_ask 222 = .ok (.istore 5, 2) := by decide +kernel
theorem dX9_ask_224 : decode cX9_ask 224 = .ok (.iinc 6 1, 3) := by decide +kernel
theorem dX9_ask_227 : decode cX9_ask 227 = .ok (.goto (-130), 3) := by decide +kernel
theorem dX9_ask_230 : decode cX9_ask 230 = .ok (.iload 5, 2) := by decide +kernel
theorem dX9_ask_232 : decode cX9_ask 232 = .ok (.bipush (-4), 2) := by decide +kernel
theorem dX9_ask_234 : decode cX9_ask 234 = .ok (.if_icmp .ne 8, 3) := by decide +kernel
theorem dX9_ask_237 : decode cX9_ask 237 = .ok (.bipush (-4), 2) := by decide +kernel
theorem dX9_ask_239 : decode cX9_ask 239 = .ok (.goto 24, 3) := by decide +kernel
theorem dX9_ask_242 : decode cX9_ask 242 = .ok (.iload_n 2, 1) := by decide +kernel
theorem dX9_ask_243 : decode cX9_ask 243 = .ok (.ifCond .ne 18, 3) := by decide +kernel
theorem dX9_ask_246 : decode cX9_ask 246 = .ok (.bipush 10, 2) := by decide +kernel
theorem dX9_ask_248 : decode cX9_ask 248 = .ok (.iload 5, 2) := by decide +kernel
theorem dX9_ask_250 : decode cX9_ask 250 = .ok (.iconst 4, 1) := by decide +kernel
theorem dX9_ask_251 : decode cX9_ask 251 = .ok (.idiv, 1) := by decide +kernel
theorem dX9_ask_252 : decode cX9_ask 252 = .ok (.imul, 1) := by decide +kernel
theorem dX9_ask_253 : decode cX9_ask 253 = .ok (.iload 5, 2) := by decide +kernel
theorem dX9_ask_255 : decode cX9_ask 255 = .ok (.iconst 4, 1) := by decide +kernel
theorem dX9_ask_256 : decode cX9_ask 256 = .ok (.irem, 1) := by decide +kernel
theorem dX9_ask_257 : decode cX9_ask 257 = .ok (.iadd, 1) := by decide +kernel
theorem dX9_ask_258 : decode cX9_ask 258 = .ok (.goto 5, 3) := by decide +kernel
theorem dX9_ask_261 : decode cX9_ask 261 = .ok (.iload 4, 2) := by decide +kernel
theorem dX9_ask_263 : decode cX9_ask 263 = .ok (.ireturn, 1) := by decide +kernel
theorem dX9_drift_0 : decode cX9_drift 0 = .ok (.iload_n 2, 1) := by decide +kernel
theorem dX9_drift_1 : decode cX9_drift 1 = .ok (.i2l, 1) := by decide +kernel
theorem dX9_drift_2 : decode cX9_drift 2 = .ok (.lconst 1, 1) := by decide +kernel
theorem dX9_drift_3 : decode cX9_drift 3 = .ok (.ldc2_w 248, 3) := by decide +kernel
theorem dX9_drift_6 : decode cX9_drift 6 = .ok (.invokestatic 78, 3) := by decide +kernel
theorem dX9_drift_9 : decode cX9_drift 9 = .ok (.ifCond .eq 10, 3) := by decide +kernel
theorem dX9_drift_12 : decode cX9_drift 12 = .ok (.iload_n 3, 1) := by decide +kernel
theorem dX9_drift_13 : decode cX9_drift 13 = .ok (.invokestatic 253, 3) := by decide +kernel
theorem dX9_drift_16 : decode cX9_drift 16 = .ok (.ifCond .ne 5, 3) := by decide +kernel
theorem dX9_drift_19 : decode cX9_drift 19 = .ok (.iconst (-1), 1) := by decide +kernel
theorem dX9_drift_20 : decode cX9_drift 20 = .ok (.ireturn, 1) := by decide +kernel
theorem dX9_drift_21 : decode cX9_drift 21 = .ok (.aload_n 0, 1) := by decide +kernel
theorem dX9_drift_22 : decode cX9_drift 22 = .ok (.getfield 70, 3) := by decide +kernel
theorem dX9_drift_25 : decode cX9_drift 25 = .ok (.ifCond .eq 10, 3) := by decide +kernel
theorem dX9_drift_28 : decode cX9_drift 28 = .ok (.aload_n 0, 1) := by decide +kernel
theorem dX9_drift_29 : decode cX9_drift 29 = .ok (.getfield 73, 3) := by decide +kernel
theorem dX9_drift_32 : decode cX9_drift 32 = .ok (.ifCond .ne 6, 3) := by decide +kernel
theorem dX9_drift_35 : decode cX9_drift 35 = .ok (.bipush (-2), 2) := by decide +kernel
theorem dX9_drift_37 : decode cX9_drift 37 = .ok (.ireturn, 1) := by decide +kernel
theorem dX9_drift_38 : decode cX9_drift 38 = .ok (.iload_n 1, 1) := by decide +kernel
theorem dX9_drift_39 : decode cX9_drift 39 = .ok (.istore 4, 2) := by decide +kernel
theorem dX9_drift_41 : decode cX9_drift 41 = .ok (.aload_n 0, 1) := by decide +kernel
theorem dX9_drift_42 : decode cX9_drift 42 = .ok (.invokevirtual 204, 3) := by decide +kernel
theorem dX9_drift_45 : decode cX9_drift 45 = .ok (.aload_n 0, 1) := by decide +kernel
theorem dX9_drift_46 : decode cX9_drift 46 = .ok (.invokevirtual 194, 3) := by decide +kernel
theorem dX9_drift_49 : decode cX9_drift 49 = .ok (.iconst 0, 1) := by decide +kernel
theorem dX9_drift_50 : decode cX9_drift 50 = .ok (.istore 5, 2) := by decide +kernel
theorem dX9_drift_52 : decode cX9_drift 52 = .ok (.iload 5, 2) := by decide +kernel
theorem dX9_drift_54 : decode cX9_drift 54 = .ok (.iload_n 2, 1) := by decide +kernel
theorem dX9_drift_55 : decode cX9_drift 55 = .ok (.if_icmp .ge 85, 3) := by decide +kernel
theorem dX9_drift_58 : decode cX9_drift 58 = .ok (.iload 4, 2) := by decide +kernel
theorem dX9_drift_60 : decode cX9_drift 60 = .ok (.ldc_w 306, 3) := by decide +kernel
theorem dX9_drift_63 : decode cX9_drift 63 = .ok (.imul, 1) := by decide +kernel
theorem dX9_drift_64 : decode cX9_drift 64 = .ok (.sipush 12345, 3) := by decide +kernel
theorem dX9_drift_67 : decode cX9_drift 67 = .ok (.iadd, 1) := by decide +kernel
theorem dX9_drift_68 : decode cX9_drift 68 = .ok (.istore 4, 2) := by decide +kernel
theorem dX9_drift_70 : decode cX9_drift 70 = .ok (.iload 4, 2) := by decide +kernel
theorem dX9_drift_72 : decode cX9_drift 72 = .ok (.bipush 16, 2) := by decide +kernel
theorem dX9_drift_74 : decode cX9_drift 74 = .ok (.ishr, 1) := by decide +kernel
theorem dX9_drift_75 : decode cX9_drift 75 = .ok (.sipush 32767, 3) := by decide +kernel
theorem dX9_drift_78 : decode cX9_drift 78 = .ok (.iand, 1) := by decide +kernel
theorem dX9_drift_79 : decode cX9_drift 79 = .ok (.istore 6, 2) := by decide +kernel
theorem dX9_drift_81 : decode cX9_drift 81 = .ok (.iload 6, 2) := by decide +kernel
theorem dX9_drift_83 : decode cX9_drift 83 = .ok (.aload_n 0, 1) := by decide +kernel
theorem dX9_drift_84 : decode cX9_drift 84 = .ok (.getfield 73, 3) := by decide +kernel
theorem dX9_drift_87 : decode cX9_drift 87 = .ok (.irem, 1) := by decide +kernel
theorem dX9_drift_88 : decode cX9_drift 88 = .ok (.istore 7, 2) := by decide +kernel
theorem dX9_drift_90 : decode cX9_drift 90 = .ok (.aload_n 0, 1) := by decide +kernel
theorem dX9_drift_91 : decode cX9_drift 91 = .ok (.iload 7, 2) := by decide +kernel
theorem dX9_drift_93 : decode cX9_drift 93 = .ok (.iconst 1, 1) := by decide +kernel
theorem dX9_drift_94 : decode cX9_drift 94 = .ok (.iload 6, 2) := by decide +kernel
theorem dX9_drift_96 : decode cX9_drift 96 = .ok (.bipush 8, 2) := by decide +kernel
theorem dX9_drift_98 : decode cX9_drift 98 = .ok (.idiv, 1) := by decide +kernel
theorem dX9_drift_99 : decode cX9_drift 99 = .ok (.aload_n 0, 1) := by decide +kernel
theorem dX9_drift_100 : decode cX9_drift 100 = .ok (.getfield 70, 3) := by decide +kernel
theorem dX9_drift_103 : decode cX9_drift 103 = .ok (.irem, 1) := by decide +kernel
theorem dX9_drift_104 : decode cX9_drift 104 = .ok (.invokevirtual 174, 3) := by decide +kernel
theorem dX9_drift_107 : decode cX9_drift 107 = .ok (.aload_n 0, 1) := by decide +kernel
theorem dX9_drift_108 : decode cX9_drift 108 = .ok (.iload 7, 2) := by decide +kernel
theorem dX9_drift_110 : decode cX9_drift 110 = .ok (.iconst 3, 1) := by decide +kernel
theorem dX9_drift_111 : decode cX9_drift 111 = .ok (.iconst 0, 1) := by decide +kernel
theorem dX9_drift_112 : decode cX9_drift 112 = .ok (.invokevirtual 174, 3) := by decide +kernel
theorem dX9_drift_115 : decode cX9_drift 115 = .ok (.aload_n 0, 1) := by decide +kernel
theorem dX9_drift_116 : decode cX9_drift 116 = .ok (.getfield 13, 3) := by decide +kernel
theorem dX9_drift_119 : decode cX9_drift 119 = .ok (.bipush 40, 2) := by decide +kernel
theorem dX9_drift_121 : decode cX9_drift 121 = .ok (.iload 6, 2) := by decide +kernel
theorem dX9_drift_123 : decode cX9_drift 123 = .ok (.bipush 64, 2) := by decide +kernel
theorem dX9_drift_125 : decode cX9_drift 125 = .ok (.idiv, 1) := by decide +kernel
theorem dX9_drift_126 : decode cX9_drift 126 = .ok (.bipush 8, 2) := by decide +kernel
theorem dX9_drift_128 : decode cX9_drift 128 = .ok (.irem, 1) := by decide +kernel
theorem dX9_drift_129 : decode cX9_drift 129 = .ok (.iastore, 1) := by decide +kernel
theorem dX9_drift_130 : decode cX9_drift 130 = .ok (.aload_n 0, 1) := by decide +kernel
theorem dX9_drift_131 : decode cX9_drift 131 = .ok (.invokevirtual 197, 3) := by decide +kernel
theorem dX9_drift_134 : decode cX9_drift 134 = .ok (.iinc 5 1, 3) := by decide +kernel
theorem dX9_drift_137 : decode cX9_drift 137 = .ok (.goto (-85), 3) := by decide +kernel
theorem dX9_drift_140 : decode cX9_drift 140 = .ok (.iload_n 3, 1) := by decide +kernel
theorem dX9_drift_141 : decode cX9_drift 141 = .ok (.ifCond .ne 10, 3) := by decide +kernel
theorem dX9_drift_144 : decode cX9_drift 144 = .ok (.aload_n 0, 1) := by decide +kernel
theorem dX9_drift_145 : decode cX9_drift 145 = .ok (.getfield 162, 3) := by decide +kernel
theorem dX9_drift_148 : decode cX9_drift 148 = .ok (.goto 7, 3) := by decide +kernel
theorem dX9_drift_151 : decode cX9_drift 151 = .ok (.aload_n 0, 1) := by decide +kernel
theorem dX9_drift_152 : decode cX9_drift 152 = .ok (.getfield 165, 3) := by decide +kernel
theorem dX9_drift_155 : decode cX9_drift 155 = .ok (.ireturn, 1) := by decide +kernel
theorem dX9_copies_0 : decode cX9_copies 0 = .ok (.iconst 0, 1) := by decide +kernel
theorem dX9_copies_1 : decode cX9_copies 1 = .ok (.istore_n 3, 1) := by decide +kernel
theorem dX9_copies_2 : decode cX9_copies 2 = .ok (.iload_n 3, 1) := by decide +kernel
theorem dX9_copies_3 : decode cX9_copies 3 = .ok (.bipush 62, 2) := by decide +kernel
theorem dX9_copies_5 : decode cX9_copies 5 = .ok (.if_icmp .ge 25, 3) := by decide +kernel
theorem dX9_copies_8 : decode cX9_copies 8 = .ok (.aload_n 0, 1) := by decide +kernel
theorem dX9_copies_9 : decode cX9_copies 9 = .ok (.getfield 7, 3) := by decide +kernel
theorem dX9_copies_12 : decode cX9_copies 12 = .ok (.iload_n 1, 1) := by decide +kernel
theorem dX9_copies_13 : decode cX9_copies 13 = .ok (.iload_n 3, 1) := by decide +kernel
theorem dX9_copies_14 : decode cX9_copies 14 = .ok (.iadd, 1) := by decide +kernel
theorem dX9_copies_15 : decode cX9_copies 15 = .ok (.aload_n 0, 1) := by decide +kernel
theorem dX9_copies_16 : decode cX9_copies 16 = .ok (.getfield 7, 3) := by decide +kernel
theorem dX9_copies_19 : decode cX9_copies 19 = .ok (.iload_n 2, 1) := by decide +kernel
theorem dX9_copies_20 : decode cX9_copies 20 = .ok (.iload_n 3, 1) := by decide +kernel
theorem dX9_copies_21 : decode cX9_copies 21 = .ok (.iadd, 1) := by decide +kernel
theorem dX9_copies_22 : decode cX9_copies 22 = .ok (.iaload, 1) := by decide +kernel
theorem dX9_copies_23 : decode cX9_copies 23 = .ok (.iastore, 1) := by decide +kernel
theorem dX9_copies_24 : decode cX9_copies 24 = .ok (.iinc 3 1, 3) := by decide +kernel
theorem dX9_copies_27 : decode cX9_copies 27 = .ok (.goto (-25), 3) := by decide +kernel
theorem dX9_copies_30 : decode cX9_copies 30 = .ok (.return_, 1) := by decide +kernel
theorem dX9_keep_0 : decode cX9_keep 0 = .ok (.iload_n 1, 1) := by decide +kernel
theorem dX9_keep_1 : decode cX9_keep 1 = .ok (.i2l, 1) := by decide +kernel
theorem dX9_keep_2 : decode cX9_keep 2 = .ok (.lconst 0, 1) := by decide +kernel
theorem dX9_keep_3 : decode cX9_keep 3 = .ok (.lconst 1, 1) := by decide +kernel
theorem dX9_keep_4 : decode cX9_keep 4 = .ok (.invokestatic 78, 3) := by decide +kernel
theorem dX9_keep_7 : decode cX9_keep 7 = .ok (.ifCond .ne 5, 3) := by decide +kernel
theorem dX9_keep_10 : decode cX9_keep 10 = .ok (.iconst (-1), 1) := by decide +kernel
theorem dX9_keep_11 : decode cX9_keep 11 = .ok (.ireturn, 1) := by decide +kernel
theorem dX9_keep_12 : decode cX9_keep 12 = .ok (.aload_n 0, 1) := by decide +kernel
theorem dX9_keep_13 : decode cX9_keep 13 = .ok (.getfield 16, 3) := by decide +kernel
theorem dX9_keep_16 : decode cX9_keep 16 = .ok (.iload_n 1, 1) := by decide +kernel
theorem dX9_keep_17 : decode cX9_keep 17 = .ok (.baload, 1) := by decide +kernel
theorem dX9_keep_18 : decode cX9_keep 18 = .ok (.invokestatic 200, 3) := by decide +kernel
theorem dX9_keep_21 : decode cX9_keep 21 = .ok (.istore_n 2, 1) := by decide +kernel
theorem dX9_keep_22 : decode cX9_keep 22 = .ok (.aload_n 0, 1) := by decide +kernel
theorem dX9_keep_23 : decode cX9_keep 23 = .ok (.getfield 16, 3) := by decide +kernel
theorem dX9_keep_26 : decode cX9_keep 26 = .ok (.iload_n 1, 1) := by decide +kernel
theorem dX9_keep_27 : decode cX9_keep 27 = .ok (.iconst 1, 1) := by decide +kernel
theorem dX9_keep_28 : decode cX9_keep 28 = .ok (.bastore, 1) := by decide +kernel
theorem dX9_keep_29 : decode cX9_keep 29 = .ok (.aload_n 0, 1) := by decide +kernel
theorem dX9_keep_30 : decode cX9_keep 30 = .ok (.bipush 62, 2) := by decide +kernel
theorem dX9_keep_32 : decode cX9_keep 32 = .ok (.iload_n 1, 1) := by decide +kernel
theorem dX9_keep_33 : decode cX9_keep 33 = .ok (.iconst 1, 1) := by decide +kernel
theorem dX9_keep_34 : decode cX9_keep 34 = .ok (.iadd, 1) := by decide +kernel
theorem dX9_keep_35 : decode cX9_keep 35 = .ok (.imul, 1) := by decide +kernel
theorem dX9_keep_36 : decode cX9_keep 36 = .ok (.iconst 0, 1) := by decide +kernel
theorem dX9_keep_37 : decode cX9_keep 37 = .ok (.invokevirtual 307, 3) := by decide +kernel
theorem dX9_keep_40 : decode cX9_keep 40 = .ok (.iload_n 2, 1) := by decide +kernel
theorem dX9_keep_41 : decode cX9_keep 41 = .ok (.ireturn, 1) := by decide +kernel
theorem dX9_back_0 : decode cX9_back 0 = .ok (.iload_n 1, 1) := by decide +kernel
theorem dX9_back_1 : decode cX9_back 1 = .ok (.i2l, 1) := by decide +kernel
theorem dX9_back_2 : decode cX9_back 2 = .ok (.lconst 0, 1) := by decide +kernel
theorem dX9_back_3 : decode cX9_back 3 = .ok (.lconst 1, 1) := by decide +kernel
theorem dX9_back_4 : decode cX9_back 4 = .ok (.invokestatic 78, 3) := by decide +kernel
theorem dX9_back_7 : decode cX9_back 7 = .ok (.ifCond .ne 5, 3) := by decide +kernel
theorem dX9_back_10 : decode cX9_back 10 = .ok (.iconst (-1), 1) := by decide +kernel
theorem dX9_back_11 : decode cX9_back 11 = .ok (.ireturn, 1) := by decide +kernel
theorem dX9_back_12 : decode cX9_back 12 = .ok (.aload_n 0, 1) := by decide +kernel
theorem dX9_back_13 : decode cX9_back 13 = .ok (.getfield 16, 3) := by decide +kernel
theorem dX9_back_16 : decode cX9_back 16 = .ok (.iload_n 1, 1) := by decide +kernel
theorem dX9_back_17 : decode cX9_back 17 = .ok (.baload, 1) := by decide +kernel
theorem dX9_back_18 : decode cX9_back 18 = .ok (.ifCond .ne 6, 3) := by decide +kernel
theorem dX9_back_21 : decode cX9_back 21 = .ok (.bipush (-2), 2) := by decide +kernel
theorem dX9_back_23 : decode cX9_back 23 = .ok (.ireturn, 1) := by decide +kernel
theorem dX9_back_24 : decode cX9_back 24 = .ok (.aload_n 0, 1) := by decide +kernel
theorem dX9_back_25 : decode cX9_back 25 = .ok (.iconst 0, 1) := by decide +kernel
theorem dX9_back_26 : decode cX9_back 26 = .ok (.bipush 62, 2) := by decide +kernel
theorem dX9_back_28 : decode cX9_back 28 = .ok (.iload_n 1, 1) := by decide +kernel
theorem dX9_back_29 : decode cX9_back 29 = .ok (.iconst 1, 1) := by decide +kernel
theorem dX9_back_30 : decode cX9_back 30 = .ok (.iadd, 1) := by decide +kernel
theorem dX9_back_31 : decode cX9_back 31 = .ok (.imul, 1) := by decide +kernel
theorem dX9_back_32 : decode cX9_back 32 = .ok (.invokevirtual 307, 3) := by decide +kernel
theorem dX9_back_35 : decode cX9_back 35 = .ok (.aload_n 0, 1) := by decide +kernel
theorem dX9_back_36 : decode cX9_back 36 = .ok (.getfield 7, 3) := by decide +kernel
theorem dX9_back_39 : decode cX9_back 39 = .ok (.bipush 41, 2) := by decide +kernel
theorem dX9_back_41 : decode cX9_back 41 = .ok (.iaload, 1) := by decide +kernel
theorem dX9_back_42 : decode cX9_back 42 = .ok (.ireturn, 1) := by decide +kernel
theorem dX9_isSheet_0 : decode cX9_isSheet 0 = .ok (.iload_n 0, 1) := by decide +kernel
theorem dX9_isSheet_1 : decode cX9_isSheet 1 = .ok (.i2l, 1) := by decide +kernel
theorem dX9_isSheet_2 : decode cX9_isSheet 2 = .ok (.lconst 0, 1) := by decide +kernel
theorem dX9_isSheet_3 : decode cX9_isSheet 3 = .ok (.ldc2_w 214, 3) := by decide +kernel
theorem dX9_isSheet_6 : decode cX9_isSheet 6 = .ok (.invokestatic 78, 3) := by decide +kernel
theorem dX9_isSheet_9 : decode cX9_isSheet 9 = .ok (.ifCond .eq 19, 3) := by decide +kernel
theorem dX9_isSheet_12 : decode cX9_isSheet 12 = .ok (.iload_n 1, 1) := by decide +kernel
theorem dX9_isSheet_13 : decode cX9_isSheet 13 = .ok (.i2l, 1) := by decide +kernel
theorem dX9_isSheet_14 : decode cX9_isSheet 14 = .ok (.lconst 0, 1) := by decide +kernel
theorem dX9_isSheet_15 : decode cX9_isSheet 15 = .ok (.ldc2_w 310, 3) := by decide +kernel
theorem dX9_isSheet_18 : decode cX9_isSheet 18 = .ok (.invokestatic 78, 3) := by decide +kernel
theorem dX9_isSheet_21 : decode cX9_isSheet 21 = .ok (.ifCond .eq 7, 3) := by decide +kernel
theorem dX9_isSheet_24 : decode cX9_isSheet 24 = .ok (.iconst 1, 1) := by decide +kernel
theorem dX9_isSheet_25 : decode cX9_isSheet 25 = .ok (.goto 4, 3) := by decide +kernel
theorem dX9_isSheet_28 : decode cX9_isSheet 28 = .ok (.iconst 0, 1) := by decide +kernel
theorem dX9_isSheet_29 : decode cX9_isSheet 29 = .ok (.ireturn, 1) := by decide +kernel
theorem dX9_sheet_0 : decode cX9_sheet 0 = .ok (.iload_n 1, 1) := by decide +kernel
theorem dX9_sheet_1 : decode cX9_sheet 1 = .ok (.iload_n 2, 1) := by decide +kernel
theorem dX9_sheet_2 : decode cX9_sheet 2 = .ok (.invokestatic 312, 3) := by decide +kernel
theorem dX9_sheet_5 : decode cX9_sheet 5 = .ok (.ifCond .eq 9, 3) := by decide +kernel
theorem dX9_sheet_8 : decode cX9_sheet 8 = .ok (.iload_n 3, 1) := by decide +kernel
theorem dX9_sheet_9 : decode cX9_sheet 9 = .ok (.bipush 40, 2) := by decide +kernel
theorem dX9_sheet_11 : decode cX9_sheet 11 = .ok (.if_icmp .le 5, 3) := by decide +kernel
theorem dX9_sheet_14 : decode cX9_sheet 14 = .ok (.iconst (-1), 1) := by decide +kernel
theorem dX9_sheet_15 : decode cX9_sheet 15 = .ok (.ireturn, 1) := by decide +kernel
theorem dX9_sheet_16 : decode cX9_sheet 16 = .ok (.iload_n 3, 1) := by decide +kernel
theorem dX9_sheet_17 : decode cX9_sheet 17 = .ok (.ifCond .ge 6, 3) := by decide +kernel
theorem dX9_sheet_20 : decode cX9_sheet 20 = .ok (.bipush (-14), 2) := by decide +kernel
theorem dX9_sheet_22 : decode cX9_sheet 22 = .ok (.ireturn, 1) := by decide +kernel
theorem dX9_sheet_23 : decode cX9_sheet 23 = .ok (.aload_n 0, 1) := by decide +kernel
theorem dX9_sheet_24 : decode cX9_sheet 24 = .ok (.getfield 38, 3) := by decide +kernel
theorem dX9_sheet_27 : decode cX9_sheet 27 = .ok (.iload_n 1, 1) := by decide +kernel
theorem dX9_sheet_28 : decode cX9_sheet 28 = .ok (.iload_n 2, 1) := by decide +kernel
theorem dX9_sheet_29 : decode cX9_sheet 29 = .ok (.iastore, 1) := by decide +kernel
theorem dX9_sheet_30 : decode cX9_sheet 30 = .ok (.aload_n 0, 1) := by decide +kernel
theorem dX9_sheet_31 : decode cX9_sheet 31 = .ok (.getfield 41, 3) := by decide +kernel
theorem dX9_sheet_34 : decode cX9_sheet 34 = .ok (.iload_n 1, 1) := by decide +kernel
theorem dX9_sheet_35 : decode cX9_sheet 35 = .ok (.iload_n 3, 1) := by decide +kernel
theorem dX9_sheet_36 : decode cX9_sheet 36 = .ok (.iastore, 1) := by decide +kernel
theorem dX9_sheet_37 : decode cX9_sheet 37 = .ok (.iconst 0, 1) := by decide +kernel
theorem dX9_sheet_38 : decode cX9_sheet 38 = .ok (.istore 4, 2) := by decide +kernel
theorem dX9_sheet_40 : decode cX9_sheet 40 = .ok (.iload 4, 2) := by decide +kernel
theorem dX9_sheet_42 : decode cX9_sheet 42 = .ok (.bipush 40, 2) := by decide +kernel
theorem dX9_sheet_44 : decode cX9_sheet 44 = .ok (.if_icmp .ge 22, 3) := by decide +kernel
theorem dX9_sheet_47 : decode cX9_sheet 47 = .ok (.aload_n 0, 1) := by decide +kernel
theorem dX9_sheet_48 : decode cX9_sheet 48 = .ok (.getfield 44, 3) := by decide +kernel
theorem dX9_sheet_51 : decode cX9_sheet 51 = .ok (.bipush 40, 2) := by decide +kernel
theorem dX9_sheet_53 : decode cX9_sheet 53 = .ok (.iload_n 1, 1) := by decide +kernel
theorem dX9_sheet_54 : decode cX9_sheet 54 = .ok (.imul, 1) := by decide +kernel
theorem dX9_sheet_55 : decode cX9_sheet 55 = .ok (.iload 4, 2) := by decide +kernel
theorem dX9_sheet_57 : decode cX9_sheet 57 = .ok (.iadd, 1) := by decide +kernel
theorem dX9_sheet_58 : decode cX9_sheet 58 = .ok (.iconst 0, 1) := by decide +kernel
theorem dX9_sheet_59 : decode cX9_sheet 59 = .ok (.iastore, 1) := by decide +kernel
theorem dX9_sheet_60 : decode cX9_sheet 60 = .ok (.iinc 4 1, 3) := by decide +kernel
theorem dX9_sheet_63 : decode cX9_sheet 63 = .ok (.goto (-23), 3) := by decide +kernel
theorem dX9_sheet_66 : decode cX9_sheet 66 = .ok (.iconst 1, 1) := by decide +kernel
theorem dX9_sheet_67 : decode cX9_sheet 67 = .ok (.ireturn, 1) := by decide +kernel
theorem dX9_lay_0 : decode cX9_lay 0 = .ok (.iload_n 1, 1) := by decide +kernel
theorem dX9_lay_1 : decode cX9_lay 1 = .ok (.iconst 0, 1) := by decide +kernel
theorem dX9_lay_2 : decode cX9_lay 2 = .ok (.invokestatic 312, 3) := by decide +kernel
theorem dX9_lay_5 : decode cX9_lay 5 = .ok (.ifCond .ne 5, 3) := by decide +kernel
theorem dX9_lay_8 : decode cX9_lay 8 = .ok (.iconst (-1), 1) := by decide +kernel
theorem dX9_lay_9 : decode cX9_lay 9 = .ok (.ireturn, 1) := by decide +kernel
theorem dX9_lay_10 : decode cX9_lay 10 = .ok (.aload_n 0, 1) := by decide +kernel
theorem dX9_lay_11 : decode cX9_lay 11 = .ok (.getfield 38, 3) := by decide +kernel
theorem dX9_lay_14 : decode cX9_lay 14 = .ok (.iload_n 1, 1) := by decide +kernel
theorem dX9_lay_15 : decode cX9_lay 15 = .ok (.iaload, 1) := by decide +kernel
theorem dX9_lay_16 : decode cX9_lay 16 = .ok (.bipush (-4), 2) := by decide +kernel
theorem dX9_lay_18 : decode cX9_lay 18 = .ok (.if_icmp .ne 6, 3) := by decide +kernel
theorem dX9_lay_21 : decode cX9_lay 21 = .ok (.bipush (-11), 2) := by decide +kernel
theorem dX9_lay_23 : decode cX9_lay 23 = .ok (.ireturn, 1) := by decide +kernel
theorem dX9_lay_24 : decode cX9_lay 24 = .ok (.iload_n 2, 1) := by decide +kernel
theorem dX9_lay_25 : decode cX9_lay 25 = .ok (.i2l, 1) := by decide +kernel
theorem dX9_lay_26 : decode cX9_lay 26 = .ok (.lconst 0, 1) := by decide +kernel
theorem dX9_lay_27 : decode cX9_lay 27 = .ok (.aload_n 0, 1) := by decide +kernel
theorem dX9_lay_28 : decode cX9_lay 28 = .ok (.getfield 41, 3) := by decide +kernel
theorem dX9_lay_31 : decode cX9_lay 31 = .ok (.iload_n 1, 1) := by decide +kernel
theorem dX9_lay_32 : decode cX9_lay 32 = .ok (.iaload, 1) := by decide +kernel
theorem dX9_lay_33 : decode cX9_lay 33 = .ok (.iconst 1, 1) := by decide +kernel
theorem dX9_lay_34 : decode cX9_lay 34 = .ok (.isub, 1) := by decide +kernel
theorem dX9_lay_35 : decode cX9_lay 35 = .ok (.i2l, 1) := by decide +kernel
theorem dX9_lay_36 : decode cX9_lay 36 = .ok (.invokestatic 78, 3) := by decide +kernel
theorem dX9_lay_39 : decode cX9_lay 39 = .ok (.ifCond .ne 6, 3) := by decide +kernel
theorem dX9_lay_42 : decode cX9_lay 42 = .ok (.bipush (-12), 2) := by decide +kernel
theorem dX9_lay_44 : decode cX9_lay 44 = .ok (.ireturn, 1) := by decide +kernel
theorem dX9_lay_45 : decode cX9_lay 45 = .ok (.aload_n 0, 1) := by decide +kernel
theorem dX9_lay_46 : decode cX9_lay 46 = .ok (.getfield 44, 3) := by decide +kernel
theorem dX9_lay_49 : decode cX9_lay 49 = .ok (.bipush 40, 2) := by decide +kernel
theorem dX9_lay_51 : decode cX9_lay 51 = .ok (.iload_n 1, 1) := by decide +kernel
theorem dX9_lay_52 : decode cX9_lay 52 = .ok (.imul, 1) := by decide +kernel
theorem dX9_lay_53 : decode cX9_lay 53 = .ok (.iload_n 2, 1) := by decide +kernel
theorem dX9_lay_54 : decode cX9_lay 54 = .ok (.iadd, 1) := by decide +kernel
theorem dX9_lay_55 : decode cX9_lay 55 = .ok (.aload_n 0, 1) := by decide +kernel
theorem dX9_lay_56 : decode cX9_lay 56 = .ok (.getfield 38, 3) := by decide +kernel
theorem dX9_lay_59 : decode cX9_lay 59 = .ok (.iload_n 1, 1) := by decide +kernel
theorem dX9_lay_60 : decode cX9_lay 60 = .ok (.iaload, 1) := by decide +kernel
theorem dX9_lay_61 : decode cX9_lay 61 = .ok (.ifCond .ne 8, 3) := by decide +kernel
theorem dX9_lay_64 : decode cX9_lay 64 = .ok (.iload_n 3, 1) := by decide +kernel
theorem dX9_lay_65 : decode cX9_lay 65 = .ok (.i2b, 1) := by decide +kernel
theorem dX9_lay_66 : decode cX9_lay 66 = .ok (.goto 19, 3) := by decide +kernel
theorem dX9_lay_69 : decode cX9_lay 69 = .ok (.aload_n 0, 1) := by decide +kernel
theorem dX9_lay_70 : decode cX9_lay 70 = .ok (.getfield 38, 3) := by decide +kernel
theorem dX9_lay_73 : decode cX9_lay 73 = .ok (.iload_n 1, 1) := by decide +kernel
theorem dX9_lay_74 : decode cX9_lay 74 = .ok (.iaload, 1) := by decide +kernel
theorem dX9_lay_75 : decode cX9_lay 75 = .ok (.iconst 1, 1) := by decide +kernel
theorem dX9_lay_76 : decode cX9_lay 76 = .ok (.if_icmp .ne 8, 3) := by decide +kernel
theorem dX9_lay_79 : decode cX9_lay 79 = .ok (.iload_n 3, 1) := by decide +kernel
theorem dX9_lay_80 : decode cX9_lay 80 = .ok (.i2s, 1) := by decide +kernel
theorem dX9_lay_81 : decode cX9_lay 81 = .ok (.goto 4, 3) := by decide +kernel
theorem dX9_lay_84 : decode cX9_lay 84 = .ok (.iload_n 3, 1) := by decide +kernel
theorem dX9_lay_85 : decode cX9_lay 85 = .ok (.iastore, 1) := by decide +kernel
theorem dX9_lay_86 : decode cX9_lay 86 = .ok (.iconst 1, 1) := by decide +kernel
theorem dX9_lay_87 : decode cX9_lay 87 = .ok (.ireturn, 1) := by decide +kernel
theorem dX9_read_0 : decode cX9_read 0 = .ok (.iload_n 1, 1) := by decide +kernel
theorem dX9_read_1 : decode cX9_read 1 = .ok (.iload_n 2, 1) := by decide +kernel
theorem dX9_read_2 : decode cX9_read 2 = .ok (.invokestatic 312, 3) := by decide +kernel
theorem dX9_read_5 : decode cX9_read 5 = .ok (.ifCond .eq 16, 3) := by decide +kernel
theorem dX9_read_8 : decode cX9_read 8 = .ok (.iload 4, 2) := by decide +kernel
theorem dX9_read_10 : decode cX9_read 10 = .ok (.i2l, 1) := by decide +kernel
theorem dX9_read_11 : decode cX9_read 11 = .ok (.lconst 0, 1) := by decide +kernel
theorem dX9_read_12 : decode cX9_read 12 = .ok (.ldc2_w 301, 3) := by decide +kernel
theorem dX9_read_15 : decode cX9_read 15 = .ok (.invokestatic 78, 3) := by decide +kernel
theorem dX9_read_18 : decode cX9_read 18 = .ok (.ifCond .ne 5, 3) := by decide +kernel
theorem dX9_read_21 : decode cX9_read 21 = .ok (.iconst (-1), 1) := by decide +kernel
theorem dX9_read_22 : decode cX9_read 22 = .ok (.ireturn, 1) := by decide +kernel
theorem dX9_read_23 : decode cX9_read 23 = .ok (.iconst 0, 1) := by decide +kernel
theorem dX9_read_24 : decode cX9_read 24 = .ok (.istore 5, 2) := by decide +kernel
theorem dX9_read_26 : decode cX9_read 26 = .ok (.iload 5, 2) := by decide +kernel
theorem dX9_read_28 : decode cX9_read 28 = .ok (.bipush 62, 2) := by decide +kernel
theorem dX9_read_30 : decode cX9_read 30 = .ok (.if_icmp .ge 23, 3) := by decide +kernel
theorem dX9_read_33 : decode cX9_read 33 = .ok (.aload_n 0, 1) := by decide +kernel
theorem dX9_read_34 : decode cX9_read 34 = .ok (.getfield 47, 3) := by decide +kernel
theorem dX9_read_37 : decode cX9_read 37 = .ok (.iload 5, 2) := by decide +kernel
theorem dX9_read_39 : decode cX9_read 39 = .ok (.aload_n 0, 1) := by decide +kernel
theorem dX9_read_40 : decode cX9_read 40 = .ok (.getfield 7, 3) := by decide +kernel
theorem dX9_read_43 : decode cX9_read 43 = .ok (.iload 5, 2) := by decide +kernel
theorem dX9_read_45 : decode cX9_read 45 = .ok (.iaload, 1) := by decide +kernel
theorem dX9_read_46 : decode cX9_read 46 = .ok (.iastore, 1) := by decide +kernel
theorem dX9_read_47 : decode cX9_read 47 = .ok (.iinc 5 1, 3) := by decide +kernel
theorem dX9_read_50 : decode cX9_read 50 = .ok (.goto (-24), 3) := by decide +kernel
theorem dX9_read_53 : decode cX9_read 53 = .ok (.iconst 0, 1) := by decide +kernel
theorem dX9_read_54 : decode cX9_read 54 = .ok (.istore 5, 2) := by decide +kernel
theorem dX9_read_56 : decode cX9_read 56 = .ok (.iconst 0, 1) := by decide +kernel
theorem dX9_read_57 : decode cX9_read 57 = .ok (.istore 6, 2) := by decide +kernel
theorem dX9_read_59 : decode cX9_read 59 = .ok (.iconst 0, 1) := by decide +kernel
theorem dX9_read_60 : decode cX9_read 60 = .ok (.istore 7, 2) := by decide +kernel
theorem dX9_read_62 : decode cX9_read 62 = .ok (.iload 7, 2) := by decide +kernel
theorem dX9_read_64 : decode cX9_read 64 = .ok (.iload 4, 2) := by decide +kernel
theorem dX9_read_66 : decode cX9_read 66 = .ok (.if_icmp .ge 184, 3) := by decide +kernel
theorem dX9_read_69 : decode cX9_read 69 = .ok (.iload 5, 2) := by decide +kernel
theorem dX9_read_71 : decode cX9_read 71 = .ok (.ifCond .ne 179, 3) := by decide +kernel
theorem dX9_read_74 : decode cX9_read 74 = .ok (.iconst 0, 1) := by decide +kernel
theorem dX9_read_75 : decode cX9_read 75 = .ok (.istore 8, 2) := by decide +kernel
theorem dX9_read_77 : decode cX9_read 77 = .ok (.iload 8, 2) := by decide +kernel
theorem dX9_read_79 : decode cX9_read 79 = .ok (.iconst 2, 1) := by decide +kernel
theorem dX9_read_80 : decode cX9_read 80 = .ok (.if_icmp .ge 84, 3) := by decide +kernel
theorem dX9_read_83 : decode cX9_read 83 = .ok (.iload 5, 2) := by decide +kernel
theorem dX9_read_85 : decode cX9_read 85 = .ok (.ifCond .ne 79, 3) := by decide +kernel
theorem dX9_read_88 : decode cX9_read 88 = .ok (.iload_n 3, 1) := by decide +kernel
theorem dX9_read_89 : decode cX9_read 89 = .ok (.i2l, 1) := by decide +kernel
theorem dX9_read_90 : decode cX9_read 90 = .ok (.iconst 2, 1) := by decide +kernel
theorem dX9_read_91 : decode cX9_read 91 = .ok (.iload 7, 2) := by decide +kernel
theorem dX9_read_93 : decode cX9_read 93 = .ok (.imul, 1) := by decide +kernel
theorem dX9_read_94 : decode cX9_read 94 = .ok (.i2l, 1) := by decide +kernel
theorem dX9_read_95 : decode cX9_read 95 = .ok (.ladd, 1) := by decide +kernel
theorem dX9_read_96 : decode cX9_read 96 = .ok (.iload 8, 2) := by decide +kernel
theorem dX9_read_98 : decode cX9_read 98 = .ok (.i2l, 1) := by decide +kernel
theorem dX9_read_99 : decode cX9_read 99 = .ok (.ladd, 1) := by decide +kernel
theorem dX9_read_100 : decode cX9_read 100 = .ok (.lstore 9, 2) := by decide +kernel
theorem dX9_read_102 : decode cX9_read 102 = .ok (.aload_n 0, 1) := by decide +kernel
theorem dX9_read_103 : decode cX9_read 103 = .ok (.getfield 38, 3) := by decide +kernel
theorem dX9_read_106 : decode cX9_read 106 = .ok (.iload_n 1, 1) := by decide +kernel
theorem dX9_read_107 : decode cX9_read 107 = .ok (.iaload, 1) := by decide +kernel
theorem dX9_read_108 : decode cX9_read 108 = .ok (.bipush (-4), 2) := by decide +kernel
theorem dX9_read_110 : decode cX9_read 110 = .ok (.if_icmp .ne 7, 3) := by decide +kernel
theorem dX9_read_113 : decode cX9_read 113 = .ok (.iconst 1, 1) := by decide +kernel
theorem dX9_read_114 : decode cX9_read 114 = .ok (.goto 42, 3) := by decide +kernel
theorem dX9_read_117 : decode cX9_read 117 = .ok (.aload_n 0, 1) := by decide +kernel
theorem dX9_read_118 : decode cX9_read 118 = .ok (.getfield 38, 3) := by decide +kernel
theorem dX9_read_121 : decode cX9_read 121 = .ok (.iload_n 1, 1) := by decide +kernel
theorem dX9_read_122 : decode cX9_read 122 = .ok (.iaload, 1) := by decide +kernel
theorem dX9_read_123 : decode cX9_read 123 = .ok (.iload_n 2, 1) := by decide +kernel
theorem dX9_read_124 : decode cX9_read 124 = .ok (.if_icmp .eq 7, 3) := by decide +kernel
theorem dX9_read_127 : decode cX9_read 127 = .ok (.iconst 3, 1) := by decide +kernel
theorem dX9_read_128 : decode cX9_read 128 = .ok (.goto 28, 3) := by decide +kernel
theorem dX9_read_131 : decode cX9_read 131 = .ok (.lload 9, 2) := by decide +kernel
theorem dX9_read_133 : decode cX9_read 133 = .ok (.lconst 0, 1) := by decide +kernel
theorem dX9_read_134 : decode cX9_read 134 = .ok (.lcmp, 1) := by decide +kernel
theorem dX9_read_135 : decode cX9_read 135 = .ok (.ifCond .lt 16, 3) := by decide +kernel
theorem dX9_read_138 : decode cX9_read 138 = .ok (.lload 9, 2) := by decide +kernel
theorem dX9_read_140 : decode cX9_read 140 = .ok (.aload_n 0, 1) := by decide +kernel
theorem dX9_read_141 : decode cX9_read 141 = .ok (.getfield 41, 3) := by decide +kernel
theorem dX9_read_144 : decode cX9_read 144 = .ok (.iload_n 1, 1) := by decide +kernel
theorem dX9_read_145 : decode cX9_read 145 = .ok (.iaload, 1) := by decide +kernel
theorem dX9_read_146 : decode cX9_read 146 = .ok (.i2l, 1) := by decide +kernel
theorem dX9_read_147 : decode cX9_read 147 = .ok (.lcmp, 1) := by decide +kernel
theorem dX9_read_148 : decode cX9_read 148 = .ok (.ifCond .lt 7, 3) := by decide +kernel
theorem dX9_read_151 : decode cX9_read 151 = .ok (.iconst 2, 1) := by decide +kernel
theorem dX9_read_152 : decode cX9_read 152 = .ok (.goto 4, 3) := by decide +kernel
theorem dX9_read_155 : decode cX9_read 155 = .ok (.iconst 0, 1) := by decide +kernel
theorem dX9_read_156 : decode cX9_read 156 = .ok (.istore 5, 2) := by decide +kernel
theorem dX9_read_158 : decode cX9_read 158 = .ok (.iinc 8 1, 3) := by decide +kernel
theorem dX9_read_161 : decode cX9_read 161 = .ok (.goto (-84), 3) := by decide +kernel
theorem dX9_read_164 : decode cX9_read 164 = .ok (.iload 5, 2) := by decide +kernel
theorem dX9_read_166 : decode cX9_read 166 = .ok (.ifCond .ne 78, 3) := by decide +kernel
theorem dX9_read_169 : decode cX9_read 169 = .ok (.bipush 40, 2) := by decide +kernel
theorem dX9_read_171 : decode cX9_read 171 = .ok (.iload_n 1, 1) := by decide +kernel
theorem dX9_read_172 : decode cX9_read 172 = .ok (.imul, 1) := by decide +kernel
theorem dX9_read_173 : decode cX9_read 173 = .ok (.iload_n 3, 1) := by decide +kernel
theorem dX9_read_174 : decode cX9_read 174 = .ok (.iadd, 1) := by decide +kernel
theorem dX9_read_175 : decode cX9_read 175 = .ok (.iconst 2, 1) := by decide +kernel
theorem dX9_read_176 : decode cX9_read 176 = .ok (.iload 7, 2) := by decide +kernel
theorem dX9_read_178 : decode cX9_read 178 = .ok (.imul, 1) := by decide +kernel
theorem dX9_read_179 : decode cX9_read 179 = .ok (.iadd, 1) := by decide +kernel
theorem dX9_read_180 : decode cX9_read 180 = .ok (.istore 8, 2) := by decide +kernel
theorem dX9_read_182 : decode cX9_read 182 = .ok (.aload_n 0, 1) := by decide +kernel
theorem dX9_read_183 : decode cX9_read 183 = .ok (.aload_n 0, 1) := by decide +kernel
theorem dX9_read_184 : decode cX9_read 184 = .ok (.getfield 44, 3) := by decide +kernel
theorem dX9_read_187 : decode cX9_read 187 = .ok (.iload 8, 2) := by decide +kernel
theorem dX9_read_189 : decode cX9_read 189 = .ok (.iaload, 1) := by decide +kernel
theorem dX9_read_190 : decode cX9_read 190 = .ok (.aload_n 0, 1) := by decide +kernel
theorem dX9_read_191 : decode cX9_read 191 = .ok (.getfield 44, 3) := by decide +kernel
theorem dX9_read_194 : decode cX9_read 194 = .ok (.iload 8, 2) := by decide +kernel
theorem dX9_read_196 : decode cX9_read 196 = .ok (.iconst 1, 1) := by decide +kernel
theorem dX9_read_197 : decode cX9_read 197 = .ok (.iadd, 1) := by decide +kernel
theorem dX9_read_198 : decode cX9_read 198 = .ok (.iaload, 1) := by decide +kernel
theorem dX9_read_199 : decode cX9_read 199 = .ok (.invokevirtual 315, 3) := by decide +kernel
theorem dX9_read_202 : decode cX9_read 202 = .ok (.ifCond .ge 39, 3) := by decide +kernel
theorem dX9_read_205 : decode cX9_read 205 = .ok (.iconst 0, 1) := by decide +kernel
theorem dX9_read_206 : decode cX9_read 206 = .ok (.istore 9, 2) := by decide +kernel
theorem dX9_read_208 : decode cX9_read 208 = .ok (.iload 9, 2) := by decide +kernel
theorem dX9_read_210 : decode cX9_read 210 = .ok (.bipush 62, 2) := by decide +kernel
theorem dX9_read_212 : decode cX9_read 212 = .ok (.if_icmp .ge 23, 3) := by decide +kernel
theorem dX9_read_215 : decode cX9_read 215 = .ok (.aload_n 0, 1) := by decide +kernel
theorem dX9_read_216 : decode cX9_read 216 = .ok (.getfield 7, 3) := by decide +kernel
theorem dX9_read_219 : decode cX9_read 219 = .ok (.iload 9, 2) := by decide +kernel
theorem dX9_read_221 : decode cX9_read 221 = .ok (.aload_n 0, 1) := by decide +kernel
theorem dX9_read_222 : decode cX9_read 222 = .ok (.getfield 47, 3) := by decide +kernel
theorem dX9_read_225 : decode cX9_read 225 = .ok (.iload 9, 2) := by decide +kernel
theorem dX9_read_227 : decode cX9_read 227 = .ok (.iaload, 1) := by decide +kernel
theorem dX9_read_228 : decode cX9_read 228 = .ok (.iastore, 1) := by decide +kernel
theorem dX9_read_229 : decode cX9_read 229 = .ok (.iinc 9 1, 3) := by decide +kernel
theorem dX9_read_232 : decode cX9_read 232 = .ok (.goto (-24), 3) := by decide +kernel
theorem dX9_read_235 : decode cX9_read 235 = .ok (.bipush (-20), 2) := by decide +kernel
theorem dX9_read_237 : decode cX9_read 237 = .ok (.iload 7, 2) := by decide +kernel
theorem dX9_read_239 : decode cX9_read 239 = .ok (.isub, 1) := by decide +kernel
theorem dX9_read_240 : decode cX9_read 240 = .ok (.ireturn, 1) := by decide +kernel
theorem dX9_read_241 : decode cX9_read 241 = .ok (.iinc 6 1, 3) := by decide +kernel
theorem dX9_read_244 : decode cX9_read 244 = .ok (.iinc 7 1, 3) := by decide +kernel
theorem dX9_read_247 : decode cX9_read 247 = .ok (.goto (-185), 3) := by decide +kernel
theorem dX9_read_250 : decode cX9_read 250 = .ok (.aload_n 0, 1) := by decide +kernel
theorem dX9_read_251 : decode cX9_read 251 = .ok (.iload 5, 2) := by decide +kernel
theorem dX9_read_253 : decode cX9_read 253 = .ok (.putfield 318, 3) := by decide +kernel
theorem dX9_read_256 : decode cX9_read 256 = .ok (.iload 6, 2) := by decide +kernel
theorem dX9_read_258 : decode cX9_read 258 = .ok (.ireturn, 1) := by decide +kernel
theorem dX9_torn_0 : decode cX9_torn 0 = .ok (.aload_n 0, 1) := by decide +kernel
theorem dX9_torn_1 : decode cX9_torn 1 = .ok (.getfield 318, 3) := by decide +kernel
theorem dX9_torn_4 : decode cX9_torn 4 = .ok (.ireturn, 1) := by decide +kernel
theorem dX9_count_0 : decode cX9_count 0 = .ok (.aload_n 0, 1) := by decide +kernel
theorem dX9_count_1 : decode cX9_count 1 = .ok (.invokevirtual 204, 3) := by decide +kernel
theorem dX9_count_4 : decode cX9_count 4 = .ok (.iconst 0, 1) := by decide +kernel
theorem dX9_count_5 : decode cX9_count 5 = .ok (.istore_n 2, 1) := by decide +kernel
theorem dX9_count_6 : decode cX9_count 6 = .ok (.iconst 0, 1) := by decide +kernel
theorem dX9_count_7 : decode cX9_count 7 = .ok (.istore_n 3, 1) := by decide +kernel
theorem dX9_count_8 : decode cX9_count 8 = .ok (.iconst 0, 1) := by decide +kernel
theorem dX9_count_9 : decode cX9_count 9 = .ok (.istore 4, 2) := by decide +kernel
theorem dX9_count_11 : decode cX9_count 11 = .ok (.iload 4, 2) := by decide +kernel
theorem dX9_count_13 : decode cX9_count 13 = .ok (.aload_n 0, 1) := by decide +kernel
theorem dX9_count_14 : decode cX9_count 14 = .ok (.getfield 70, 3) := by decide +kernel
theorem dX9_count_17 : decode cX9_count 17 = .ok (.if_icmp .ge 19, 3) := by decide +kernel
theorem dX9_count_20 : decode cX9_count 20 = .ok (.iload_n 2, 1) := by decide +kernel
theorem dX9_count_21 : decode cX9_count 21 = .ok (.aload_n 0, 1) := by decide +kernel
theorem dX9_count_22 : decode cX9_count 22 = .ok (.iload 4, 2) := by decide +kernel
theorem dX9_count_24 : decode cX9_count 24 = .ok (.iconst 1, 1) := by decide +kernel
theorem dX9_count_25 : decode cX9_count 25 = .ok (.invokevirtual 156, 3) := by decide +kernel
theorem dX9_count_28 : decode cX9_count 28 = .ok (.iadd, 1) := by decide +kernel
theorem dX9_count_29 : decode cX9_count 29 = .ok (.istore_n 2, 1) := by decide +kernel
theorem dX9_count_30 : decode cX9_count 30 = .ok (.iinc 4 1, 3) := by decide +kernel
theorem dX9_count_33 : decode cX9_count 33 = .ok (.goto (-22), 3) := by decide +kernel
theorem dX9_count_36 : decode cX9_count 36 = .ok (.iconst 0, 1) := by decide +kernel
theorem dX9_count_37 : decode cX9_count 37 = .ok (.istore 4, 2) := by decide +kernel
theorem dX9_count_39 : decode cX9_count 39 = .ok (.iload 4, 2) := by decide +kernel
theorem dX9_count_41 : decode cX9_count 41 = .ok (.aload_n 0, 1) := by decide +kernel
theorem dX9_count_42 : decode cX9_count 42 = .ok (.getfield 73, 3) := by decide +kernel
theorem dX9_count_45 : decode cX9_count 45 = .ok (.if_icmp .ge 19, 3) := by decide +kernel
theorem dX9_count_48 : decode cX9_count 48 = .ok (.iload_n 3, 1) := by decide +kernel
theorem dX9_count_49 : decode cX9_count 49 = .ok (.aload_n 0, 1) := by decide +kernel
theorem dX9_count_50 : decode cX9_count 50 = .ok (.iload 4, 2) := by decide +kernel
theorem dX9_count_52 : decode cX9_count 52 = .ok (.iconst 2, 1) := by decide +kernel
theorem dX9_count_53 : decode cX9_count 53 = .ok (.invokevirtual 153, 3) := by decide +kernel
theorem dX9_count_56 : decode cX9_count 56 = .ok (.iadd, 1) := by decide +kernel
theorem dX9_count_57 : decode cX9_count 57 = .ok (.istore_n 3, 1) := by decide +kernel
theorem dX9_count_58 : decode cX9_count 58 = .ok (.iinc 4 1, 3) := by decide +kernel
theorem dX9_count_61 : decode cX9_count 61 = .ok (.goto (-22), 3) := by decide +kernel
theorem dX9_count_64 : decode cX9_count 64 = .ok (.iload_n 1, 1) := by decide +kernel
theorem dX9_count_65 : decode cX9_count 65 = .ok (.tableswitch 99 0 5 #[39, 47, 67, 72, 95, 97], 39) := by decide +kernel
theorem dX9_count_104 : decode cX9_count 104 = .ok (.aload_n 0, 1) := by decide +kernel
theorem dX9_count_105 : decode cX9_count 105 = .ok (.getfield 7, 3) := by decide +kernel
theorem dX9_count_108 : decode cX9_count 108 = .ok (.bipush 43, 2) := by decide +kernel
theorem dX9_count_110 : decode cX9_count 110 = .ok (.iaload, 1) := by decide +kernel
theorem dX9_count_111 : decode cX9_count 111 = .ok (.ireturn, 1) := by decide +kernel
theorem dX9_count_112 : decode cX9_count 112 = .ok (.aload_n 0, 1) := by decide +kernel
theorem dX9_count_113 : decode cX9_count 113 = .ok (.getfield 16, 3) := by decide +kernel
theorem dX9_count_116 : decode cX9_count 116 = .ok (.iconst 0, 1) := by decide +kernel
theorem dX9_count_117 : decode cX9_count 117 = .ok (.baload, 1) := by decide +kernel
theorem dX9_count_118 : decode cX9_count 118 = .ok (.invokestatic 200, 3) := by decide +kernel
theorem dX9_count_121 : decode cX9_count 121 = .ok (.aload_n 0, 1) := by decide +kernel
theorem dX9_count_122 : decode cX9_count 122 = .ok (.getfield 16, 3) := by decide +kernel
theorem dX9_count_125 : decode cX9_count 125 = .ok (.iconst 1, 1) := by decide +kernel
theorem dX9_count_126 : decode cX9_count 126 = .ok (.baload, 1) := by decide +kernel
theorem dX9_count_127 : decode cX9_count 127 = .ok (.invokestatic 200, 3) := by decide +kernel
theorem dX9_count_130 : decode cX9_count 130 = .ok (.iadd, 1) := by decide +kernel
theorem dX9_count_131 : decode cX9_count 131 = .ok (.ireturn, 1) := by decide +kernel
theorem dX9_count_132 : decode cX9_count 132 = .ok (.aload_n 0, 1) := by decide +kernel
theorem dX9_count_133 : decode cX9_count 133 = .ok (.getfield 82, 3) := by decide +kernel
theorem dX9_count_136 : decode cX9_count 136 = .ok (.ireturn, 1) := by decide +kernel
theorem dX9_count_137 : decode cX9_count 137 = .ok (.aload_n 0, 1) := by decide +kernel
theorem dX9_count_138 : decode cX9_count 138 = .ok (.getfield 38, 3) := by decide +kernel
theorem dX9_count_141 : decode cX9_count 141 = .ok (.iconst 0, 1) := by decide +kernel
theorem dX9_count_142 : decode cX9_count 142 = .ok (.iaload, 1) := by decide +kernel
theorem dX9_count_143 : decode cX9_count 143 = .ok (.bipush (-4), 2) := by decide +kernel
theorem dX9_count_145 : decode cX9_count 145 = .ok (.if_icmp .ne 8, 3) := by decide +kernel
theorem dX9_count_148 : decode cX9_count 148 = .ok (.bipush (-4), 2) := by decide +kernel
theorem dX9_count_150 : decode cX9_count 150 = .ok (.goto 9, 3) := by decide +kernel
theorem dX9_count_153 : decode cX9_count 153 = .ok (.aload_n 0, 1) := by decide +kernel
theorem dX9_count_154 : decode cX9_count 154 = .ok (.getfield 41, 3) := by decide +kernel
theorem dX9_count_157 : decode cX9_count 157 = .ok (.iconst 0, 1) := by decide +kernel
theorem dX9_count_158 : decode cX9_count 158 = .ok (.iaload, 1) := by decide +kernel
theorem dX9_count_159 : decode cX9_count 159 = .ok (.ireturn, 1) := by decide +kernel
theorem dX9_count_160 : decode cX9_count 160 = .ok (.iload_n 2, 1) := by decide +kernel
theorem dX9_count_161 : decode cX9_count 161 = .ok (.ireturn, 1) := by decide +kernel
theorem dX9_count_162 : decode cX9_count 162 = .ok (.iload_n 3, 1) := by decide +kernel
theorem dX9_count_163 : decode cX9_count 163 = .ok (.ireturn, 1) := by decide +kernel
theorem dX9_count_164 : decode cX9_count 164 = .ok (.iconst (-1), 1) := by decide +kernel
theorem dX9_count_165 : decode cX9_count 165 = .ok (.ireturn, 1) := by decide +kernel
end
section
theorem dL_law_0 : decode cL_law 0 = .ok (.new 7, 3) := by decide +kernel
theorem dL_law_3 : decode cL_law 3 = .ok (.dup, 1) := by decide +kernel
theorem dL_law_4 : decode cL_law 4 = .ok (.invokespecial 9, 3) := by decide +kernel
theorem dL_law_7 : decode cL_law 7 = .ok (.astore_n 1, 1) := by decide +kernel
theorem dL_law_8 : decode cL_law 8 = .ok (.new 10, 3) := by decide +kernel
theorem dL_law_11 : decode cL_law 11 = .ok (.dup, 1) := by decide +kernel
theorem dL_law_12 : decode cL_law 12 = .ok (.invokespecial 12, 3) := by decide +kernel
theorem dL_law_15 : decode cL_law 15 = .ok (.astore_n 2, 1) := by decide +kernel
theorem dL_law_16 : decode cL_law 16 = .ok (.iconst 0, 1) := by decide +kernel
theorem dL_law_17 : decode cL_law 17 = .ok (.istore_n 3, 1) := by decide +kernel
theorem dL_law_18 : decode cL_law 18 = .ok (.iload_n 3, 1) := by decide +kernel
theorem dL_law_19 : decode cL_law 19 = .ok (.aload_n 0, 1) := by decide +kernel
theorem dL_law_20 : decode cL_law 20 = .ok (.arraylength, 1) := by decide +kernel
theorem dL_law_21 : decode cL_law 21 = .ok (.iconst 5, 1) := by decide +kernel
theorem dL_law_22 : decode cL_law 22 = .ok (.isub, 1) := by decide +kernel
theorem dL_law_23 : decode cL_law 23 = .ok (.if_icmp .gt 1359, 3) := by decide +kernel
theorem dL_law_26 : decode cL_law 26 = .ok (.aload_n 0, 1) := by decide +kernel
theorem dL_law_27 : decode cL_law 27 = .ok (.iload_n 3, 1) := by decide +kernel
theorem dL_law_28 : decode cL_law 28 = .ok (.iaload, 1) := by decide +kernel
theorem dL_law_29 : decode cL_law 29 = .ok (.bipush 63, 2) := by decide +kernel
theorem dL_law_31 : decode cL_law 31 = .ok (.iand, 1) := by decide +kernel
theorem dL_law_32 : decode cL_law 32 = .ok (.tableswitch 1344 0 37 #[168, 191, 214, 227, 240, 263, 296, 329, 372, 415, 438, 461, 494, 517, 550, 593, 616, 639, 662, 695, 728, 761, 794, 837, 891, 935, 978, 1001, 1024, 1047, 1080, 1123, 1146, 1169, 1212, 1255, 1308, 1321], 168) := by decide +kernel
theorem dL_law_200 : decode cL_law 200 = .ok (.aload_n 1, 1) := by decide +kernel
theorem dL_law_201 : decode cL_law 201 = .ok (.aload_n 0, 1) := by decide +kernel
theorem dL_law_202 : decode cL_law 202 = .ok (.iload_n 3, 1) := by decide +kernel
theorem dL_law_203 : decode cL_law 203 = .ok (.iconst 1, 1) := by decide +kernel
theorem dL_law_204 : decode cL_law 204 = .ok (.iadd, 1) := by decide +kernel
theorem dL_law_205 : decode cL_law 205 = .ok (.iaload, 1) := by decide +kernel
theorem dL_law_206 : decode cL_law 206 = .ok (.invokevirtual 13, 3) := by decide +kernel
theorem dL_law_209 : decode cL_law 209 = .ok (.aload_n 2, 1) := by decide +kernel
theorem dL_law_210 : decode cL_law 210 = .ok (.aload_n 0, 1) := by decide +kernel
theorem dL_law_211 : decode cL_law 211 = .ok (.iload_n 3, 1) := by decide +kernel
theorem dL_law_212 : decode cL_law 212 = .ok (.iconst 1, 1) := by decide +kernel
theorem dL_law_213 : decode cL_law 213 = .ok (.iadd, 1) := by decide +kernel
theorem dL_law_214 : decode cL_law 214 = .ok (.iaload, 1) := by decide +kernel
theorem dL_law_215 : decode cL_law 215 = .ok (.invokevirtual 17, 3) := by decide +kernel
theorem dL_law_218 : decode cL_law 218 = .ok (.if_icmp .eq 1158, 3) := by decide +kernel
theorem dL_law_221 : decode cL_law 221 = .ok (.iconst 0, 1) := by decide +kernel
theorem dL_law_222 : decode cL_law 222 = .ok (.ireturn, 1) := by decide +kernel
theorem dL_law_223 : decode cL_law 223 = .ok (.aload_n 1, 1) := by decide +kernel
theorem dL_law_224 : decode cL_law 224 = .ok (.aload_n 0, 1) := by decide +kernel
theorem dL_law_225 : decode cL_law 225 = .ok (.iload_n 3, 1) := by decide +kernel
theorem dL_law_226 : decode cL_law 226 = .ok (.iconst 1, 1) := by decide +kernel
theorem dL_law_227 : decode cL_law 227 = .ok (.iadd, 1) := by decide +kernel
theorem dL_law_228 : decode cL_law 228 = .ok (.iaload, 1) := by decide +kernel
theorem dL_law_229 : decode cL_law 229 = .ok (.invokevirtual 18, 3) := by decide +kernel
theorem dL_law_232 : decode cL_law 232 = .ok (.aload_n 2, 1) := by decide +kernel
theorem dL_law_233 : decode cL_law 233 = .ok (.aload_n 0, 1) := by decide +kernel
theorem dL_law_234 : decode cL_law 234 = .ok (.iload_n 3, 1) := by decide +kernel
theorem dL_law_235 : decode cL_law 235 = .ok (.iconst 1, 1) := by decide +kernel
theorem dL_law_236 : decode cL_law 236 = .ok (.iadd, 1) := by decide +kernel
theorem dL_law_237 : decode cL_law 237 = .ok (.iaload, 1) := by decide +kernel
theorem dL_law_238 : decode cL_law 238 = .ok (.invokevirtual 21, 3) := by decide +kernel
theorem dL_law_241 : decode cL_law 241 = .ok (.if_icmp .eq 1135, 3) := by decide +kernel
theorem dL_law_244 : decode cL_law 244 = .ok (.iconst 0, 1) := by decide +kernel
theorem dL_law_245 : decode cL_law 245 = .ok (.ireturn, 1) := by decide +kernel
theorem dL_law_246 : decode cL_law 246 = .ok (.aload_n 1, 1) := by decide +kernel
theorem dL_law_247 : decode cL_law 247 = .ok (.invokevirtual 22, 3) := by decide +kernel
theorem dL_law_250 : decode cL_law 250 = .ok (.aload_n 2, 1) := by decide +kernel
theorem dL_law_251 : decode cL_law 251 = .ok (.invokevirtual 26, 3) := by decide +kernel
theorem dL_law_254 : decode cL_law 254 = .ok (.if_icmp .eq 1122, 3) := by decide +kernel
theorem dL_law_257 : decode cL_law 257 = .ok (.iconst 0, 1) := by decide +kernel
theorem dL_law_258 : decode cL_law 258 = .ok (.ireturn, 1) := by decide +kernel
theorem dL_law_259 : decode cL_law 259 = .ok (.aload_n 1, 1) := by decide +kernel
theorem dL_law_260 : decode cL_law 260 = .ok (.invokevirtual 27, 3) := by decide +kernel
theorem dL_law_263 : decode cL_law 263 = .ok (.aload_n 2, 1) := by decide +kernel
theorem dL_law_264 : decode cL_law 264 = .ok (.invokevirtual 30, 3) := by decide +kernel
theorem dL_law_267 : decode cL_law 267 = .ok (.if_icmp .eq 1109, 3) := by decide +kernel
theorem dL_law_270 : decode cL_law 270 = .ok (.iconst 0, 1) := by decide +kernel
theorem dL_law_271 : decode cL_law 271 = .ok (.ireturn, 1) := by decide +kernel
theorem dL_law_272 : decode cL_law 272 = .ok (.aload_n 1, 1) := by decide +kernel
theorem dL_law_273 : decode cL_law 273 = .ok (.aload_n 0, 1) := by decide +kernel
theorem dL_law_274 : decode cL_law 274 = .ok (.iload_n 3, 1) := by decide +kernel
theorem dL_law_275 : decode cL_law 275 = .ok (.iconst 1, 1) := by decide +kernel
theorem dL_law_276 : decode cL_law 276 = .ok (.iadd, 1) := by decide +kernel
theorem dL_law_277 : decode cL_law 277 = .ok (.iaload, 1) := by decide +kernel
theorem dL_law_278 : decode cL_law 278 = .ok (.invokevirtual 31, 3) := by decide +kernel
theorem dL_law_281 : decode cL_law 281 = .ok (.aload_n 2, 1) := by decide +kernel
theorem dL_law_282 : decode cL_law 282 = .ok (.aload_n 0, 1) := by decide +kernel
theorem dL_law_283 : decode cL_law 283 = .ok (.iload_n 3, 1) := by decide +kernel
theorem dL_law_284 : decode cL_law 284 = .ok (.iconst 1, 1) := by decide +kernel
theorem dL_law_285 : decode cL_law 285 = .ok (.iadd, 1) := by decide +kernel
theorem dL_law_286 : decode cL_law 286 = .ok (.iaload, 1) := by decide +kernel
theorem dL_law_287 : decode cL_law 287 = .ok (.invokevirtual 34, 3) := by decide +kernel
theorem dL_law_290 : decode cL_law 290 = .ok (.if_icmp .eq 1086, 3) := by decide +kernel
theorem dL_law_293 : decode cL_law 293 = .ok (.iconst 0, 1) := by decide +kernel
theorem dL_law_294 : decode cL_law 294 = .ok (.ireturn, 1) := by decide +kernel
theorem dL_law_295 : decode cL_law 295 = .ok (.aload_n 1, 1) := by decide +kernel
theorem dL_law_296 : decode cL_law 296 = .ok (.aload_n 0, 1) := by decide +kernel
theorem dL_law_297 : decode cL_law 297 = .ok (.iload_n 3, 1) := by decide +kernel
theorem dL_law_298 : decode cL_law 298 = .ok (.iconst 1, 1) := by decide +kernel
theorem dL_law_299 : decode cL_law 299 = .ok (.iadd, 1) := by decide +kernel
theorem dL_law_300 : decode cL_law 300 = .ok (.iaload, 1) := by decide +kernel
theorem dL_law_301 : decode cL_law 301 = .ok (.aload_n 0, 1) := by decide +kernel
theorem dL_law_302 : decode cL_law 302 = .ok (.iload_n 3, 1) := by decide +kernel
theorem dL_law_303 : decode cL_law 303 = .ok (.iconst 2, 1) := by decide +kernel
theorem dL_law_304 : decode cL_law 304 = .ok (.iadd, 1) := by decide +kernel
theorem dL_law_305 : decode cL_law 305 = .ok (.iaload, 1) := by decide +kernel
theorem dL_law_306 : decode cL_law 306 = .ok (.invokevirtual 35, 3) := by decide +kernel
theorem dL_law_309 : decode cL_law 309 = .ok (.aload_n 2, 1) := by decide +kernel
theorem dL_law_310 : decode cL_law 310 = .ok (.aload_n 0, 1) := by decide +kernel
theorem dL_law_311 : decode cL_law 311 = .ok (.iload_n 3, 1) := by decide +kernel
theorem dL_law_312 : decode cL_law 312 = .ok (.iconst 1, 1) := by decide +kernel
theorem dL_law_313 : decode cL_law 313 = .ok (.iadd, 1) := by decide +kernel
theorem dL_law_314 : decode cL_law 314 = .ok (.iaload, 1) := by decide +kernel
theorem dL_law_315 : decode cL_law 315 = .ok (.aload_n 0, 1) := by decide +kernel
theorem dL_law_316 : decode cL_law 316 = .ok (.iload_n 3, 1) := by decide +kernel
theorem dL_law_317 : decode cL_law 317 = .ok (.iconst 2, 1) := by decide +kernel
theorem dL_law_318 : decode cL_law 318 = .ok (.iadd, 1) := by decide +kernel
theorem dL_law_319 : decode cL_law 319 = .ok (.iaload, 1) := by decide +kernel
theorem dL_law_320 : decode cL_law 320 = .ok (.invokevirtual 39, 3) := by decide +kernel
theorem dL_law_323 : decode cL_law 323 = .ok (.if_icmp .eq 1053, 3) := by decide +kernel
theorem dL_law_326 : decode cL_law 326 = .ok (.iconst 0, 1) := by decide +kernel
theorem dL_law_327 : decode cL_law 327 = .ok (.ireturn, 1) := by decide +kernel
theorem dL_law_328 : decode cL_law 328 = .ok (.aload_n 1, 1) := by decide +kernel
theorem dL_law_329 : decode cL_law 329 = .ok (.aload_n 0, 1) := by decide +kernel
theorem dL_law_330 : decode cL_law 330 = .ok (.iload_n 3, 1) := by decide +kernel
theorem dL_law_331 : decode cL_law 331 = .ok (.iconst 1, 1) := by decide +kernel
theorem dL_law_332 : decode cL_law 332 = .ok (.iadd, 1) := by decide +kernel
theorem dL_law_333 : decode cL_law 333 = .ok (.iaload, 1) := by decide +kernel
theorem dL_law_334 : decode cL_law 334 = .ok (.aload_n 0, 1) := by decide +kernel
theorem dL_law_335 : decode cL_law 335 = .ok (.iload_n 3, 1) := by decide +kernel
theorem dL_law_336 : decode cL_law 336 = .ok (.iconst 2, 1) := by decide +kernel
theorem dL_law_337 : decode cL_law 337 = .ok (.iadd, 1) := by decide +kernel
theorem dL_law_338 : decode cL_law 338 = .ok (.iaload, 1) := by decide +kernel
theorem dL_law_339 : decode cL_law 339 = .ok (.invokevirtual 40, 3) := by decide +kernel
theorem dL_law_342 : decode cL_law 342 = .ok (.aload_n 2, 1) := by decide +kernel
theorem dL_law_343 : decode cL_law 343 = .ok (.aload_n 0, 1) := by decide +kernel
theorem dL_law_344 : decode cL_law 344 = .ok (.iload_n 3, 1) := by decide +kernel
theorem dL_law_345 : decode cL_law 345 = .ok (.iconst 1, 1) := by decide +kernel
theorem dL_law_346 : decode cL_law 346 = .ok (.iadd, 1) := by decide +kernel
theorem dL_law_347 : decode cL_law 347 = .ok (.iaload, 1) := by decide +kernel
theorem dL_law_348 : decode cL_law 348 = .ok (.aload_n 0, 1) := by decide +kernel
theorem dL_law_349 : decode cL_law 349 = .ok (.iload_n 3, 1) := by decide +kernel
theorem dL_law_350 : decode cL_law 350 = .ok (.iconst 2, 1) := by decide +kernel
theorem dL_law_351 : decode cL_law 351 = .ok (.iadd, 1) := by decide +kernel
theorem dL_law_352 : decode cL_law 352 = .ok (.iaload, 1) := by decide +kernel
theorem dL_law_353 : decode cL_law 353 = .ok (.invokevirtual 43, 3) := by decide +kernel
theorem dL_law_356 : decode cL_law 356 = .ok (.if_icmp .eq 1020, 3) := by decide +kernel
theorem dL_law_359 : decode cL_law 359 = .ok (.iconst 0, 1) := by decide +kernel
theorem dL_law_360 : decode cL_law 360 = .ok (.ireturn, 1) := by decide +kernel
theorem dL_law_361 : decode cL_law 361 = .ok (.aload_n 1, 1) := by decide +kernel
theorem dL_law_362 : decode cL_law 362 = .ok (.aload_n 0, 1) := by decide +kernel
theorem dL_law_363 : decode cL_law 363 = .ok (.iload_n 3, 1) := by decide +kernel
theorem dL_law_364 : decode cL_law 364 = .ok (.iconst 1, 1) := by decide +kernel
theorem dL_law_365 : decode cL_law 365 = .ok (.iadd, 1) := by decide +kernel
theorem dL_law_366 : decode cL_law 366 = .ok (.iaload, 1) := by decide +kernel
theorem dL_law_367 : decode cL_law 367 = .ok (.aload_n 0, 1) := by decide +kernel
theorem dL_law_368 : decode cL_law 368 = .ok (.iload_n 3, 1) := by decide +kernel
theorem dL_law_369 : decode cL_law 369 = .ok (.iconst 2, 1) := by decide +kernel
theorem dL_law_370 : decode cL_law 370 = .ok (.iadd, 1) := by decide +kernel
theorem dL_law_371 : decode cL_law 371 = .ok (.iaload, 1) := by decide +kernel
theorem dL_law_372 : decode cL_law 372 = .ok (.aload_n 0, 1) := by decide +kernel
theorem dL_law_373 : decode cL_law 373 = .ok (.iload_n 3, 1) := by decide +kernel
theorem dL_law_374 : decode cL_law 374 = .ok (.iconst 3, 1) := by decide +kernel
theorem dL_law_375 : decode cL_law 375 = .ok (.iadd, 1) := by decide +kernel
theorem dL_law_376 : decode cL_law 376 = .ok (.iaload, 1) := by decide +kernel
theorem dL_law_377 : decode cL_law 377 = .ok (.invokevirtual 44, 3) := by decide +kernel
theorem dL_law_380 : decode cL_law 380 = .ok (.aload_n 2, 1) := by decide +kernel
theorem dL_law_381 : decode cL_law 381 = .ok (.aload_n 0, 1) := by decide +kernel
theorem dL_law_382 : decode cL_law 382 = .ok (.iload_n 3, 1) := by decide +kernel
theorem dL_law_383 : decode cL_law 383 = .ok (.iconst 1, 1) := by decide +kernel
theorem dL_law_384 : decode cL_law 384 = .ok (.iadd, 1) := by decide +kernel
theorem dL_law_385 : decode cL_law 385 = .ok (.iaload, 1) := by decide +kernel
theorem dL_law_386 : decode cL_law 386 = .ok (.aload_n 0, 1) := by decide +kernel
theorem dL_law_387 : decode cL_law 387 = .ok (.iload_n 3, 1) := by decide +kernel
theorem dL_law_388 : decode cL_law 388 = .ok (.iconst 2, 1) := by decide +kernel
theorem dL_law_389 : decode cL_law 389 = .ok (.iadd, 1) := by decide +kernel
theorem dL_law_390 : decode cL_law 390 = .ok (.iaload, 1) := by decide +kernel
theorem dL_law_391 : decode cL_law 391 = .ok (.aload_n 0, 1) := by decide +kernel
theorem dL_law_392 : decode cL_law 392 = .ok (.iload_n 3, 1) := by decide +kernel
theorem dL_law_393 : decode cL_law 393 = .ok (.iconst 3, 1) := by decide +kernel
theorem dL_law_394 : decode cL_law 394 = .ok (.iadd, 1) := by decide +kernel
theorem dL_law_395 : decode cL_law 395 = .ok (.iaload, 1) := by decide +kernel
theorem dL_law_396 : decode cL_law 396 = .ok (.invokevirtual 48, 3) := by decide +kernel
theorem dL_law_399 : decode cL_law 399 = .ok (.if_icmp .eq 977, 3) := by decide +kernel
theorem dL_law_402 : decode cL_law 402 = .ok (.iconst 0, 1) := by decide +kernel
theorem dL_law_403 : decode cL_law 403 = .ok (.ireturn, 1) := by decide +kernel
theorem dL_law_404 : decode cL_law 404 = .ok (.aload_n 1, 1) := by decide +kernel
theorem dL_law_405 : decode cL_law 405 = .ok (.aload_n 0, 1) := by decide +kernel
theorem dL_law_406 : decode cL_law 406 = .ok (.iload_n 3, 1) := by decide +kernel
theorem dL_law_407 : decode cL_law 407 = .ok (.iconst 1, 1) := by decide +kernel
theorem dL_law_408 : decode cL_law 408 = .ok (.iadd, 1) := by decide +kernel
theorem dL_law_409 : decode cL_law 409 = .ok (.iaload, 1) := by decide +kernel
theorem dL_law_410 : decode cL_law 410 = .ok (.aload_n 0, 1) := by decide +kernel
theorem dL_law_411 : decode cL_law 411 = .ok (.iload_n 3, 1) := by decide +kernel
theorem dL_law_412 : decode cL_law 412 = .ok (.iconst 2, 1) := by decide +kernel
theorem dL_law_413 : decode cL_law 413 = .ok (.iadd, 1) := by decide +kernel
theorem dL_law_414 : decode cL_law 414 = .ok (.iaload, 1) := by decide +kernel
theorem dL_law_415 : decode cL_law 415 = .ok (.aload_n 0, 1) := by decide +kernel
theorem dL_law_416 : decode cL_law 416 = .ok (.iload_n 3, 1) := by decide +kernel
theorem dL_law_417 : decode cL_law 417 = .ok (.iconst 3, 1) := by decide +kernel
theorem dL_law_418 : decode cL_law 418 = .ok (.iadd, 1) := by decide +kernel
theorem dL_law_419 : decode cL_law 419 = .ok (.iaload, 1) := by decide +kernel
theorem dL_law_420 : decode cL_law 420 = .ok (.invokevirtual 49, 3) := by decide +kernel
theorem dL_law_423 : decode cL_law 423 = .ok (.aload_n 2, 1) := by decide +kernel
theorem dL_law_424 : decode cL_law 424 = .ok (.aload_n 0, 1) := by decide +kernel
theorem dL_law_425 : decode cL_law 425 = .ok (.iload_n 3, 1) := by decide +kernel
theorem dL_law_426 : decode cL_law 426 = .ok (.iconst 1, 1) := by decide +kernel
theorem dL_law_427 : decode cL_law 427 = .ok (.iadd, 1) := by decide +kernel
theorem dL_law_428 : decode cL_law 428 = .ok (.iaload, 1) := by decide +kernel
theorem dL_law_429 : decode cL_law 429 = .ok (.aload_n 0, 1) := by decide +kernel
theorem dL_law_430 : decode cL_law 430 = .ok (.iload_n 3, 1) := by decide +kernel
theorem dL_law_431 : decode cL_law 431 = .ok (.iconst 2, 1) := by decide +kernel
theorem dL_law_432 : decode cL_law 432 = .ok (.iadd, 1) := by decide +kernel
theorem dL_law_433 : decode cL_law 433 = .ok (.iaload, 1) := by decide +kernel
theorem dL_law_434 : decode cL_law 434 = .ok (.aload_n 0, 1) := by decide +kernel
theorem dL_law_435 : decode cL_law 435 = .ok (.iload_n 3, 1) := by decide +kernel
theorem dL_law_436 : decode cL_law 436 = .ok (.iconst 3, 1) := by decide +kernel
theorem dL_law_437 : decode cL_law 437 = .ok (.iadd, 1) := by decide +kernel
theorem dL_law_438 : decode cL_law 438 = .ok (.iaload, 1) := by decide +kernel
theorem dL_law_439 : decode cL_law 439 = .ok (.invokevirtual 52, 3) := by decide +kernel
theorem dL_law_442 : decode cL_law 442 = .ok (.if_icmp .eq 934, 3) := by decide +kernel
theorem dL_law_445 : decode cL_law 445 = .ok (.iconst 0, 1) := by decide +kernel
theorem dL_law_446 : decode cL_law 446 = .ok (.ireturn, 1) := by decide +kernel
theorem dL_law_447 : decode cL_law 447 = .ok (.aload_n 1, 1) := by decide +kernel
theorem dL_law_448 : decode cL_law 448 = .ok (.aload_n 0, 1) := by decide +kernel
theorem dL_law_449 : decode cL_law 449 = .ok (.iload_n 3, 1) := by decide +kernel
theorem dL_law_450 : decode cL_law 450 = .ok (.iconst 1, 1) := by decide +kernel
theorem dL_law_451 : decode cL_law 451 = .ok (.iadd, 1) := by decide +kernel
theorem dL_law_452 : decode cL_law 452 = .ok (.iaload, 1) := by decide +kernel
theorem dL_law_453 : decode cL_law 453 = .ok (.invokevirtual 53, 3) := by decide +kernel
theorem dL_law_456 : decode cL_law 456 = .ok (.aload_n 2, 1) := by decide +kernel
theorem dL_law_457 : decode cL_law 457 = .ok (.aload_n 0, 1) := by decide +kernel
theorem dL_law_458 : decode cL_law 458 = .ok (.iload_n 3, 1) := by decide +kernel
theorem dL_law_459 : decode cL_law 459 = .ok (.iconst 1, 1) := by decide +kernel
theorem dL_law_460 : decode cL_law 460 = .ok (.iadd, 1) := by decide +kernel
theorem dL_law_461 : decode cL_law 461 = .ok (.iaload, 1) := by decide +kernel
theorem dL_law_462 : decode cL_law 462 = .ok (.invokevirtual 56, 3) := by decide +kernel
theorem dL_law_465 : decode cL_law 465 = .ok (.if_icmp .eq 911, 3) := by decide +kernel
theorem dL_law_468 : decode cL_law 468 = .ok (.iconst 0, 1) := by decide +kernel
theorem dL_law_469 : decode cL_law 469 = .ok (.ireturn, 1) := by decide +kernel
theorem dL_law_470 : decode cL_law 470 = .ok (.aload_n 1, 1) := by decide +kernel
theorem dL_law_471 : decode cL_law 471 = .ok (.aload_n 0, 1) := by decide +kernel
theorem dL_law_472 : decode cL_law 472 = .ok (.iload_n 3, 1) := by decide +kernel
theorem dL_law_473 : decode cL_law 473 = .ok (.iconst 1, 1) := by decide +kernel
theorem dL_law_474 : decode cL_law 474 = .ok (.iadd, 1) := by decide +kernel
theorem dL_law_475 : decode cL_law 475 = .ok (.iaload, 1) := by decide +kernel
theorem dL_law_476 : decode cL_law 476 = .ok (.invokevirtual 57, 3) := by decide +kernel
theorem dL_law_479 : decode cL_law 479 = .ok (.aload_n 2, 1) := by decide +kernel
theorem dL_law_480 : decode cL_law 480 = .ok (.aload_n 0, 1) := by decide +kernel
theorem dL_law_481 : decode cL_law 481 = .ok (.iload_n 3, 1) := by decide +kernel
theorem dL_law_482 : decode cL_law 482 = .ok (.iconst 1, 1) := by decide +kernel
theorem dL_law_483 : decode cL_law 483 = .ok (.iadd, 1) := by decide +kernel
theorem dL_law_484 : decode cL_law 484 = .ok (.iaload, 1) := by decide +kernel
theorem dL_law_485 : decode cL_law 485 = .ok (.invokevirtual 60, 3) := by decide +kernel
theorem dL_law_488 : decode cL_law 488 = .ok (.if_icmp .eq 888, 3) := by decide +kernel
theorem dL_law_491 : decode cL_law 491 = .ok (.iconst 0, 1) := by decide +kernel
theorem dL_law_492 : decode cL_law 492 = .ok (.ireturn, 1) := by decide +kernel
theorem dL_law_493 : decode cL_law 493 = .ok (.aload_n 1, 1) := by decide +kernel
theorem dL_law_494 : decode cL_law 494 = .ok (.aload_n 0, 1) := by decide +kernel
theorem dL_law_495 : decode cL_law 495 = .ok (.iload_n 3, 1) := by decide +kernel
theorem dL_law_496 : decode cL_law 496 = .ok (.iconst 1, 1) := by decide +kernel
theorem dL_law_497 : decode cL_law 497 = .ok (.iadd, 1) := by decide +kernel
theorem dL_law_498 : decode cL_law 498 = .ok (.iaload, 1) := by decide +kernel
theorem dL_law_499 : decode cL_law 499 = .ok (.aload_n 0, 1) := by decide +kernel
theorem dL_law_500 : decode cL_law 500 = .ok (.iload_n 3, 1) := by decide +kernel
theorem dL_law_501 : decode cL_law 501 = .ok (.iconst 2, 1) := by decide +kernel
theorem dL_law_502 : decode cL_law 502 = .ok (.iadd, 1) := by decide +kernel
theorem dL_law_503 : decode cL_law 503 = .ok (.iaload, 1) := by decide +kernel
theorem dL_law_504 : decode cL_law 504 = .ok (.invokevirtual 61, 3) := by decide +kernel
theorem dL_law_507 : decode cL_law 507 = .ok (.aload_n 2, 1) := by decide +kernel
theorem dL_law_508 : decode cL_law 508 = .ok (.aload_n 0, 1) := by decide +kernel
theorem dL_law_509 : decode cL_law 509 = .ok (.iload_n 3, 1) := by decide +kernel
theorem dL_law_510 : decode cL_law 510 = .ok (.iconst 1, 1) := by decide +kernel
theorem dL_law_511 : decode cL_law 511 = .ok (.iadd, 1) := by decide +kernel
theorem dL_law_512 : decode cL_law 512 = .ok (.iaload, 1) := by decide +kernel
theorem dL_law_513 : decode cL_law 513 = .ok (.aload_n 0, 1) := by decide +kernel
theorem dL_law_514 : decode cL_law 514 = .ok (.iload_n 3, 1) := by decide +kernel
theorem dL_law_515 : decode cL_law 515 = .ok (.iconst 2, 1) := by decide +kernel
theorem dL_law_516 : decode cL_law 516 = .ok (.iadd, 1) := by decide +kernel
theorem dL_law_517 : decode cL_law 517 = .ok (.iaload, 1) := by decide +kernel
theorem dL_law_518 : decode cL_law 518 = .ok (.invokevirtual 64, 3) := by decide +kernel
theorem dL_law_521 : decode cL_law 521 = .ok (.if_icmp .eq 855, 3) := by decide +kernel
theorem dL_law_524 : decode cL_law 524 = .ok (.iconst 0, 1) := by decide +kernel
theorem dL_law_525 : decode cL_law 525 = .ok (.ireturn, 1) := by decide +kernel
theorem dL_law_526 : decode cL_law 526 = .ok (.aload_n 1, 1) := by decide +kernel
theorem dL_law_527 : decode cL_law 527 = .ok (.aload_n 0, 1) := by decide +kernel
theorem dL_law_528 : decode cL_law 528 = .ok (.iload_n 3, 1) := by decide +kernel
theorem dL_law_529 : decode cL_law 529 = .ok (.iconst 1, 1) := by decide +kernel
theorem dL_law_530 : decode cL_law 530 = .ok (.iadd, 1) := by decide +kernel
theorem dL_law_531 : decode cL_law 531 = .ok (.iaload, 1) := by decide +kernel
theorem dL_law_532 : decode cL_law 532 = .ok (.invokevirtual 65, 3) := by decide +kernel
theorem dL_law_535 : decode cL_law 535 = .ok (.aload_n 2, 1) := by decide +kernel
theorem dL_law_536 : decode cL_law 536 = .ok (.aload_n 0, 1) := by decide +kernel
theorem dL_law_537 : decode cL_law 537 = .ok (.iload_n 3, 1) := by decide +kernel
theorem dL_law_538 : decode cL_law 538 = .ok (.iconst 1, 1) := by decide +kernel
theorem dL_law_539 : decode cL_law 539 = .ok (.iadd, 1) := by decide +kernel
theorem dL_law_540 : decode cL_law 540 = .ok (.iaload, 1) := by decide +kernel
theorem dL_law_541 : decode cL_law 541 = .ok (.invokevirtual 68, 3) := by decide +kernel
theorem dL_law_544 : decode cL_law 544 = .ok (.if_icmp .eq 832, 3) := by decide +kernel
theorem dL_law_547 : decode cL_law 547 = .ok (.iconst 0, 1) := by decide +kernel
theorem dL_law_548 : decode cL_law 548 = .ok (.ireturn, 1) := by decide +kernel
theorem dL_law_549 : decode cL_law 549 = .ok (.aload_n 1, 1) := by decide +kernel
theorem dL_law_550 : decode cL_law 550 = .ok (.aload_n 0, 1) := by decide +kernel
theorem dL_law_551 : decode cL_law 551 = .ok (.iload_n 3, 1) := by decide +kernel
theorem dL_law_552 : decode cL_law 552 = .ok (.iconst 1, 1) := by decide +kernel
theorem dL_law_553 : decode cL_law 553 = .ok (.iadd, 1) := by decide +kernel
theorem dL_law_554 : decode cL_law 554 = .ok (.iaload, 1) := by decide +kernel
theorem dL_law_555 : decode cL_law 555 = .ok (.aload_n 0, 1) := by decide +kernel
theorem dL_law_556 : decode cL_law 556 = .ok (.iload_n 3, 1) := by decide +kernel
theorem dL_law_557 : decode cL_law 557 = .ok (.iconst 2, 1) := by decide +kernel
theorem dL_law_558 : decode cL_law 558 = .ok (.iadd, 1) := by decide +kernel
theorem dL_law_559 : decode cL_law 559 = .ok (.iaload, 1) := by decide +kernel
theorem dL_law_560 : decode cL_law 560 = .ok (.invokevirtual 69, 3) := by decide +kernel
theorem dL_law_563 : decode cL_law 563 = .ok (.aload_n 2, 1) := by decide +kernel
theorem dL_law_564 : decode cL_law 564 = .ok (.aload_n 0, 1) := by decide +kernel
theorem dL_law_565 : decode cL_law 565 = .ok (.iload_n 3, 1) := by decide +kernel
theorem dL_law_566 : decode cL_law 566 = .ok (.iconst 1, 1) := by decide +kernel
theorem dL_law_567 : decode cL_law 567 = .ok (.iadd, 1) := by decide +kernel
theorem dL_law_568 : decode cL_law 568 = .ok (.iaload, 1) := by decide +kernel
theorem dL_law_569 : decode cL_law 569 = .ok (.aload_n 0, 1) := by decide +kernel
theorem dL_law_570 : decode cL_law 570 = .ok (.iload_n 3, 1) := by decide +kernel
theorem dL_law_571 : decode cL_law 571 = .ok (.iconst 2, 1) := by decide +kernel
theorem dL_law_572 : decode cL_law 572 = .ok (.iadd, 1) := by decide +kernel
theorem dL_law_573 : decode cL_law 573 = .ok (.iaload, 1) := by decide +kernel
theorem dL_law_574 : decode cL_law 574 = .ok (.invokevirtual 72, 3) := by decide +kernel
theorem dL_law_577 : decode cL_law 577 = .ok (.if_icmp .eq 799, 3) := by decide +kernel
theorem dL_law_580 : decode cL_law 580 = .ok (.iconst 0, 1) := by decide +kernel
theorem dL_law_581 : decode cL_law 581 = .ok (.ireturn, 1) := by decide +kernel
theorem dL_law_582 : decode cL_law 582 = .ok (.aload_n 1, 1) := by decide +kernel
theorem dL_law_583 : decode cL_law 583 = .ok (.aload_n 0, 1) := by decide +kernel
theorem dL_law_584 : decode cL_law 584 = .ok (.iload_n 3, 1) := by decide +kernel
theorem dL_law_585 : decode cL_law 585 = .ok (.iconst 1, 1) := by decide +kernel
theorem dL_law_586 : decode cL_law 586 = .ok (.iadd, 1) := by decide +kernel
theorem dL_law_587 : decode cL_law 587 = .ok (.iaload, 1) := by decide +kernel
theorem dL_law_588 : decode cL_law 588 = .ok (.aload_n 0, 1) := by decide +kernel
theorem dL_law_589 : decode cL_law 589 = .ok (.iload_n 3, 1) := by decide +kernel
theorem dL_law_590 : decode cL_law 590 = .ok (.iconst 2, 1) := by decide +kernel
theorem dL_law_591 : decode cL_law 591 = .ok (.iadd, 1) := by decide +kernel
theorem dL_law_592 : decode cL_law 592 = .ok (.iaload, 1) := by decide +kernel
theorem dL_law_593 : decode cL_law 593 = .ok (.aload_n 0, 1) := by decide +kernel
theorem dL_law_594 : decode cL_law 594 = .ok (.iload_n 3, 1) := by decide +kernel
theorem dL_law_595 : decode cL_law 595 = .ok (.iconst 3, 1) := by decide +kernel
theorem dL_law_596 : decode cL_law 596 = .ok (.iadd, 1) := by decide +kernel
theorem dL_law_597 : decode cL_law 597 = .ok (.iaload, 1) := by decide +kernel
theorem dL_law_598 : decode cL_law 598 = .ok (.invokevirtual 73, 3) := by decide +kernel
theorem dL_law_601 : decode cL_law 601 = .ok (.aload_n 2, 1) := by decide +kernel
theorem dL_law_602 : decode cL_law 602 = .ok (.aload_n 0, 1) := by decide +kernel
theorem dL_law_603 : decode cL_law 603 = .ok (.iload_n 3, 1) := by decide +kernel
theorem dL_law_604 : decode cL_law 604 = .ok (.iconst 1, 1) := by decide +kernel
theorem dL_law_605 : decode cL_law 605 = .ok (.iadd, 1) := by decide +kernel
theorem dL_law_606 : decode cL_law 606 = .ok (.iaload, 1) := by decide +kernel
theorem dL_law_607 : decode cL_law 607 = .ok (.aload_n 0, 1) := by decide +kernel
theorem dL_law_608 : decode cL_law 608 = .ok (.iload_n 3, 1) := by decide +kernel
theorem dL_law_609 : decode cL_law 609 = .ok (.iconst 2, 1) := by decide +kernel
theorem dL_law_610 : decode cL_law 610 = .ok (.iadd, 1) := by decide +kernel
theorem dL_law_611 : decode cL_law 611 = .ok (.iaload, 1) := by decide +kernel
theorem dL_law_612 : decode cL_law 612 = .ok (.aload_n 0, 1) := by decide +kernel
theorem dL_law_613 : decode cL_law 613 = .ok (.iload_n 3, 1) := by decide +kernel
theorem dL_law_614 : decode cL_law 614 = .ok (.iconst 3, 1) := by decide +kernel
theorem dL_law_615 : decode cL_law 615 = .ok (.iadd, 1) := by decide +kernel
theorem dL_law_616 : decode cL_law 616 = .ok (.iaload, 1) := by decide +kernel
theorem dL_law_617 : decode cL_law 617 = .ok (.invokevirtual 76, 3) := by decide +kernel
theorem dL_law_620 : decode cL_law 620 = .ok (.if_icmp .eq 756, 3) := by decide +kernel
theorem dL_law_623 : decode cL_law 623 = .ok (.iconst 0, 1) := by decide +kernel
theorem dL_law_624 : decode cL_law 624 = .ok (.ireturn, 1) := by decide +kernel
theorem dL_law_625 : decode cL_law 625 = .ok (.aload_n 1, 1) := by decide +kernel
theorem dL_law_626 : decode cL_law 626 = .ok (.aload_n 0, 1) := by decide +kernel
theorem dL_law_627 : decode cL_law 627 = .ok (.iload_n 3, 1) := by decide +kernel
theorem dL_law_628 : decode cL_law 628 = .ok (.iconst 1, 1) := by decide +kernel
theorem dL_law_629 : decode cL_law 629 = .ok (.iadd, 1) := by decide +kernel
theorem dL_law_630 : decode cL_law 630 = .ok (.iaload, 1) := by decide +kernel
theorem dL_law_631 : decode cL_law 631 = .ok (.invokevirtual 77, 3) := by decide +kernel
theorem dL_law_634 : decode cL_law 634 = .ok (.aload_n 2, 1) := by decide +kernel
theorem dL_law_635 : decode cL_law 635 = .ok (.aload_n 0, 1) := by decide +kernel
theorem dL_law_636 : decode cL_law 636 = .ok (.iload_n 3, 1) := by decide +kernel
theorem dL_law_637 : decode cL_law 637 = .ok (.iconst 1, 1) := by decide +kernel
theorem dL_law_638 : decode cL_law 638 = .ok (.iadd, 1) := by decide +kernel
theorem dL_law_639 : decode cL_law 639 = .ok (.iaload, 1) := by decide +kernel
theorem dL_law_640 : decode cL_law 640 = .ok (.invokevirtual 80, 3) := by decide +kernel
theorem dL_law_643 : decode cL_law 643 = .ok (.if_icmp .eq 733, 3) := by decide +kernel
theorem dL_law_646 : decode cL_law 646 = .ok (.iconst 0, 1) := by decide +kernel
theorem dL_law_647 : decode cL_law 647 = .ok (.ireturn, 1) := by decide +kernel
theorem dL_law_648 : decode cL_law 648 = .ok (.aload_n 1, 1) := by decide +kernel
theorem dL_law_649 : decode cL_law 649 = .ok (.aload_n 0, 1) := by decide +kernel
theorem dL_law_650 : decode cL_law 650 = .ok (.iload_n 3, 1) := by decide +kernel
theorem dL_law_651 : decode cL_law 651 = .ok (.iconst 1, 1) := by decide +kernel
theorem dL_law_652 : decode cL_law 652 = .ok (.iadd, 1) := by decide +kernel
theorem dL_law_653 : decode cL_law 653 = .ok (.iaload, 1) := by decide +kernel
theorem dL_law_654 : decode cL_law 654 = .ok (.invokevirtual 81, 3) := by decide +kernel
theorem dL_law_657 : decode cL_law 657 = .ok (.aload_n 2, 1) := by decide +kernel
theorem dL_law_658 : decode cL_law 658 = .ok (.aload_n 0, 1) := by decide +kernel
theorem dL_law_659 : decode cL_law 659 = .ok (.iload_n 3, 1) := by decide +kernel
theorem dL_law_660 : decode cL_law 660 = .ok (.iconst 1, 1) := by decide +kernel
theorem dL_law_661 : decode cL_law 661 = .ok (.iadd, 1) := by decide +kernel
theorem dL_law_662 : decode cL_law 662 = .ok (.iaload, 1) := by decide +kernel
theorem dL_law_663 : decode cL_law 663 = .ok (.invokevirtual 84, 3) := by decide +kernel
theorem dL_law_666 : decode cL_law 666 = .ok (.if_icmp .eq 710, 3) := by decide +kernel
theorem dL_law_669 : decode cL_law 669 = .ok (.iconst 0, 1) := by decide +kernel
theorem dL_law_670 : decode cL_law 670 = .ok (.ireturn, 1) := by decide +kernel
theorem dL_law_671 : decode cL_law 671 = .ok (.aload_n 1, 1) := by decide +kernel
theorem dL_law_672 : decode cL_law 672 = .ok (.aload_n 0, 1) := by decide +kernel
theorem dL_law_673 : decode cL_law 673 = .ok (.iload_n 3, 1) := by decide +kernel
theorem dL_law_674 : decode cL_law 674 = .ok (.iconst 1, 1) := by decide +kernel
theorem dL_law_675 : decode cL_law 675 = .ok (.iadd, 1) := by decide +kernel
theorem dL_law_676 : decode cL_law 676 = .ok (.iaload, 1) := by decide +kernel
theorem dL_law_677 : decode cL_law 677 = .ok (.invokevirtual 85, 3) := by decide +kernel
theorem dL_law_680 : decode cL_law 680 = .ok (.aload_n 2, 1) := by decide +kernel
theorem dL_law_681 : decode cL_law 681 = .ok (.aload_n 0, 1) := by decide +kernel
theorem dL_law_682 : decode cL_law 682 = .ok (.iload_n 3, 1) := by decide +kernel
theorem dL_law_683 : decode cL_law 683 = .ok (.iconst 1, 1) := by decide +kernel
theorem dL_law_684 : decode cL_law 684 = .ok (.iadd, 1) := by decide +kernel
theorem dL_law_685 : decode cL_law 685 = .ok (.iaload, 1) := by decide +kernel
theorem dL_law_686 : decode cL_law 686 = .ok (.invokevirtual 88, 3) := by decide +kernel
theorem dL_law_689 : decode cL_law 689 = .ok (.if_icmp .eq 687, 3) := by decide +kernel
theorem dL_law_692 : decode cL_law 692 = .ok (.iconst 0, 1) := by decide +kernel
theorem dL_law_693 : decode cL_law 693 = .ok (.ireturn, 1) := by decide +kernel
theorem dL_law_694 : decode cL_law 694 = .ok (.aload_n 1, 1) := by decide +kernel
theorem dL_law_695 : decode cL_law 695 = .ok (.aload_n 0, 1) := by decide +kernel
theorem dL_law_696 : decode cL_law 696 = .ok (.iload_n 3, 1) := by decide +kernel
theorem dL_law_697 : decode cL_law 697 = .ok (.iconst 1, 1) := by decide +kernel
theorem dL_law_698 : decode cL_law 698 = .ok (.iadd, 1) := by decide +kernel
theorem dL_law_699 : decode cL_law 699 = .ok (.iaload, 1) := by decide +kernel
theorem dL_law_700 : decode cL_law 700 = .ok (.aload_n 0, 1) := by decide +kernel
theorem dL_law_701 : decode cL_law 701 = .ok (.iload_n 3, 1) := by decide +kernel
theorem dL_law_702 : decode cL_law 702 = .ok (.iconst 2, 1) := by decide +kernel
theorem dL_law_703 : decode cL_law 703 = .ok (.iadd, 1) := by decide +kernel
theorem dL_law_704 : decode cL_law 704 = .ok (.iaload, 1) := by decide +kernel
theorem dL_law_705 : decode cL_law 705 = .ok (.invokevirtual 89, 3) := by decide +kernel
theorem dL_law_708 : decode cL_law 708 = .ok (.aload_n 2, 1) := by decide +kernel
theorem dL_law_709 : decode cL_law 709 = .ok (.aload_n 0, 1) := by decide +kernel
theorem dL_law_710 : decode cL_law 710 = .ok (.iload_n 3, 1) := by decide +kernel
theorem dL_law_711 : decode cL_law 711 = .ok (.iconst 1, 1) := by decide +kernel
theorem dL_law_712 : decode cL_law 712 = .ok (.iadd, 1) := by decide +kernel
theorem dL_law_713 : decode cL_law 713 = .ok (.iaload, 1) := by decide +kernel
theorem dL_law_714 : decode cL_law 714 = .ok (.aload_n 0, 1) := by decide +kernel
theorem dL_law_715 : decode cL_law 715 = .ok (.iload_n 3, 1) := by decide +kernel
theorem dL_law_716 : decode cL_law 716 = .ok (.iconst 2, 1) := by decide +kernel
theorem dL_law_717 : decode cL_law 717 = .ok (.iadd, 1) := by decide +kernel
theorem dL_law_718 : decode cL_law 718 = .ok (.iaload, 1) := by decide +kernel
theorem dL_law_719 : decode cL_law 719 = .ok (.invokevirtual 92, 3) := by decide +kernel
theorem dL_law_722 : decode cL_law 722 = .ok (.if_icmp .eq 654, 3) := by decide +kernel
theorem dL_law_725 : decode cL_law 725 = .ok (.iconst 0, 1) := by decide +kernel
theorem dL_law_726 : decode cL_law 726 = .ok (.ireturn, 1) := by decide +kernel
theorem dL_law_727 : decode cL_law 727 = .ok (.aload_n 1, 1) := by decide +kernel
theorem dL_law_728 : decode cL_law 728 = .ok (.aload_n 0, 1) := by decide +kernel
theorem dL_law_729 : decode cL_law 729 = .ok (.iload_n 3, 1) := by decide +kernel
theorem dL_law_730 : decode cL_law 730 = .ok (.iconst 1, 1) := by decide +kernel
theorem dL_law_731 : decode cL_law 731 = .ok (.iadd, 1) := by decide +kernel
theorem dL_law_732 : decode cL_law 732 = .ok (.iaload, 1) := by decide +kernel
theorem dL_law_733 : decode cL_law 733 = .ok (.aload_n 0, 1) := by decide +kernel
theorem dL_law_734 : decode cL_law 734 = .ok (.iload_n 3, 1) := by decide +kernel
theorem dL_law_735 : decode cL_law 735 = .ok (.iconst 2, 1) := by decide +kernel
theorem dL_law_736 : decode cL_law 736 = .ok (.iadd, 1) := by decide +kernel
theorem dL_law_737 : decode cL_law 737 = .ok (.iaload, 1) := by decide +kernel
theorem dL_law_738 : decode cL_law 738 = .ok (.invokevirtual 93, 3) := by decide +kernel
theorem dL_law_741 : decode cL_law 741 = .ok (.aload_n 2, 1) := by decide +kernel
theorem dL_law_742 : decode cL_law 742 = .ok (.aload_n 0, 1) := by decide +kernel
theorem dL_law_743 : decode cL_law 743 = .ok (.iload_n 3, 1) := by decide +kernel
theorem dL_law_744 : decode cL_law 744 = .ok (.iconst 1, 1) := by decide +kernel
theorem dL_law_745 : decode cL_law 745 = .ok (.iadd, 1) := by decide +kernel
theorem dL_law_746 : decode cL_law 746 = .ok (.iaload, 1) := by decide +kernel
theorem dL_law_747 : decode cL_law 747 = .ok (.aload_n 0, 1) := by decide +kernel
theorem dL_law_748 : decode cL_law 748 = .ok (.iload_n 3, 1) := by decide +kernel
theorem dL_law_749 : decode cL_law 749 = .ok (.iconst 2, 1) := by decide +kernel
theorem dL_law_750 : decode cL_law 750 = .ok (.iadd, 1) := by decide +kernel
theorem dL_law_751 : decode cL_law 751 = .ok (.iaload, 1) := by decide +kernel
theorem dL_law_752 : decode cL_law 752 = .ok (.invokevirtual 96, 3) := by decide +kernel
theorem dL_law_755 : decode cL_law 755 = .ok (.if_icmp .eq 621, 3) := by decide +kernel
theorem dL_law_758 : decode cL_law 758 = .ok (.iconst 0, 1) := by decide +kernel
theorem dL_law_759 : decode cL_law 759 = .ok (.ireturn, 1) := by decide +kernel
theorem dL_law_760 : decode cL_law 760 = .ok (.aload_n 1, 1) := by decide +kernel
theorem dL_law_761 : decode cL_law 761 = .ok (.aload_n 0, 1) := by decide +kernel
theorem dL_law_762 : decode cL_law 762 = .ok (.iload_n 3, 1) := by decide +kernel
theorem dL_law_763 : decode cL_law 763 = .ok (.iconst 1, 1) := by decide +kernel
theorem dL_law_764 : decode cL_law 764 = .ok (.iadd, 1) := by decide +kernel
theorem dL_law_765 : decode cL_law 765 = .ok (.iaload, 1) := by decide +kernel
theorem dL_law_766 : decode cL_law 766 = .ok (.aload_n 0, 1) := by decide +kernel
theorem dL_law_767 : decode cL_law 767 = .ok (.iload_n 3, 1) := by decide +kernel
theorem dL_law_768 : decode cL_law 768 = .ok (.iconst 2, 1) := by decide +kernel
theorem dL_law_769 : decode cL_law 769 = .ok (.iadd, 1) := by decide +kernel
theorem dL_law_770 : decode cL_law 770 = .ok (.iaload, 1) := by decide +kernel
theorem dL_law_771 : decode cL_law 771 = .ok (.invokevirtual 97, 3) := by decide +kernel
theorem dL_law_774 : decode cL_law 774 = .ok (.aload_n 2, 1) := by decide +kernel
theorem dL_law_775 : decode cL_law 775 = .ok (.aload_n 0, 1) := by decide +kernel
theorem dL_law_776 : decode cL_law 776 = .ok (.iload_n 3, 1) := by decide +kernel
theorem dL_law_777 : decode cL_law 777 = .ok (.iconst 1, 1) := by decide +kernel
theorem dL_law_778 : decode cL_law 778 = .ok (.iadd, 1) := by decide +kernel
theorem dL_law_779 : decode cL_law 779 = .ok (.iaload, 1) := by decide +kernel
theorem dL_law_780 : decode cL_law 780 = .ok (.aload_n 0, 1) := by decide +kernel
theorem dL_law_781 : decode cL_law 781 = .ok (.iload_n 3, 1) := by decide +kernel
theorem dL_law_782 : decode cL_law 782 = .ok (.iconst 2, 1) := by decide +kernel
theorem dL_law_783 : decode cL_law 783 = .ok (.iadd, 1) := by decide +kernel
theorem dL_law_784 : decode cL_law 784 = .ok (.iaload, 1) := by decide +kernel
theorem dL_law_785 : decode cL_law 785 = .ok (.invokevirtual 100, 3) := by decide +kernel
theorem dL_law_788 : decode cL_law 788 = .ok (.if_icmp .eq 588, 3) := by decide +kernel
theorem dL_law_791 : decode cL_law 791 = .ok (.iconst 0, 1) := by decide +kernel
theorem dL_law_792 : decode cL_law 792 = .ok (.ireturn, 1) := by decide +kernel
theorem dL_law_793 : decode cL_law 793 = .ok (.aload_n 1, 1) := by decide +kernel
theorem dL_law_794 : decode cL_law 794 = .ok (.aload_n 0, 1) := by decide +kernel
theorem dL_law_795 : decode cL_law 795 = .ok (.iload_n 3, 1) := by decide +kernel
theorem dL_law_796 : decode cL_law 796 = .ok (.iconst 1, 1) := by decide +kernel
theorem dL_law_797 : decode cL_law 797 = .ok (.iadd, 1) := by decide +kernel
theorem dL_law_798 : decode cL_law 798 = .ok (.iaload, 1) := by decide +kernel
theorem dL_law_799 : decode cL_law 799 = .ok (.aload_n 0, 1) := by decide +kernel
theorem dL_law_800 : decode cL_law 800 = .ok (.iload_n 3, 1) := by decide +kernel
theorem dL_law_801 : decode cL_law 801 = .ok (.iconst 2, 1) := by decide +kernel
theorem dL_law_802 : decode cL_law 802 = .ok (.iadd, 1) := by decide +kernel
theorem dL_law_803 : decode cL_law 803 = .ok (.iaload, 1) := by decide +kernel
theorem dL_law_804 : decode cL_law 804 = .ok (.invokevirtual 101, 3) := by decide +kernel
theorem dL_law_807 : decode cL_law 807 = .ok (.aload_n 2, 1) := by decide +kernel
theorem dL_law_808 : decode cL_law 808 = .ok (.aload_n 0, 1) := by decide +kernel
theorem dL_law_809 : decode cL_law 809 = .ok (.iload_n 3, 1) := by decide +kernel
theorem dL_law_810 : decode cL_law 810 = .ok (.iconst 1, 1) := by decide +kernel
theorem dL_law_811 : decode cL_law 811 = .ok (.iadd, 1) := by decide +kernel
theorem dL_law_812 : decode cL_law 812 = .ok (.iaload, 1) := by decide +kernel
theorem dL_law_813 : decode cL_law 813 = .ok (.aload_n 0, 1) := by decide +kernel
theorem dL_law_814 : decode cL_law 814 = .ok (.iload_n 3, 1) := by decide +kernel
theorem dL_law_815 : decode cL_law 815 = .ok (.iconst 2, 1) := by decide +kernel
theorem dL_law_816 : decode cL_law 816 = .ok (.iadd, 1) := by decide +kernel
theorem dL_law_817 : decode cL_law 817 = .ok (.iaload, 1) := by decide +kernel
theorem dL_law_818 : decode cL_law 818 = .ok (.invokevirtual 104, 3) := by decide +kernel
theorem dL_law_821 : decode cL_law 821 = .ok (.if_icmp .eq 555, 3) := by decide +kernel
theorem dL_law_824 : decode cL_law 824 = .ok (.iconst 0, 1) := by decide +kernel
theorem dL_law_825 : decode cL_law 825 = .ok (.ireturn, 1) := by decide +kernel
theorem dL_law_826 : decode cL_law 826 = .ok (.aload_n 1, 1) := by decide +kernel
theorem dL_law_827 : decode cL_law 827 = .ok (.aload_n 0, 1) := by decide +kernel
theorem dL_law_828 : decode cL_law 828 = .ok (.iload_n 3, 1) := by decide +kernel
theorem dL_law_829 : decode cL_law 829 = .ok (.iconst 1, 1) := by decide +kernel
theorem dL_law_830 : decode cL_law 830 = .ok (.iadd, 1) := by decide +kernel
theorem dL_law_831 : decode cL_law 831 = .ok (.iaload, 1) := by decide +kernel
theorem dL_law_832 : decode cL_law 832 = .ok (.aload_n 0, 1) := by decide +kernel
theorem dL_law_833 : decode cL_law 833 = .ok (.iload_n 3, 1) := by decide +kernel
theorem dL_law_834 : decode cL_law 834 = .ok (.iconst 2, 1) := by decide +kernel
theorem dL_law_835 : decode cL_law 835 = .ok (.iadd, 1) := by decide +kernel
theorem dL_law_836 : decode cL_law 836 = .ok (.iaload, 1) := by decide +kernel
theorem dL_law_837 : decode cL_law 837 = .ok (.aload_n 0, 1) := by decide +kernel
theorem dL_law_838 : decode cL_law 838 = .ok (.iload_n 3, 1) := by decide +kernel
theorem dL_law_839 : decode cL_law 839 = .ok (.iconst 3, 1) := by decide +kernel
theorem dL_law_840 : decode cL_law 840 = .ok (.iadd, 1) := by decide +kernel
theorem dL_law_841 : decode cL_law 841 = .ok (.iaload, 1) := by decide +kernel
theorem dL_law_842 : decode cL_law 842 = .ok (.invokevirtual 105, 3) := by decide +kernel
theorem dL_law_845 : decode cL_law 845 = .ok (.aload_n 2, 1) := by decide +kernel
theorem dL_law_846 : decode cL_law 846 = .ok (.aload_n 0, 1) := by decide +kernel
theorem dL_law_847 : decode cL_law 847 = .ok (.iload_n 3, 1) := by decide +kernel
theorem dL_law_848 : decode cL_law 848 = .ok (.iconst 1, 1) := by decide +kernel
theorem dL_law_849 : decode cL_law 849 = .ok (.iadd, 1) := by decide +kernel
theorem dL_law_850 : decode cL_law 850 = .ok (.iaload, 1) := by decide +kernel
theorem dL_law_851 : decode cL_law 851 = .ok (.aload_n 0, 1) := by decide +kernel
theorem dL_law_852 : decode cL_law 852 = .ok (.iload_n 3, 1) := by decide +kernel
theorem dL_law_853 : decode cL_law 853 = .ok (.iconst 2, 1) := by decide +kernel
theorem dL_law_854 : decode cL_law 854 = .ok (.iadd, 1) := by decide +kernel
theorem dL_law_855 : decode cL_law 855 = .ok (.iaload, 1) := by decide +kernel
theorem dL_law_856 : decode cL_law 856 = .ok (.aload_n 0, 1) := by decide +kernel
theorem dL_law_857 : decode cL_law 857 = .ok (.iload_n 3, 1) := by decide +kernel
theorem dL_law_858 : decode cL_law 858 = .ok (.iconst 3, 1) := by decide +kernel
theorem dL_law_859 : decode cL_law 859 = .ok (.iadd, 1) := by decide +kernel
theorem dL_law_860 : decode cL_law 860 = .ok (.iaload, 1) := by decide +kernel
theorem dL_law_861 : decode cL_law 861 = .ok (.invokevirtual 108, 3) := by decide +kernel
theorem dL_law_864 : decode cL_law 864 = .ok (.if_icmp .eq 512, 3) := by decide +kernel
theorem dL_law_867 : decode cL_law 867 = .ok (.iconst 0, 1) := by decide +kernel
theorem dL_law_868 : decode cL_law 868 = .ok (.ireturn, 1) := by decide +kernel
theorem dL_law_869 : decode cL_law 869 = .ok (.aload_n 1, 1) := by decide +kernel
theorem dL_law_870 : decode cL_law 870 = .ok (.aload_n 0, 1) := by decide +kernel
theorem dL_law_871 : decode cL_law 871 = .ok (.iload_n 3, 1) := by decide +kernel
theorem dL_law_872 : decode cL_law 872 = .ok (.iconst 1, 1) := by decide +kernel
theorem dL_law_873 : decode cL_law 873 = .ok (.iadd, 1) := by decide +kernel
theorem dL_law_874 : decode cL_law 874 = .ok (.iaload, 1) := by decide +kernel
theorem dL_law_875 : decode cL_law 875 = .ok (.aload_n 0, 1) := by decide +kernel
theorem dL_law_876 : decode cL_law 876 = .ok (.iload_n 3, 1) := by decide +kernel
theorem dL_law_877 : decode cL_law 877 = .ok (.iconst 2, 1) := by decide +kernel
theorem dL_law_878 : decode cL_law 878 = .ok (.iadd, 1) := by decide +kernel
theorem dL_law_879 : decode cL_law 879 = .ok (.iaload, 1) := by decide +kernel
theorem dL_law_880 : decode cL_law 880 = .ok (.aload_n 0, 1) := by decide +kernel
theorem dL_law_881 : decode cL_law 881 = .ok (.iload_n 3, 1) := by decide +kernel
theorem dL_law_882 : decode cL_law 882 = .ok (.iconst 3, 1) := by decide +kernel
theorem dL_law_883 : decode cL_law 883 = .ok (.iadd, 1) := by decide +kernel
theorem dL_law_884 : decode cL_law 884 = .ok (.iaload, 1) := by decide +kernel
theorem dL_law_885 : decode cL_law 885 = .ok (.aload_n 0, 1) := by decide +kernel
theorem dL_law_886 : decode cL_law 886 = .ok (.iload_n 3, 1) := by decide +kernel
theorem dL_law_887 : decode cL_law 887 = .ok (.iconst 4, 1) := by decide +kernel
theorem dL_law_888 : decode cL_law 888 = .ok (.iadd, 1) := by decide +kernel
theorem dL_law_889 : decode cL_law 889 = .ok (.iaload, 1) := by decide +kernel
theorem dL_law_890 : decode cL_law 890 = .ok (.invokevirtual 109, 3) := by decide +kernel
theorem dL_law_893 : decode cL_law 893 = .ok (.aload_n 2, 1) := by decide +kernel
theorem dL_law_894 : decode cL_law 894 = .ok (.aload_n 0, 1) := by decide +kernel
theorem dL_law_895 : decode cL_law 895 = .ok (.iload_n 3, 1) := by decide +kernel
theorem dL_law_896 : decode cL_law 896 = .ok (.iconst 1, 1) := by decide +kernel
theorem dL_law_897 : decode cL_law 897 = .ok (.iadd, 1) := by decide +kernel
theorem dL_law_898 : decode cL_law 898 = .ok (.iaload, 1) := by decide +kernel
theorem dL_law_899 : decode cL_law 899 = .ok (.aload_n 0, 1) := by decide +kernel
theorem dL_law_900 : decode cL_law 900 = .ok (.iload_n 3, 1) := by decide +kernel
theorem dL_law_901 : decode cL_law 901 = .ok (.iconst 2, 1) := by decide +kernel
theorem dL_law_902 : decode cL_law 902 = .ok (.iadd, 1) := by decide +kernel
theorem dL_law_903 : decode cL_law 903 = .ok (.iaload, 1) := by decide +kernel
theorem dL_law_904 : decode cL_law 904 = .ok (.aload_n 0, 1) := by decide +kernel
theorem dL_law_905 : decode cL_law 905 = .ok (.iload_n 3, 1) := by decide +kernel
theorem dL_law_906 : decode cL_law 906 = .ok (.iconst 3, 1) := by decide +kernel
theorem dL_law_907 : decode cL_law 907 = .ok (.iadd, 1) := by decide +kernel
theorem dL_law_908 : decode cL_law 908 = .ok (.iaload, 1) := by decide +kernel
theorem dL_law_909 : decode cL_law 909 = .ok (.aload_n 0, 1) := by decide +kernel
theorem dL_law_910 : decode cL_law 910 = .ok (.iload_n 3, 1) := by decide +kernel
theorem dL_law_911 : decode cL_law 911 = .ok (.iconst 4, 1) := by decide +kernel
theorem dL_law_912 : decode cL_law 912 = .ok (.iadd, 1) := by decide +kernel
theorem dL_law_913 : decode cL_law 913 = .ok (.iaload, 1) := by decide +kernel
theorem dL_law_914 : decode cL_law 914 = .ok (.invokevirtual 113, 3) := by decide +kernel
theorem dL_law_917 : decode cL_law 917 = .ok (.lcmp, 1) := by decide +kernel
theorem dL_law_918 : decode cL_law 918 = .ok (.ifCond .eq 458, 3) := by decide +kernel
theorem dL_law_921 : decode cL_law 921 = .ok (.iconst 0, 1) := by decide +kernel
theorem dL_law_922 : decode cL_law 922 = .ok (.ireturn, 1) := by decide +kernel
theorem dL_law_923 : decode cL_law 923 = .ok (.aload_n 1, 1) := by decide +kernel
theorem dL_law_924 : decode cL_law 924 = .ok (.aload_n 0, 1) := by decide +kernel
theorem dL_law_925 : decode cL_law 925 = .ok (.iload_n 3, 1) := by decide +kernel
theorem dL_law_926 : decode cL_law 926 = .ok (.iconst 1, 1) := by decide +kernel
theorem dL_law_927 : decode cL_law 927 = .ok (.iadd, 1) := by decide +kernel
theorem dL_law_928 : decode cL_law 928 = .ok (.iaload, 1) := by decide +kernel
theorem dL_law_929 : decode cL_law 929 = .ok (.aload_n 0, 1) := by decide +kernel
theorem dL_law_930 : decode cL_law 930 = .ok (.iload_n 3, 1) := by decide +kernel
theorem dL_law_931 : decode cL_law 931 = .ok (.iconst 2, 1) := by decide +kernel
theorem dL_law_932 : decode cL_law 932 = .ok (.iadd, 1) := by decide +kernel
theorem dL_law_933 : decode cL_law 933 = .ok (.iaload, 1) := by decide +kernel
theorem dL_law_934 : decode cL_law 934 = .ok (.aload_n 0, 1) := by decide +kernel
theorem dL_law_935 : decode cL_law 935 = .ok (.iload_n 3, 1) := by decide +kernel
theorem dL_law_936 : decode cL_law 936 = .ok (.iconst 3, 1) := by decide +kernel
theorem dL_law_937 : decode cL_law 937 = .ok (.iadd, 1) := by decide +kernel
theorem dL_law_938 : decode cL_law 938 = .ok (.iaload, 1) := by decide +kernel
theorem dL_law_939 : decode cL_law 939 = .ok (.invokevirtual 114, 3) := by decide +kernel
theorem dL_law_942 : decode cL_law 942 = .ok (.aload_n 2, 1) := by decide +kernel
theorem dL_law_943 : decode cL_law 943 = .ok (.aload_n 0, 1) := by decide +kernel
theorem dL_law_944 : decode cL_law 944 = .ok (.iload_n 3, 1) := by decide +kernel
theorem dL_law_945 : decode cL_law 945 = .ok (.iconst 1, 1) := by decide +kernel
theorem dL_law_946 : decode cL_law 946 = .ok (.iadd, 1) := by decide +kernel
theorem dL_law_947 : decode cL_law 947 = .ok (.iaload, 1) := by decide +kernel
theorem dL_law_948 : decode cL_law 948 = .ok (.aload_n 0, 1) := by decide +kernel
theorem dL_law_949 : decode cL_law 949 = .ok (.iload_n 3, 1) := by decide +kernel
theorem dL_law_950 : decode cL_law 950 = .ok (.iconst 2, 1) := by decide +kernel
theorem dL_law_951 : decode cL_law 951 = .ok (.iadd, 1) := by decide +kernel
theorem dL_law_952 : decode cL_law 952 = .ok (.iaload, 1) := by decide +kernel
theorem dL_law_953 : decode cL_law 953 = .ok (.aload_n 0, 1) := by decide +kernel
theorem dL_law_954 : decode cL_law 954 = .ok (.iload_n 3, 1) := by decide +kernel
theorem dL_law_955 : decode cL_law 955 = .ok (.iconst 3, 1) := by decide +kernel
theorem dL_law_956 : decode cL_law 956 = .ok (.iadd, 1) := by decide +kernel
theorem dL_law_957 : decode cL_law 957 = .ok (.iaload, 1) := by decide +kernel
theorem dL_law_958 : decode cL_law 958 = .ok (.invokevirtual 118, 3) := by decide +kernel
theorem dL_law_961 : decode cL_law 961 = .ok (.lcmp, 1) := by decide +kernel
theorem dL_law_962 : decode cL_law 962 = .ok (.ifCond .eq 414, 3) := by decide +kernel
theorem dL_law_965 : decode cL_law 965 = .ok (.iconst 0, 1) := by decide +kernel
theorem dL_law_966 : decode cL_law 966 = .ok (.ireturn, 1) := by decide +kernel
theorem dL_law_967 : decode cL_law 967 = .ok (.aload_n 1, 1) := by decide +kernel
theorem dL_law_968 : decode cL_law 968 = .ok (.aload_n 0, 1) := by decide +kernel
theorem dL_law_969 : decode cL_law 969 = .ok (.iload_n 3, 1) := by decide +kernel
theorem dL_law_970 : decode cL_law 970 = .ok (.iconst 1, 1) := by decide +kernel
theorem dL_law_971 : decode cL_law 971 = .ok (.iadd, 1) := by decide +kernel
theorem dL_law_972 : decode cL_law 972 = .ok (.iaload, 1) := by decide +kernel
theorem dL_law_973 : decode cL_law 973 = .ok (.aload_n 0, 1) := by decide +kernel
theorem dL_law_974 : decode cL_law 974 = .ok (.iload_n 3, 1) := by decide +kernel
theorem dL_law_975 : decode cL_law 975 = .ok (.iconst 2, 1) := by decide +kernel
theorem dL_law_976 : decode cL_law 976 = .ok (.iadd, 1) := by decide +kernel
theorem dL_law_977 : decode cL_law 977 = .ok (.iaload, 1) := by decide +kernel
theorem dL_law_978 : decode cL_law 978 = .ok (.aload_n 0, 1) := by decide +kernel
theorem dL_law_979 : decode cL_law 979 = .ok (.iload_n 3, 1) := by decide +kernel
theorem dL_law_980 : decode cL_law 980 = .ok (.iconst 3, 1) := by decide +kernel
theorem dL_law_981 : decode cL_law 981 = .ok (.iadd, 1) := by decide +kernel
theorem dL_law_982 : decode cL_law 982 = .ok (.iaload, 1) := by decide +kernel
theorem dL_law_983 : decode cL_law 983 = .ok (.invokevirtual 119, 3) := by decide +kernel
theorem dL_law_986 : decode cL_law 986 = .ok (.aload_n 2, 1) := by decide +kernel
theorem dL_law_987 : decode cL_law 987 = .ok (.aload_n 0, 1) := by decide +kernel
theorem dL_law_988 : decode cL_law 988 = .ok (.iload_n 3, 1) := by decide +kernel
theorem dL_law_989 : decode cL_law 989 = .ok (.iconst 1, 1) := by decide +kernel
theorem dL_law_990 : decode cL_law 990 = .ok (.iadd, 1) := by decide +kernel
theorem dL_law_991 : decode cL_law 991 = .ok (.iaload, 1) := by decide +kernel
theorem dL_law_992 : decode cL_law 992 = .ok (.aload_n 0, 1) := by decide +kernel
theorem dL_law_993 : decode cL_law 993 = .ok (.iload_n 3, 1) := by decide +kernel
theorem dL_law_994 : decode cL_law 994 = .ok (.iconst 2, 1) := by decide +kernel
theorem dL_law_995 : decode cL_law 995 = .ok (.iadd, 1) := by decide +kernel
theorem dL_law_996 : decode cL_law 996 = .ok (.iaload, 1) := by decide +kernel
theorem dL_law_997 : decode cL_law 997 = .ok (.aload_n 0, 1) := by decide +kernel
theorem dL_law_998 : decode cL_law 998 = .ok (.iload_n 3, 1) := by decide +kernel
theorem dL_law_999 : decode cL_law 999 = .ok (.iconst 3, 1) := by decide +kernel
theorem dL_law_1000 : decode cL_law 1000 = .ok (.iadd, 1) := by decide +kernel
theorem dL_law_1001 : decode cL_law 1001 = .ok (.iaload, 1) := by decide +kernel
theorem dL_law_1002 : decode cL_law 1002 = .ok (.invokevirtual 122, 3) := by decide +kernel
theorem dL_law_1005 : decode cL_law 1005 = .ok (.if_icmp .eq 371, 3) := by decide +kernel
theorem dL_law_1008 : decode cL_law 1008 = .ok (.iconst 0, 1) := by decide +kernel
theorem dL_law_1009 : decode cL_law 1009 = .ok (.ireturn, 1) := by decide +kernel
theorem dL_law_1010 : decode cL_law 1010 = .ok (.aload_n 1, 1) := by decide +kernel
theorem dL_law_1011 : decode cL_law 1011 = .ok (.aload_n 0, 1) := by decide +kernel
theorem dL_law_1012 : decode cL_law 1012 = .ok (.iload_n 3, 1) := by decide +kernel
theorem dL_law_1013 : decode cL_law 1013 = .ok (.iconst 1, 1) := by decide +kernel
theorem dL_law_1014 : decode cL_law 1014 = .ok (.iadd, 1) := by decide +kernel
theorem dL_law_1015 : decode cL_law 1015 = .ok (.iaload, 1) := by decide +kernel
theorem dL_law_1016 : decode cL_law 1016 = .ok (.invokevirtual 123, 3) := by decide +kernel
theorem dL_law_1019 : decode cL_law 1019 = .ok (.aload_n 2, 1) := by decide +kernel
theorem dL_law_1020 : decode cL_law 1020 = .ok (.aload_n 0, 1) := by decide +kernel
theorem dL_law_1021 : decode cL_law 1021 = .ok (.iload_n 3, 1) := by decide +kernel
theorem dL_law_1022 : decode cL_law 1022 = .ok (.iconst 1, 1) := by decide +kernel
theorem dL_law_1023 : decode cL_law 1023 = .ok (.iadd, 1) := by decide +kernel
theorem dL_law_1024 : decode cL_law 1024 = .ok (.iaload, 1) := by decide +kernel
theorem dL_law_1025 : decode cL_law 1025 = .ok (.invokevirtual 126, 3) := by decide +kernel
theorem dL_law_1028 : decode cL_law 1028 = .ok (.if_icmp .eq 348, 3) := by decide +kernel
theorem dL_law_1031 : decode cL_law 1031 = .ok (.iconst 0, 1) := by decide +kernel
theorem dL_law_1032 : decode cL_law 1032 = .ok (.ireturn, 1) := by decide +kernel
theorem dL_law_1033 : decode cL_law 1033 = .ok (.aload_n 1, 1) := by decide +kernel
theorem dL_law_1034 : decode cL_law 1034 = .ok (.aload_n 0, 1) := by decide +kernel
theorem dL_law_1035 : decode cL_law 1035 = .ok (.iload_n 3, 1) := by decide +kernel
theorem dL_law_1036 : decode cL_law 1036 = .ok (.iconst 1, 1) := by decide +kernel
theorem dL_law_1037 : decode cL_law 1037 = .ok (.iadd, 1) := by decide +kernel
theorem dL_law_1038 : decode cL_law 1038 = .ok (.iaload, 1) := by decide +kernel
theorem dL_law_1039 : decode cL_law 1039 = .ok (.invokevirtual 127, 3) := by decide +kernel
theorem dL_law_1042 : decode cL_law 1042 = .ok (.aload_n 2, 1) := by decide +kernel
theorem dL_law_1043 : decode cL_law 1043 = .ok (.aload_n 0, 1) := by decide +kernel
theorem dL_law_1044 : decode cL_law 1044 = .ok (.iload_n 3, 1) := by decide +kernel
theorem dL_law_1045 : decode cL_law 1045 = .ok (.iconst 1, 1) := by decide +kernel
theorem dL_law_1046 : decode cL_law 1046 = .ok (.iadd, 1) := by decide +kernel
theorem dL_law_1047 : decode cL_law 1047 = .ok (.iaload, 1) := by decide +kernel
theorem dL_law_1048 : decode cL_law 1048 = .ok (.invokevirtual 130, 3) := by decide +kernel
theorem dL_law_1051 : decode cL_law 1051 = .ok (.if_icmp .eq 325, 3) := by decide +kernel
theorem dL_law_1054 : decode cL_law 1054 = .ok (.iconst 0, 1) := by decide +kernel
theorem dL_law_1055 : decode cL_law 1055 = .ok (.ireturn, 1) := by decide +kernel
theorem dL_law_1056 : decode cL_law 1056 = .ok (.aload_n 1, 1) := by decide +kernel
theorem dL_law_1057 : decode cL_law 1057 = .ok (.aload_n 0, 1) := by decide +kernel
theorem dL_law_1058 : decode cL_law 1058 = .ok (.iload_n 3, 1) := by decide +kernel
theorem dL_law_1059 : decode cL_law 1059 = .ok (.iconst 1, 1) := by decide +kernel
theorem dL_law_1060 : decode cL_law 1060 = .ok (.iadd, 1) := by decide +kernel
theorem dL_law_1061 : decode cL_law 1061 = .ok (.iaload, 1) := by decide +kernel
theorem dL_law_1062 : decode cL_law 1062 = .ok (.invokevirtual 131, 3) := by decide +kernel
theorem dL_law_1065 : decode cL_law 1065 = .ok (.aload_n 2, 1) := by decide +kernel
theorem dL_law_1066 : decode cL_law 1066 = .ok (.aload_n 0, 1) := by decide +kernel
theorem dL_law_1067 : decode cL_law 1067 = .ok (.iload_n 3, 1) := by decide +kernel
theorem dL_law_1068 : decode cL_law 1068 = .ok (.iconst 1, 1) := by decide +kernel
theorem dL_law_1069 : decode cL_law 1069 = .ok (.iadd, 1) := by decide +kernel
theorem dL_law_1070 : decode cL_law 1070 = .ok (.iaload, 1) := by decide +kernel
theorem dL_law_1071 : decode cL_law 1071 = .ok (.invokevirtual 134, 3) := by decide +kernel
theorem dL_law_1074 : decode cL_law 1074 = .ok (.if_icmp .eq 302, 3) := by decide +kernel
theorem dL_law_1077 : decode cL_law 1077 = .ok (.iconst 0, 1) := by decide +kernel
theorem dL_law_1078 : decode cL_law 1078 = .ok (.ireturn, 1) := by decide +kernel
theorem dL_law_1079 : decode cL_law 1079 = .ok (.aload_n 1, 1) := by decide +kernel
theorem dL_law_1080 : decode cL_law 1080 = .ok (.aload_n 0, 1) := by decide +kernel
theorem dL_law_1081 : decode cL_law 1081 = .ok (.iload_n 3, 1) := by decide +kernel
theorem dL_law_1082 : decode cL_law 1082 = .ok (.iconst 1, 1) := by decide +kernel
theorem dL_law_1083 : decode cL_law 1083 = .ok (.iadd, 1) := by decide +kernel
theorem dL_law_1084 : decode cL_law 1084 = .ok (.iaload, 1) := by decide +kernel
theorem dL_law_1085 : decode cL_law 1085 = .ok (.aload_n 0, 1) := by decide +kernel
theorem dL_law_1086 : decode cL_law 1086 = .ok (.iload_n 3, 1) := by decide +kernel
theorem dL_law_1087 : decode cL_law 1087 = .ok (.iconst 2, 1) := by decide +kernel
theorem dL_law_1088 : decode cL_law 1088 = .ok (.iadd, 1) := by decide +kernel
theorem dL_law_1089 : decode cL_law 1089 = .ok (.iaload, 1) := by decide +kernel
theorem dL_law_1090 : decode cL_law 1090 = .ok (.invokevirtual 135, 3) := by decide +kernel
theorem dL_law_1093 : decode cL_law 1093 = .ok (.aload_n 2, 1) := by decide +kernel
theorem dL_law_1094 : decode cL_law 1094 = .ok (.aload_n 0, 1) := by decide +kernel
theorem dL_law_1095 : decode cL_law 1095 = .ok (.iload_n 3, 1) := by decide +kernel
theorem dL_law_1096 : decode cL_law 1096 = .ok (.iconst 1, 1) := by decide +kernel
theorem dL_law_1097 : decode cL_law 1097 = .ok (.iadd, 1) := by decide +kernel
theorem dL_law_1098 : decode cL_law 1098 = .ok (.iaload, 1) := by decide +kernel
theorem dL_law_1099 : decode cL_law 1099 = .ok (.aload_n 0, 1) := by decide +kernel
theorem dL_law_1100 : decode cL_law 1100 = .ok (.iload_n 3, 1) := by decide +kernel
theorem dL_law_1101 : decode cL_law 1101 = .ok (.iconst 2, 1) := by decide +kernel
theorem dL_law_1102 : decode cL_law 1102 = .ok (.iadd, 1) := by decide +kernel
theorem dL_law_1103 : decode cL_law 1103 = .ok (.iaload, 1) := by decide +kernel
theorem dL_law_1104 : decode cL_law 1104 = .ok (.invokevirtual 138, 3) := by decide +kernel
theorem dL_law_1107 : decode cL_law 1107 = .ok (.if_icmp .eq 269, 3) := by decide +kernel
theorem dL_law_1110 : decode cL_law 1110 = .ok (.iconst 0, 1) := by decide +kernel
theorem dL_law_1111 : decode cL_law 1111 = .ok (.ireturn, 1) := by decide +kernel
theorem dL_law_1112 : decode cL_law 1112 = .ok (.aload_n 1, 1) := by decide +kernel
theorem dL_law_1113 : decode cL_law 1113 = .ok (.aload_n 0, 1) := by decide +kernel
theorem dL_law_1114 : decode cL_law 1114 = .ok (.iload_n 3, 1) := by decide +kernel
theorem dL_law_1115 : decode cL_law 1115 = .ok (.iconst 1, 1) := by decide +kernel
theorem dL_law_1116 : decode cL_law 1116 = .ok (.iadd, 1) := by decide +kernel
theorem dL_law_1117 : decode cL_law 1117 = .ok (.iaload, 1) := by decide +kernel
theorem dL_law_1118 : decode cL_law 1118 = .ok (.aload_n 0, 1) := by decide +kernel
theorem dL_law_1119 : decode cL_law 1119 = .ok (.iload_n 3, 1) := by decide +kernel
theorem dL_law_1120 : decode cL_law 1120 = .ok (.iconst 2, 1) := by decide +kernel
theorem dL_law_1121 : decode cL_law 1121 = .ok (.iadd, 1) := by decide +kernel
theorem dL_law_1122 : decode cL_law 1122 = .ok (.iaload, 1) := by decide +kernel
theorem dL_law_1123 : decode cL_law 1123 = .ok (.aload_n 0, 1) := by decide +kernel
theorem dL_law_1124 : decode cL_law 1124 = .ok (.iload_n 3, 1) := by decide +kernel
theorem dL_law_1125 : decode cL_law 1125 = .ok (.iconst 3, 1) := by decide +kernel
theorem dL_law_1126 : decode cL_law 1126 = .ok (.iadd, 1) := by decide +kernel
theorem dL_law_1127 : decode cL_law 1127 = .ok (.iaload, 1) := by decide +kernel
theorem dL_law_1128 : decode cL_law 1128 = .ok (.invokevirtual 139, 3) := by decide +kernel
theorem dL_law_1131 : decode cL_law 1131 = .ok (.aload_n 2, 1) := by decide +kernel
theorem dL_law_1132 : decode cL_law 1132 = .ok (.aload_n 0, 1) := by decide +kernel
theorem dL_law_1133 : decode cL_law 1133 = .ok (.iload_n 3, 1) := by decide +kernel
theorem dL_law_1134 : decode cL_law 1134 = .ok (.iconst 1, 1) := by decide +kernel
theorem dL_law_1135 : decode cL_law 1135 = .ok (.iadd, 1) := by decide +kernel
theorem dL_law_1136 : decode cL_law 1136 = .ok (.iaload, 1) := by decide +kernel
theorem dL_law_1137 : decode cL_law 1137 = .ok (.aload_n 0, 1) := by decide +kernel
theorem dL_law_1138 : decode cL_law 1138 = .ok (.iload_n 3, 1) := by decide +kernel
theorem dL_law_1139 : decode cL_law 1139 = .ok (.iconst 2, 1) := by decide +kernel
theorem dL_law_1140 : decode cL_law 1140 = .ok (.iadd, 1) := by decide +kernel
theorem dL_law_1141 : decode cL_law 1141 = .ok (.iaload, 1) := by decide +kernel
theorem dL_law_1142 : decode cL_law 1142 = .ok (.aload_n 0, 1) := by decide +kernel
theorem dL_law_1143 : decode cL_law 1143 = .ok (.iload_n 3, 1) := by decide +kernel
theorem dL_law_1144 : decode cL_law 1144 = .ok (.iconst 3, 1) := by decide +kernel
theorem dL_law_1145 : decode cL_law 1145 = .ok (.iadd, 1) := by decide +kernel
theorem dL_law_1146 : decode cL_law 1146 = .ok (.iaload, 1) := by decide +kernel
theorem dL_law_1147 : decode cL_law 1147 = .ok (.invokevirtual 142, 3) := by decide +kernel
theorem dL_law_1150 : decode cL_law 1150 = .ok (.if_icmp .eq 226, 3) := by decide +kernel
theorem dL_law_1153 : decode cL_law 1153 = .ok (.iconst 0, 1) := by decide +kernel
theorem dL_law_1154 : decode cL_law 1154 = .ok (.ireturn, 1) := by decide +kernel
theorem dL_law_1155 : decode cL_law 1155 = .ok (.aload_n 1, 1) := by decide +kernel
theorem dL_law_1156 : decode cL_law 1156 = .ok (.aload_n 0, 1) := by decide +kernel
theorem dL_law_1157 : decode cL_law 1157 = .ok (.iload_n 3, 1) := by decide +kernel
theorem dL_law_1158 : decode cL_law 1158 = .ok (.iconst 1, 1) := by decide +kernel
theorem dL_law_1159 : decode cL_law 1159 = .ok (.iadd, 1) := by decide +kernel
theorem dL_law_1160 : decode cL_law 1160 = .ok (.iaload, 1) := by decide +kernel
theorem dL_law_1161 : decode cL_law 1161 = .ok (.invokevirtual 143, 3) := by decide +kernel
theorem dL_law_1164 : decode cL_law 1164 = .ok (.aload_n 2, 1) := by decide +kernel
theorem dL_law_1165 : decode cL_law 1165 = .ok (.aload_n 0, 1) := by decide +kernel
theorem dL_law_1166 : decode cL_law 1166 = .ok (.iload_n 3, 1) := by decide +kernel
theorem dL_law_1167 : decode cL_law 1167 = .ok (.iconst 1, 1) := by decide +kernel
theorem dL_law_1168 : decode cL_law 1168 = .ok (.iadd, 1) := by decide +kernel
theorem dL_law_1169 : decode cL_law 1169 = .ok (.iaload, 1) := by decide +kernel
theorem dL_law_1170 : decode cL_law 1170 = .ok (.invokevirtual 146, 3) := by decide +kernel
theorem dL_law_1173 : decode cL_law 1173 = .ok (.if_icmp .eq 203, 3) := by decide +kernel
theorem dL_law_1176 : decode cL_law 1176 = .ok (.iconst 0, 1) := by decide +kernel
theorem dL_law_1177 : decode cL_law 1177 = .ok (.ireturn, 1) := by decide +kernel
theorem dL_law_1178 : decode cL_law 1178 = .ok (.aload_n 1, 1) := by decide +kernel
theorem dL_law_1179 : decode cL_law 1179 = .ok (.aload_n 0, 1) := by decide +kernel
theorem dL_law_1180 : decode cL_law 1180 = .ok (.iload_n 3, 1) := by decide +kernel
theorem dL_law_1181 : decode cL_law 1181 = .ok (.iconst 1, 1) := by decide +kernel
theorem dL_law_1182 : decode cL_law 1182 = .ok (.iadd, 1) := by decide +kernel
theorem dL_law_1183 : decode cL_law 1183 = .ok (.iaload, 1) := by decide +kernel
theorem dL_law_1184 : decode cL_law 1184 = .ok (.invokevirtual 147, 3) := by decide +kernel
theorem dL_law_1187 : decode cL_law 1187 = .ok (.aload_n 2, 1) := by decide +kernel
theorem dL_law_1188 : decode cL_law 1188 = .ok (.aload_n 0, 1) := by decide +kernel
theorem dL_law_1189 : decode cL_law 1189 = .ok (.iload_n 3, 1) := by decide +kernel
theorem dL_law_1190 : decode cL_law 1190 = .ok (.iconst 1, 1) := by decide +kernel
theorem dL_law_1191 : decode cL_law 1191 = .ok (.iadd, 1) := by decide +kernel
theorem dL_law_1192 : decode cL_law 1192 = .ok (.iaload, 1) := by decide +kernel
theorem dL_law_1193 : decode cL_law 1193 = .ok (.invokevirtual 150, 3) := by decide +kernel
theorem dL_law_1196 : decode cL_law 1196 = .ok (.if_icmp .eq 180, 3) := by decide +kernel
theorem dL_law_1199 : decode cL_law 1199 = .ok (.iconst 0, 1) := by decide +kernel
theorem dL_law_1200 : decode cL_law 1200 = .ok (.ireturn, 1) := by decide +kernel
theorem dL_law_1201 : decode cL_law 1201 = .ok (.aload_n 1, 1) := by decide +kernel
theorem dL_law_1202 : decode cL_law 1202 = .ok (.aload_n 0, 1) := by decide +kernel
theorem dL_law_1203 : decode cL_law 1203 = .ok (.iload_n 3, 1) := by decide +kernel
theorem dL_law_1204 : decode cL_law 1204 = .ok (.iconst 1, 1) := by decide +kernel
theorem dL_law_1205 : decode cL_law 1205 = .ok (.iadd, 1) := by decide +kernel
theorem dL_law_1206 : decode cL_law 1206 = .ok (.iaload, 1) := by decide +kernel
theorem dL_law_1207 : decode cL_law 1207 = .ok (.aload_n 0, 1) := by decide +kernel
theorem dL_law_1208 : decode cL_law 1208 = .ok (.iload_n 3, 1) := by decide +kernel
theorem dL_law_1209 : decode cL_law 1209 = .ok (.iconst 2, 1) := by decide +kernel
theorem dL_law_1210 : decode cL_law 1210 = .ok (.iadd, 1) := by decide +kernel
theorem dL_law_1211 : decode cL_law 1211 = .ok (.iaload, 1) := by decide +kernel
theorem dL_law_1212 : decode cL_law 1212 = .ok (.aload_n 0, 1) := by decide +kernel
theorem dL_law_1213 : decode cL_law 1213 = .ok (.iload_n 3, 1) := by decide +kernel
theorem dL_law_1214 : decode cL_law 1214 = .ok (.iconst 3, 1) := by decide +kernel
theorem dL_law_1215 : decode cL_law 1215 = .ok (.iadd, 1) := by decide +kernel
theorem dL_law_1216 : decode cL_law 1216 = .ok (.iaload, 1) := by decide +kernel
theorem dL_law_1217 : decode cL_law 1217 = .ok (.invokevirtual 151, 3) := by decide +kernel
theorem dL_law_1220 : decode cL_law 1220 = .ok (.aload_n 2, 1) := by decide +kernel
theorem dL_law_1221 : decode cL_law 1221 = .ok (.aload_n 0, 1) := by decide +kernel
theorem dL_law_1222 : decode cL_law 1222 = .ok (.iload_n 3, 1) := by decide +kernel
theorem dL_law_1223 : decode cL_law 1223 = .ok (.iconst 1, 1) := by decide +kernel
theorem dL_law_1224 : decode cL_law 1224 = .ok (.iadd, 1) := by decide +kernel
theorem dL_law_1225 : decode cL_law 1225 = .ok (.iaload, 1) := by decide +kernel
theorem dL_law_1226 : decode cL_law 1226 = .ok (.aload_n 0, 1) := by decide +kernel
theorem dL_law_1227 : decode cL_law 1227 = .ok (.iload_n 3, 1) := by decide +kernel
theorem dL_law_1228 : decode cL_law 1228 = .ok (.iconst 2, 1) := by decide +kernel
theorem dL_law_1229 : decode cL_law 1229 = .ok (.iadd, 1) := by decide +kernel
theorem dL_law_1230 : decode cL_law 1230 = .ok (.iaload, 1) := by decide +kernel
theorem dL_law_1231 : decode cL_law 1231 = .ok (.aload_n 0, 1) := by decide +kernel
theorem dL_law_1232 : decode cL_law 1232 = .ok (.iload_n 3, 1) := by decide +kernel
theorem dL_law_1233 : decode cL_law 1233 = .ok (.iconst 3, 1) := by decide +kernel
theorem dL_law_1234 : decode cL_law 1234 = .ok (.iadd, 1) := by decide +kernel
theorem dL_law_1235 : decode cL_law 1235 = .ok (.iaload, 1) := by decide +kernel
theorem dL_law_1236 : decode cL_law 1236 = .ok (.invokevirtual 154, 3) := by decide +kernel
theorem dL_law_1239 : decode cL_law 1239 = .ok (.if_icmp .eq 137, 3) := by decide +kernel
theorem dL_law_1242 : decode cL_law 1242 = .ok (.iconst 0, 1) := by decide +kernel
theorem dL_law_1243 : decode cL_law 1243 = .ok (.ireturn, 1) := by decide +kernel
theorem dL_law_1244 : decode cL_law 1244 = .ok (.aload_n 1, 1) := by decide +kernel
theorem dL_law_1245 : decode cL_law 1245 = .ok (.aload_n 0, 1) := by decide +kernel
theorem dL_law_1246 : decode cL_law 1246 = .ok (.iload_n 3, 1) := by decide +kernel
theorem dL_law_1247 : decode cL_law 1247 = .ok (.iconst 1, 1) := by decide +kernel
theorem dL_law_1248 : decode cL_law 1248 = .ok (.iadd, 1) := by decide +kernel
theorem dL_law_1249 : decode cL_law 1249 = .ok (.iaload, 1) := by decide +kernel
theorem dL_law_1250 : decode cL_law 1250 = .ok (.aload_n 0, 1) := by decide +kernel
theorem dL_law_1251 : decode cL_law 1251 = .ok (.iload_n 3, 1) := by decide +kernel
theorem dL_law_1252 : decode cL_law 1252 = .ok (.iconst 2, 1) := by decide +kernel
theorem dL_law_1253 : decode cL_law 1253 = .ok (.iadd, 1) := by decide +kernel
theorem dL_law_1254 : decode cL_law 1254 = .ok (.iaload, 1) := by decide +kernel
theorem dL_law_1255 : decode cL_law 1255 = .ok (.aload_n 0, 1) := by decide +kernel
theorem dL_law_1256 : decode cL_law 1256 = .ok (.iload_n 3, 1) := by decide +kernel
theorem dL_law_1257 : decode cL_law 1257 = .ok (.iconst 3, 1) := by decide +kernel
theorem dL_law_1258 : decode cL_law 1258 = .ok (.iadd, 1) := by decide +kernel
theorem dL_law_1259 : decode cL_law 1259 = .ok (.iaload, 1) := by decide +kernel
theorem dL_law_1260 : decode cL_law 1260 = .ok (.invokevirtual 155, 3) := by decide +kernel
theorem dL_law_1263 : decode cL_law 1263 = .ok (.aload_n 2, 1) := by decide +kernel
theorem dL_law_1264 : decode cL_law 1264 = .ok (.aload_n 0, 1) := by decide +kernel
theorem dL_law_1265 : decode cL_law 1265 = .ok (.iload_n 3, 1) := by decide +kernel
theorem dL_law_1266 : decode cL_law 1266 = .ok (.iconst 1, 1) := by decide +kernel
theorem dL_law_1267 : decode cL_law 1267 = .ok (.iadd, 1) := by decide +kernel
theorem dL_law_1268 : decode cL_law 1268 = .ok (.iaload, 1) := by decide +kernel
theorem dL_law_1269 : decode cL_law 1269 = .ok (.aload_n 0, 1) := by decide +kernel
theorem dL_law_1270 : decode cL_law 1270 = .ok (.iload_n 3, 1) := by decide +kernel
theorem dL_law_1271 : decode cL_law 1271 = .ok (.iconst 2, 1) := by decide +kernel
theorem dL_law_1272 : decode cL_law 1272 = .ok (.iadd, 1) := by decide +kernel
theorem dL_law_1273 : decode cL_law 1273 = .ok (.iaload, 1) := by decide +kernel
theorem dL_law_1274 : decode cL_law 1274 = .ok (.aload_n 0, 1) := by decide +kernel
theorem dL_law_1275 : decode cL_law 1275 = .ok (.iload_n 3, 1) := by decide +kernel
theorem dL_law_1276 : decode cL_law 1276 = .ok (.iconst 3, 1) := by decide +kernel
theorem dL_law_1277 : decode cL_law 1277 = .ok (.iadd, 1) := by decide +kernel
theorem dL_law_1278 : decode cL_law 1278 = .ok (.iaload, 1) := by decide +kernel
theorem dL_law_1279 : decode cL_law 1279 = .ok (.invokevirtual 158, 3) := by decide +kernel
theorem dL_law_1282 : decode cL_law 1282 = .ok (.if_icmp .eq 94, 3) := by decide +kernel
theorem dL_law_1285 : decode cL_law 1285 = .ok (.iconst 0, 1) := by decide +kernel
theorem dL_law_1286 : decode cL_law 1286 = .ok (.ireturn, 1) := by decide +kernel
theorem dL_law_1287 : decode cL_law 1287 = .ok (.aload_n 1, 1) := by decide +kernel
theorem dL_law_1288 : decode cL_law 1288 = .ok (.aload_n 0, 1) := by decide +kernel
theorem dL_law_1289 : decode cL_law 1289 = .ok (.iload_n 3, 1) := by decide +kernel
theorem dL_law_1290 : decode cL_law 1290 = .ok (.iconst 1, 1) := by decide +kernel
theorem dL_law_1291 : decode cL_law 1291 = .ok (.iadd, 1) := by decide +kernel
theorem dL_law_1292 : decode cL_law 1292 = .ok (.iaload, 1) := by decide +kernel
theorem dL_law_1293 : decode cL_law 1293 = .ok (.aload_n 0, 1) := by decide +kernel
theorem dL_law_1294 : decode cL_law 1294 = .ok (.iload_n 3, 1) := by decide +kernel
theorem dL_law_1295 : decode cL_law 1295 = .ok (.iconst 2, 1) := by decide +kernel
theorem dL_law_1296 : decode cL_law 1296 = .ok (.iadd, 1) := by decide +kernel
theorem dL_law_1297 : decode cL_law 1297 = .ok (.iaload, 1) := by decide +kernel
theorem dL_law_1298 : decode cL_law 1298 = .ok (.aload_n 0, 1) := by decide +kernel
theorem dL_law_1299 : decode cL_law 1299 = .ok (.iload_n 3, 1) := by decide +kernel
theorem dL_law_1300 : decode cL_law 1300 = .ok (.iconst 3, 1) := by decide +kernel
theorem dL_law_1301 : decode cL_law 1301 = .ok (.iadd, 1) := by decide +kernel
theorem dL_law_1302 : decode cL_law 1302 = .ok (.iaload, 1) := by decide +kernel
theorem dL_law_1303 : decode cL_law 1303 = .ok (.aload_n 0, 1) := by decide +kernel
theorem dL_law_1304 : decode cL_law 1304 = .ok (.iload_n 3, 1) := by decide +kernel
theorem dL_law_1305 : decode cL_law 1305 = .ok (.iconst 4, 1) := by decide +kernel
theorem dL_law_1306 : decode cL_law 1306 = .ok (.iadd, 1) := by decide +kernel
theorem dL_law_1307 : decode cL_law 1307 = .ok (.iaload, 1) := by decide +kernel
theorem dL_law_1308 : decode cL_law 1308 = .ok (.invokevirtual 159, 3) := by decide +kernel
theorem dL_law_1311 : decode cL_law 1311 = .ok (.aload_n 2, 1) := by decide +kernel
theorem dL_law_1312 : decode cL_law 1312 = .ok (.aload_n 0, 1) := by decide +kernel
theorem dL_law_1313 : decode cL_law 1313 = .ok (.iload_n 3, 1) := by decide +kernel
theorem dL_law_1314 : decode cL_law 1314 = .ok (.iconst 1, 1) := by decide +kernel
theorem dL_law_1315 : decode cL_law 1315 = .ok (.iadd, 1) := by decide +kernel
theorem dL_law_1316 : decode cL_law 1316 = .ok (.iaload, 1) := by decide +kernel
theorem dL_law_1317 : decode cL_law 1317 = .ok (.aload_n 0, 1) := by decide +kernel
theorem dL_law_1318 : decode cL_law 1318 = .ok (.iload_n 3, 1) := by decide +kernel
theorem dL_law_1319 : decode cL_law 1319 = .ok (.iconst 2, 1) := by decide +kernel
theorem dL_law_1320 : decode cL_law 1320 = .ok (.iadd, 1) := by decide +kernel
theorem dL_law_1321 : decode cL_law 1321 = .ok (.iaload, 1) := by decide +kernel
theorem dL_law_1322 : decode cL_law 1322 = .ok (.aload_n 0, 1) := by decide +kernel
theorem dL_law_1323 : decode cL_law 1323 = .ok (.iload_n 3, 1) := by decide +kernel
theorem dL_law_1324 : decode cL_law 1324 = .ok (.iconst 3, 1) := by decide +kernel
theorem dL_law_1325 : decode cL_law 1325 = .ok (.iadd, 1) := by decide +kernel
theorem dL_law_1326 : decode cL_law 1326 = .ok (.iaload, 1) := by decide +kernel
theorem dL_law_1327 : decode cL_law 1327 = .ok (.aload_n 0, 1) := by decide +kernel
theorem dL_law_1328 : decode cL_law 1328 = .ok (.iload_n 3, 1) := by decide +kernel
theorem dL_law_1329 : decode cL_law 1329 = .ok (.iconst 4, 1) := by decide +kernel
theorem dL_law_1330 : decode cL_law 1330 = .ok (.iadd, 1) := by decide +kernel
theorem dL_law_1331 : decode cL_law 1331 = .ok (.iaload, 1) := by decide +kernel
theorem dL_law_1332 : decode cL_law 1332 = .ok (.invokevirtual 163, 3) := by decide +kernel
theorem dL_law_1335 : decode cL_law 1335 = .ok (.if_icmp .eq 41, 3) := by decide +kernel
theorem dL_law_1338 : decode cL_law 1338 = .ok (.iconst 0, 1) := by decide +kernel
theorem dL_law_1339 : decode cL_law 1339 = .ok (.ireturn, 1) := by decide +kernel
theorem dL_law_1340 : decode cL_law 1340 = .ok (.aload_n 1, 1) := by decide +kernel
theorem dL_law_1341 : decode cL_law 1341 = .ok (.invokevirtual 164, 3) := by decide +kernel
theorem dL_law_1344 : decode cL_law 1344 = .ok (.aload_n 2, 1) := by decide +kernel
theorem dL_law_1345 : decode cL_law 1345 = .ok (.invokevirtual 167, 3) := by decide +kernel
theorem dL_law_1348 : decode cL_law 1348 = .ok (.if_icmp .eq 28, 3) := by decide +kernel
theorem dL_law_1351 : decode cL_law 1351 = .ok (.iconst 0, 1) := by decide +kernel
theorem dL_law_1352 : decode cL_law 1352 = .ok (.ireturn, 1) := by decide +kernel
theorem dL_law_1353 : decode cL_law 1353 = .ok (.aload_n 1, 1) := by decide +kernel
theorem dL_law_1354 : decode cL_law 1354 = .ok (.aload_n 0, 1) := by decide +kernel
theorem dL_law_1355 : decode cL_law 1355 = .ok (.iload_n 3, 1) := by decide +kernel
theorem dL_law_1356 : decode cL_law 1356 = .ok (.iconst 1, 1) := by decide +kernel
theorem dL_law_1357 : decode cL_law 1357 = .ok (.iadd, 1) := by decide +kernel
theorem dL_law_1358 : decode cL_law 1358 = .ok (.iaload, 1) := by decide +kernel
theorem dL_law_1359 : decode cL_law 1359 = .ok (.invokevirtual 168, 3) := by decide +kernel
theorem dL_law_1362 : decode cL_law 1362 = .ok (.aload_n 2, 1) := by decide +kernel
theorem dL_law_1363 : decode cL_law 1363 = .ok (.aload_n 0, 1) := by decide +kernel
theorem dL_law_1364 : decode cL_law 1364 = .ok (.iload_n 3, 1) := by decide +kernel
theorem dL_law_1365 : decode cL_law 1365 = .ok (.iconst 1, 1) := by decide +kernel
theorem dL_law_1366 : decode cL_law 1366 = .ok (.iadd, 1) := by decide +kernel
theorem dL_law_1367 : decode cL_law 1367 = .ok (.iaload, 1) := by decide +kernel
theorem dL_law_1368 : decode cL_law 1368 = .ok (.invokevirtual 171, 3) := by decide +kernel
theorem dL_law_1371 : decode cL_law 1371 = .ok (.if_icmp .eq 5, 3) := by decide +kernel
theorem dL_law_1374 : decode cL_law 1374 = .ok (.iconst 0, 1) := by decide +kernel
theorem dL_law_1375 : decode cL_law 1375 = .ok (.ireturn, 1) := by decide +kernel
theorem dL_law_1376 : decode cL_law 1376 = .ok (.iinc 3 5, 3) := by decide +kernel
theorem dL_law_1379 : decode cL_law 1379 = .ok (.goto (-1361), 3) := by decide +kernel
theorem dL_law_1382 : decode cL_law 1382 = .ok (.iconst 1, 1) := by decide +kernel
theorem dL_law_1383 : decode cL_law 1383 = .ok (.ireturn, 1) := by decide +kernel
end
section
/-! THE STORE: all objects of the class and of the reference by number, their ints, longs and rows as functions; no method but the constructors makes anything -/
abbrev OV : Type := (Nat → Int32) × (Nat → Int64) × (Nat → Nat → Int32)
abbrev ZS : Type := Nat → OV
abbrev ZA : Type := Nat → Nat → Nat
abbrev ZM : Type := MethodName × ByteArray × Nat × Option FieldType

/-- the class of an object, by its number: 0 UpperSteps; 1 house, 2 trial, 3 the parser's house, 4 the running steps' other, 5 6 the images' houses; 7 sightings, 8 9 the images'; 10 11 images; 12 to 15 sheets; 16 tape; 17 parser; 18 running steps; 19 outlook; 20 the reference -/
def zcls (o : Nat) : Nat := [8, 0, 0, 0, 0, 0, 0, 6, 6, 6, 1, 1, 5, 5, 5, 5, 7, 3, 4, 2, 9].getD o 99
/-- the object that a field leads to -/
def ztg (o k : Nat) : Nat := if o = 0 then [1, 2, 17, 99, 7, 99, 99, 99, 99, 99, 18, 19].getD k 99 else if o = 17 then (if k = 4 then 16 else 3) else if o = 18 then 4 else (if k = 1 then o - 5 else o - 2)

/-- the fields of an object of class c -/
def zfs (ad : ZA) (c o : Nat) (v : OV) : List Value := match c with
  | 0 => [.int (v.1 0), .ref (ad o 2), .ref (ad o 3), .ref (ad o 4), .int (v.1 4), .ref (ad o 6), .ref (ad o 7), .ref (ad o 8), .ref (ad o 9), .int (v.1 9), .int (v.1 10), .int (v.1 11), .int (v.1 12), .int (v.1 13)]
  | 1 => [.int (v.1 0), .ref (ad (ztg o 1) 0), .ref (ad (ztg o 2) 0)]
  | 2 => [.ref (ad o 1), .ref (ad o 2)]
  | 3 => [.int (v.1 0), .int (v.1 1), .int (v.1 2), .int (v.1 3), .ref (ad (ztg o 4) 0), .ref (ad (ztg o 5) 0)]
  | 4 => [.int (v.1 0), .ref (ad o 2), .ref (ad o 3), .ref (ad (ztg o 3) 0)]
  | 5 => [.int (v.1 0), .int (v.1 1), .ref (ad o 3)]
  | 6 => [.int (v.1 0), .ref (ad o 2), .ref (ad o 3), .ref (ad o 4)]
  | 7 => [.ref (ad o 1), .int (v.1 1), .int (v.1 2), .int (v.1 3), .int (v.1 4)]
  | 8 => [.ref (ad (ztg o 0) 0), .ref (ad (ztg o 1) 0), .ref (ad (ztg o 2) 0), .int (v.1 3), .ref (ad (ztg o 4) 0), .ref (ad o 6), .ref (ad o 7), .int (v.1 7), .ref (ad o 9), .ref (ad o 10), .ref (ad (ztg o 10) 0), .ref (ad (ztg o 11) 0)]
  | 9 => [.ref (ad o 1), .ref (ad o 2), .ref (ad o 3), .int (v.1 3), .int (v.1 4), .ref (ad o 6), .int (v.1 6), .int (v.1 7), .int (v.1 8), .int (v.1 9), .ref (ad o 11), .int (v.1 11), .int (v.1 12), .int (v.1 13), .int (v.1 14), .int (v.1 15), .int (v.1 16), .int (v.1 17), .int (v.1 18), .int (v.1 19), .int (v.1 20), .int (v.1 21), .ref (ad o 23), .ref (ad o 24), .long (v.2.1 24), .long (v.2.1 25), .long (v.2.1 26), .ref (ad o 28), .ref (ad o 29), .ref (ad o 30), .ref (ad o 31), .ref (ad o 32), .int (v.1 32), .ref (ad o 34)]
  | _ => []
/-- the kind of the row in a slot: 0 int, 1 byte, 2 boolean, 3 images, 4 sheets, 5 rows -/
def zak (c k : Nat) : Nat := if c = 7 ∧ k = 0 then 1 else if c = 9 ∧ k = 2 then 2 else if c = 8 ∧ k = 5 then 3 else if c = 8 ∧ k = 6 then 4 else if c = 2 ∧ k = 0 then 5 else 0
def zal (c k : Nat) : Nat := match c, k with
  | 0, 1 => 8
  | 0, 2 => 8
  | 0, 3 => 8
  | 0, 5 => 4
  | 0, 6 => 4
  | 0, 7 => 4
  | 0, 8 => 4
  | 2, 0 => 10
  | 2, 1 => 9
  | 2, 10 => 84
  | 2, 11 => 84
  | 2, 12 => 84
  | 2, 13 => 84
  | 2, 14 => 84
  | 2, 15 => 84
  | 2, 16 => 84
  | 2, 17 => 84
  | 2, 18 => 84
  | 2, 19 => 84
  | 4, 1 => 8
  | 4, 2 => 8
  | 5, 2 => 40
  | 6, 1 => 6
  | 6, 2 => 6
  | 6, 3 => 6
  | 7, 0 => 160
  | 8, 5 => 2
  | 8, 6 => 4
  | 8, 8 => 4
  | 8, 9 => 4
  | 9, 0 => 186
  | 9, 1 => 62
  | 9, 2 => 2
  | 9, 5 => 62
  | 9, 10 => 160
  | 9, 22 => 4
  | 9, 23 => 4
  | 9, 27 => 84
  | 9, 28 => 840
  | 9, 29 => 4
  | 9, 30 => 4
  | 9, 31 => 160
  | 9, 33 => 62
  | _, _ => 0
def zsub (c : Nat) : List Nat := match c with
  | 0 => [0, 2, 3, 4, 6, 7, 8, 9]
  | 1 => [0]
  | 2 => [0, 1, 2, 11, 12, 13, 14, 15, 16, 17, 18, 19, 20]
  | 3 => [0]
  | 4 => [0, 2, 3]
  | 5 => [0, 3]
  | 6 => [0, 2, 3, 4]
  | 7 => [0, 1]
  | 8 => [0, 6, 7, 9, 10]
  | 9 => [0, 1, 2, 3, 6, 11, 23, 24, 28, 29, 30, 31, 32, 34]
  | _ => []
def zCL : List (Nat × Nat) := (List.range 21).flatMap fun o => (zsub (zcls o)).map fun k => (o, k)
/-- what a row of references holds -/
def zrf (ad : ZA) (o k : Nat) (i : Nat) : Option Nat := if k = 5 then some (ad (10 + i) 0) else if k = 6 then some (ad (12 + i) 0) else some (ad o (10 + i + 1))
/-- a row of an object, as a cell -/
def zrow (ad : ZA) (ia : Nat → ClassId) (o c k : Nat) (v : OV) : va_E := if zak c k ≤ 2 then .inl (ia (zak c k), zal c k, .inl (v.2.2 k)) else .inl (ia (zak c k), zal c k, .inr (.inr (.inr (.inr (zrf ad o k)))))
/-- the cell of object o, part k -/
def zce (ad : ZA) (ia : Nat → ClassId) (s : ZS) (o k : Nat) : va_E := match k with
  | 0 => .inr (zcls o, zfs ad (zcls o) o (s o))
  | k + 1 => zrow ad ia o (zcls o) k (s o)
def zLL (ad : ZA) : List Nat := zCL.map (fun q => ad q.1 q.2)
def zAd (ad : ZA) : Nat → Prop := fun q => q ∈ zLL ad
def ztys (ia : Nat → ClassId) : List (ClassId × FieldType) := [(ia 0, .int), (ia 1, .byte), (ia 2, .boolean), (ia 3, .object "UpperSteps$Image"), (ia 4, .object "UpperSteps$Sheet"), (ia 5, .array .int)]
/-- the heap holds the store -/
def zW (ad : ZA) (D : va_G) (ia : Nat → ClassId) (s : ZS) (H : Heap) : Prop := ∃ f : Nat → va_E, (∀ q ∈ zCL, f (ad q.1 q.2) = zce ad ia s q.1 q.2) ∧ va_P D vwCl (va_pl (zLL ad) f) H
/-- the links to private members of nest mates -/
def zNW : List Cond := [.methodLinkNest "UpperSteps$House" 100 yX8_exchange "UpperSteps", .methodLinkNest "UpperSteps$Parser" 125 yX8_outside "UpperSteps", .methodLinkNest "UpperSteps$Sheet" 22 yX8_outside "UpperSteps"]
/-- the words that the parser knows, as constants of its class -/
def zsi : List Nat := [68, 77, 83, 85, 87, 89]
def zst : List String := ["book", "guest", "nephew", "lord", "maid", "steps"]
def zsl : List Nat := [4, 5, 6, 4, 4, 5]
def zsb : List (List Int32) := [[98, 111, 111, 107], [103, 117, 101, 115, 116], [110, 101, 112, 104, 101, 119], [108, 111, 114, 100], [109, 97, 105, 100], [115, 116, 101, 112, 115]]
/-- constant texts: string i at ad 30 i, its bytes at ad 31 i; two statics of the JDK's -/
def zTx (ad : ZA) (U : State) : Prop := (∀ i, i < 6 → vk_R "UpperSteps$Parser" (zsi.getD i 0) (zst.getD i "") (ad 30 i) U) ∧ vk_S 6 zsl zsb (ad 30) (ad 31) (zAd ad) U U.heap ∧ va_Z "java/lang/String" "COMPACT_STRINGS" "Z" (.int 1) (zAd ad) U U.heap ∧ va_Zq "jdk/internal/util/Preconditions" "SIOOBE_FORMATTER" "Ljava/util/function/BiFunction;" (zAd ad) U U.heap
def zK (ad : ZA) (D : va_G) (ia : Nat → ClassId) (U : State) : Prop := (zLL ad).Nodup ∧ va_K D vwCl (ztys ia) U ∧ (∀ w ∈ zNW, va_Nw w U) ∧ zTx ad U
def zP (ad : ZA) (D : va_G) (ia : Nat → ClassId) (s : ZS) : State → Prop := fun U => zK ad D ia U ∧ zW ad D ia s U.heap
def zQ (ad : ZA) (D : va_G) (ia : Nat → ClassId) (X : Option Value) (Y : ZS) : Array Value → State → Outcome → State → Prop := fun _ st oc t => (oc = .returned X ∧ zW ad D ia Y t.heap) ∧ va_F (zAd ad) st t
def zrm (d : Nat) : Room := { frames := d, cells := 0, slots := 0, locals := 38 * d }
/-- METHOD M, called with av over the store s, returns X and leaves the store Y; d frames are left to it -/
def Ev (l : Launch) (ad : ZA) (D : va_G) (ia : Nat → ClassId) (d : Nat) (M : ZM) (av : List Value) (s : ZS) (X : Option Value) (Y : ZS) : Prop :=
  Met l M.1 (.code M.1 M.2.1 M.2.2.1 M.2.2.2 :: WL) (zrm d) (va_Pc av (zP ad D ia s)) (zQ ad D ia X Y) 0 0 (zAd ad)
abbrev ZC : Type := Program × Env × Room × State × MethodId × Array Value × List Frame × Method × Code
/-- THE FRAME of a method, at pc, with locals V and stack St over the store s, returns X and leaves Y -/
def Z (l : Launch) (ad : ZA) (D : va_G) (ia : Nat → ClassId) (C : ZC) (X : Option Value) (Y : ZS) (pc : Nat) (V : List (Nat × Value)) (St : List Value) (s : ZS) : Prop := match C with
  | (p, e, R, s0, m, args, below, meth, c) => ∀ (H : Heap) (locs : List Loc) (ls : Array Slot), zW ad D ia s H → va_S (zAd ad) s0.heap H locs → lv_has ls c.maxLocals V → W p l e R s0 m args below meth c H locs 0 0 (MQ below (zQ ad D ia X Y) args s0 0 0 (zAd ad)) (F0 m pc ls St)
/-- what is fixed of a frame -/
def Zok (ad : ZA) (D : va_G) (ia : Nat → ClassId) (C : ZC) (d : Nat) (cc : ByteArray) (nL : Nat) (own : String) (ret : Option FieldType) : Prop := match C with
  | (p, _, R, s0, m, args, _, meth, c) => p.tables.exec = Jvm.exec ∧ c.code = cc ∧ c.maxLocals = nL ∧ s0.vm.findClass own = some m.cls ∧ (∀ w ∈ WL, w.before args s0 = true) ∧ meth.sig.returnType = ret ∧ meth.locks = false ∧ R = zrm d ∧ zK ad D ia s0
theorem zWL_good : GoodIn WL WL := fun w h => ⟨h, good_of_word (List.mem_filter.mp h).2⟩
theorem zgood {M : ZM} {big : List Cond} (h1 : Cond.code M.1 M.2.1 M.2.2.1 M.2.2.2 ∈ WL) (hb : ∀ w ∈ WL, w ∈ big) : GoodIn big (.code M.1 M.2.1 M.2.2.1 M.2.2.2 :: WL) := fun w h => by
  have h2 : w ∈ WL := (List.mem_cons.mp h).elim (fun e => e ▸ h1) id
  exact ⟨hb w h2, (zWL_good w h2).2⟩

theorem nodup_inj {α β : Type} {g : α → β} : ∀ {L : List α}, (L.map g).Nodup → ∀ a ∈ L, ∀ b ∈ L, g a = g b → a = b
  | [], _, a, ha, _, _, _ => absurd ha List.not_mem_nil
  | x :: L, h, a, ha, b, hb, e => by
    rw [List.map_cons, List.nodup_cons] at h
    rcases List.mem_cons.mp ha with rfl | ha
    · rcases List.mem_cons.mp hb with rfl | hb
      · rfl
      · exact absurd (List.mem_map.mpr ⟨b, hb, e.symm⟩) h.1
    · rcases List.mem_cons.mp hb with hb0 | hb
      · exact absurd (List.mem_map.mpr ⟨a, ha, e.trans (congrArg g hb0)⟩) h.1
      · exact nodup_inj h.2 a ha b hb e
theorem zmem {o k : Nat} (h : k ∈ zsub (zcls o)) : (o, k) ∈ zCL := by
  have ho : o < 21 := by
    apply Classical.byContradiction
    intro hn
    have e : zcls o = 99 := by
      unfold zcls
      rw [List.getD_eq_getElem?_getD, List.getElem?_eq_none (by simpa using Nat.le_of_not_lt hn)]
      rfl
    rw [e] at h
    simp [zsub] at h
  exact List.mem_flatMap.mpr ⟨o, List.mem_range.mpr ho, List.mem_map.mpr ⟨k, h, rfl⟩⟩
theorem zD {ad : ZA} {f : Nat → va_E} (h : (zLL ad).Nodup) : va_D (zAd ad) (va_pl (zLL ad) f) := by
  constructor
  · intro i j p q hi hj e
    simp only [va_pl, List.getElem?_map, Option.map_eq_some_iff] at hi hj
    obtain ⟨a, ha, rfl⟩ := hi
    obtain ⟨b, hb, rfl⟩ := hj
    have e : a = b := e
    subst e
    obtain ⟨hi1, hi2⟩ := List.getElem?_eq_some_iff.mp ha
    obtain ⟨hj1, hj2⟩ := List.getElem?_eq_some_iff.mp hb
    have hp := List.pairwise_iff_getElem.mp h
    rcases Nat.lt_trichotomy i j with c | c | c
    · exact absurd (hi2.trans hj2.symm) (hp i j hi1 hj1 c)
    · exact c
    · exact absurd (hj2.trans hi2.symm) (hp j i hj1 hi1 c)
  · intro k q hk
    simp only [va_pl, List.getElem?_map, Option.map_eq_some_iff] at hk
    obtain ⟨a, ha, rfl⟩ := hk
    exact List.mem_of_getElem? ha
theorem zget {ad : ZA} {f : Nat → va_E} {ia : Nat → ClassId} {s : ZS} (hf : ∀ q ∈ zCL, f (ad q.1 q.2) = zce ad ia s q.1 q.2) {o k : Nat} (hm : (o, k) ∈ zCL) : ∃ q0 : Nat, (va_pl (zLL ad) f)[q0]? = some (ad o k, f (ad o k)) ∧ (va_pl (zLL ad) f)[q0]? = some (ad o k, zce ad ia s o k) := by
  obtain ⟨q0, h⟩ := va_pl_get (X := []) (f := f) (L := zLL ad) (a := ad o k) (List.mem_map.mpr ⟨(o, k), hm, rfl⟩)
  have h : (va_pl (zLL ad) f)[q0]? = some (ad o k, f (ad o k)) := h
  exact ⟨q0, h, by rw [h, hf (o, k) hm]⟩
/-- a cell is changed: the store is -/
theorem zset {ad : ZA} {f : Nat → va_E} {D : va_G} {ia : Nat → ClassId} {s s' : ZS} {H1 : Heap} (hn : (zLL ad).Nodup) (hf : ∀ q ∈ zCL, f (ad q.1 q.2) = zce ad ia s q.1 q.2) {o k q0 : Nat} (hm : (o, k) ∈ zCL) (hq : (va_pl (zLL ad) f)[q0]? = some (ad o k, f (ad o k)))
    (hP : va_P D vwCl ((va_pl (zLL ad) f).set q0 (ad o k, zce ad ia s' o k)) H1) (ho : ∀ q : Nat × Nat, q ≠ (o, k) → zce ad ia s' q.1 q.2 = zce ad ia s q.1 q.2) : zW ad D ia s' H1 := by
  refine ⟨va_up f (ad o k) (zce ad ia s' o k), ?_, ?_⟩
  · intro q hqm
    by_cases e : q = (o, k)
    · subst e
      simp [va_up]
    · have hne : ad q.1 q.2 ≠ ad o k := fun h => e (nodup_inj hn q hqm (o, k) hm h)
      rw [ho q e, ← hf q hqm]
      simp [va_up, hne]
  · have h := va_pl_set (A := zAd ad) (X := []) (L := zLL ad) (f := f) (a := ad o k) (k := q0) (e := zce ad ia s' o k) (zD hn) (List.mem_map.mpr ⟨(o, k), hm, rfl⟩) hq
    have h : (va_pl (zLL ad) f).set q0 (ad o k, zce ad ia s' o k) = va_pl (zLL ad) (va_up f (ad o k) (zce ad ia s' o k)) := h
    rw [← h]
    exact hP
def setI (v : OV) (k : Nat) (x : Int32) : OV := (va_up v.1 k x, v.2.1, v.2.2)
def setL (v : OV) (k : Nat) (x : Int64) : OV := (v.1, va_up v.2.1 k x, v.2.2)
def setA (v : OV) (k : Nat) (f : Nat → Int32) : OV := (v.1, v.2.1, va_up v.2.2 k f)
def zlk (own : String) (idx c k : Nat) : Prop := ∃ q : vw_C, vwCl[c]? = some q ∧ (∀ w ∈ u_ws q.1 q.2.1 q.2.2, w ∈ WL) ∧ k < q.2.2 ∧ Cond.fieldLink own idx (q.2.1 k).1 (q.2.1 k).2.1 (q.2.1 k).2.2.1 ∈ WL
def zpk (own : String) (idx c k : Nat) (ty : FieldType) : Prop := ∃ (q : vw_C) (ty0 : Nat → FieldType), vwCl[c]? = some q ∧ (∀ w ∈ u_ws q.1 q.2.1 q.2.2, w ∈ WL) ∧ k < q.2.2 ∧ Cond.fieldLink own idx (q.2.1 k).1 (q.2.1 k).2.1 (q.2.1 k).2.2.1 ∈ WL ∧ (∀ k, k < q.2.2 → parseFieldDescriptor (q.2.1 k).2.2.1 = some (ty0 k)) ∧ (∀ a, a < q.2.2 → ∀ b, b < q.2.2 → a ≠ b → (q.2.1 a).2.1 ≠ (q.2.1 b).2.1) ∧ (q.2.1 k).2.2.2 = false ∧ parseFieldDescriptor (q.2.1 k).2.2.1 = some ty
/-- slot k of object o holds a row of a kind, n long -/
def zis (o k kind n : Nat) : Prop := k + 1 ∈ zsub (zcls o) ∧ zak (zcls o) k = kind ∧ zal (zcls o) k = n
theorem zis_of {o c k kind n : Nat} (h : zcls o = c) (h2 : (decide (k + 1 ∈ zsub c) && (zak c k == kind && zal c k == n)) = true) : zis o k kind n := by
  subst h
  simpa [zis] using h2
theorem lk_mem {V : List (Nat × Value)} {i : Nat} {v : Value} : V.lookup i = some v → (i, v) ∈ V := by
  induction V with
  | nil => intro h; simp at h
  | cons q V ih =>
    intro h
    obtain ⟨a, b⟩ := q
    rw [List.lookup_cons] at h
    by_cases e : i = a
    · subst e
      simp at h
      subst h
      exact List.mem_cons_self
    · have e2 : (i == a) = false := by simpa using e
      rw [e2] at h
      exact List.mem_cons_of_mem _ (ih h)
def zcV (own : String) (idx : Nat) (M : ZM) (n : Nat) : Prop := (Cond.methodLink own idx M.1 ∈ WL ∧ Cond.instanceMethod M.1 ∈ WL ∧ Cond.selects M.1.cls M.1 M.1 ∈ WL ∧ Cond.initialized M.1.cls ∈ WL ∧ Cond.code M.1 M.2.1 M.2.2.1 M.2.2.2 ∈ WL) ∧ (M.1.cls ≠ "java/lang/invoke/MethodHandle" ∧ M.1.cls ≠ "java/lang/invoke/VarHandle" ∧ (parseMethodDescriptor M.1.desc).map (fun d => d.parameters.length) = some n) ∧ M.2.2.1 ≤ 19
def zcS (own : String) (idx : Nat) (M : ZM) (n : Nat) : Prop := (Cond.methodLink own idx M.1 ∈ WL ∧ Cond.static M.1 ∈ WL ∧ Cond.initialized M.1.cls ∈ WL ∧ Cond.code M.1 M.2.1 M.2.2.1 M.2.2.2 ∈ WL) ∧ (M.1.cls ≠ "java/lang/invoke/MethodHandle" ∧ M.1.cls ≠ "java/lang/invoke/VarHandle" ∧ (parseMethodDescriptor M.1.desc).map (fun d => d.parameters.length) = some n) ∧ M.2.2.1 ≤ 19
def zcN (own : String) (idx : Nat) (M : ZM) (n : Nat) : Prop := (Cond.methodLinkNest own idx M.1 "UpperSteps" ∈ zNW ∧ Cond.static M.1 ∈ WL ∧ Cond.initialized M.1.cls ∈ WL ∧ Cond.code M.1 M.2.1 M.2.2.1 M.2.2.2 ∈ WL) ∧ (M.1.cls ≠ "java/lang/invoke/MethodHandle" ∧ M.1.cls ≠ "java/lang/invoke/VarHandle" ∧ (parseMethodDescriptor M.1.desc).map (fun d => d.parameters.length) = some n) ∧ M.2.2.1 ≤ 19
section ZL
variable {l : Launch} {ad : ZA} {D : va_G} {ia : Nat → ClassId} {C : ZC} {X : Option Value} {Y : ZS} {d nL pc : Nat} {cc : ByteArray} {own : String} {ret : Option FieldType} {V : List (Nat × Value)} {St : List Value} {s : ZS}

theorem Z_iconst (hC : Zok ad D ia C d cc nL own ret) {n : Int} {v : Int32} (dd : decode cc pc = .ok (.iconst n, 1)) (hv : Int32.ofInt n = v) (k : Z l ad D ia C X Y (pc + 1) V (.int v :: St) s) : Z l ad D ia C X Y pc V (St) s := by
  obtain ⟨p, e, R, s0, m, args, below, meth, c0⟩ := C
  obtain ⟨hx, hb, hml, hown, hts, hr, hlk, hR, hKK⟩ := hC
  intro H locs ls hw hS hl
  exact lv_iconst hx hb dd hv (k H locs ls hw hS hl)
theorem Z_bipush (hC : Zok ad D ia C d cc nL own ret) {n : Int} {v : Int32} (dd : decode cc pc = .ok (.bipush n, 2)) (hv : (Int8.ofInt n).toInt32 = v) (k : Z l ad D ia C X Y (pc + 2) V (.int v :: St) s) : Z l ad D ia C X Y pc V (St) s := by
  obtain ⟨p, e, R, s0, m, args, below, meth, c0⟩ := C
  obtain ⟨hx, hb, hml, hown, hts, hr, hlk, hR, hKK⟩ := hC
  intro H locs ls hw hS hl
  exact lv_bipush hx hb dd hv (k H locs ls hw hS hl)
theorem Z_sipush (hC : Zok ad D ia C d cc nL own ret) {n : Int} {v : Int32} (dd : decode cc pc = .ok (.sipush n, 3)) (hv : (Int16.ofInt n).toInt32 = v) (k : Z l ad D ia C X Y (pc + 3) V (.int v :: St) s) : Z l ad D ia C X Y pc V (St) s := by
  obtain ⟨p, e, R, s0, m, args, below, meth, c0⟩ := C
  obtain ⟨hx, hb, hml, hown, hts, hr, hlk, hR, hKK⟩ := hC
  intro H locs ls hw hS hl
  exact lv_sipush hx hb dd hv (k H locs ls hw hS hl)
theorem Z_lconst (hC : Zok ad D ia C d cc nL own ret) {n : Fin 2} {v : Int64} (dd : decode cc pc = .ok (.lconst n, 1)) (hv : Int64.ofNat (n : Nat) = v) (k : Z l ad D ia C X Y (pc + 1) V (.long v :: St) s) : Z l ad D ia C X Y pc V (St) s := by
  obtain ⟨p, e, R, s0, m, args, below, meth, c0⟩ := C
  obtain ⟨hx, hb, hml, hown, hts, hr, hlk, hR, hKK⟩ := hC
  intro H locs ls hw hS hl
  exact lv_lconst hx hb dd hv (k H locs ls hw hS hl)
theorem Z_ldc (hC : Zok ad D ia C d cc nL own ret) {idx : Nat} {v : Int32} (hc : Cond.constant own idx v ∈ WL) (dd : decode cc pc = .ok (.ldc idx, 2)) (k : Z l ad D ia C X Y (pc + 2) V (.int v :: St) s) : Z l ad D ia C X Y pc V (St) s := by
  obtain ⟨p, e, R, s0, m, args, below, meth, c0⟩ := C
  obtain ⟨hx, hb, hml, hown, hts, hr, hlk, hR, hKK⟩ := hC
  intro H locs ls hw hS hl
  exact lv_ldc hx hb hown (hts _ hc) dd (k H locs ls hw hS hl)
theorem Z_ldcw (hC : Zok ad D ia C d cc nL own ret) {idx : Nat} {v : Int32} (hc : Cond.constant own idx v ∈ WL) (dd : decode cc pc = .ok (.ldc_w idx, 3)) (k : Z l ad D ia C X Y (pc + 3) V (.int v :: St) s) : Z l ad D ia C X Y pc V (St) s := by
  obtain ⟨p, e, R, s0, m, args, below, meth, c0⟩ := C
  obtain ⟨hx, hb, hml, hown, hts, hr, hlk, hR, hKK⟩ := hC
  intro H locs ls hw hS hl
  exact lv_ldcw hx hb hown (hts _ hc) dd (k H locs ls hw hS hl)
theorem Z_ldc2 (hC : Zok ad D ia C d cc nL own ret) {idx : Nat} {v : Int64} (hc : Cond.constantLong own idx v ∈ WL) (dd : decode cc pc = .ok (.ldc2_w idx, 3)) (k : Z l ad D ia C X Y (pc + 3) V (.long v :: St) s) : Z l ad D ia C X Y pc V (St) s := by
  obtain ⟨p, e, R, s0, m, args, below, meth, c0⟩ := C
  obtain ⟨hx, hb, hml, hown, hts, hr, hlk, hR, hKK⟩ := hC
  intro H locs ls hw hS hl
  exact lv_ldc2 hx hb hown (hts _ hc) dd (k H locs ls hw hS hl)
theorem Z_iload_n (hC : Zok ad D ia C d cc nL own ret) {n : Fin 4} {i : Nat} {x : Int32} (dd : decode cc pc = .ok (.iload_n n, 1)) (hi : (n : Nat) = i) (hv : V.lookup i = some (.int x)) (k : Z l ad D ia C X Y (pc + 1) V (.int x :: St) s) : Z l ad D ia C X Y pc V (St) s := by
  obtain ⟨p, e, R, s0, m, args, below, meth, c0⟩ := C
  obtain ⟨hx, hb, hml, hown, hts, hr, hlk, hR, hKK⟩ := hC
  intro H locs ls hw hS hl
  exact lv_iload_n hx hb dd hi (hl.2.2 _ (lk_mem hv)) (k H locs ls hw hS hl)
theorem Z_iload (hC : Zok ad D ia C d cc nL own ret) {i : Nat} {x : Int32} (dd : decode cc pc = .ok (.iload i, 2)) (hv : V.lookup i = some (.int x)) (k : Z l ad D ia C X Y (pc + 2) V (.int x :: St) s) : Z l ad D ia C X Y pc V (St) s := by
  obtain ⟨p, e, R, s0, m, args, below, meth, c0⟩ := C
  obtain ⟨hx, hb, hml, hown, hts, hr, hlk, hR, hKK⟩ := hC
  intro H locs ls hw hS hl
  exact lv_iload hx hb dd (hl.2.2 _ (lk_mem hv)) (k H locs ls hw hS hl)
theorem Z_istore_n (hC : Zok ad D ia C d cc nL own ret) {n : Fin 4} {i : Nat} {x : Int32} {V2 : List (Nat × Value)} (dd : decode cc pc = .ok (.istore_n n, 1)) (hi : (n : Nat) = i) (hn : i < nL) (h2 : (i, Value.int x) :: V.filter (fun q => !(q.1 == i) && !(q.1 + 1 == i && q.2.category == 2)) = V2) (k : Z l ad D ia C X Y (pc + 1) V2 (St) s) : Z l ad D ia C X Y pc V (.int x :: St) s := by
  obtain ⟨p, e, R, s0, m, args, below, meth, c0⟩ := C
  obtain ⟨hx, hb, hml, hown, hts, hr, hlk, hR, hKK⟩ := hC
  intro H locs ls hw hS hl
  subst hml
  exact lv_istore_n hx hb dd hi hl hn h2 (fun ls2 hl2 => k H locs ls2 hw hS hl2)
theorem Z_istore (hC : Zok ad D ia C d cc nL own ret) {i : Nat} {x : Int32} {V2 : List (Nat × Value)} (dd : decode cc pc = .ok (.istore i, 2)) (hn : i < nL) (h2 : (i, Value.int x) :: V.filter (fun q => !(q.1 == i) && !(q.1 + 1 == i && q.2.category == 2)) = V2) (k : Z l ad D ia C X Y (pc + 2) V2 (St) s) : Z l ad D ia C X Y pc V (.int x :: St) s := by
  obtain ⟨p, e, R, s0, m, args, below, meth, c0⟩ := C
  obtain ⟨hx, hb, hml, hown, hts, hr, hlk, hR, hKK⟩ := hC
  intro H locs ls hw hS hl
  subst hml
  exact lv_istore hx hb dd hl hn h2 (fun ls2 hl2 => k H locs ls2 hw hS hl2)
theorem Z_lload_n (hC : Zok ad D ia C d cc nL own ret) {n : Fin 4} {i : Nat} {x : Int64} (dd : decode cc pc = .ok (.lload_n n, 1)) (hi : (n : Nat) = i) (hv : V.lookup i = some (.long x)) (k : Z l ad D ia C X Y (pc + 1) V (.long x :: St) s) : Z l ad D ia C X Y pc V (St) s := by
  obtain ⟨p, e, R, s0, m, args, below, meth, c0⟩ := C
  obtain ⟨hx, hb, hml, hown, hts, hr, hlk, hR, hKK⟩ := hC
  intro H locs ls hw hS hl
  exact lv_lload_n hx hb dd hi (hl.2.2 _ (lk_mem hv)) (k H locs ls hw hS hl)
theorem Z_lload (hC : Zok ad D ia C d cc nL own ret) {i : Nat} {x : Int64} (dd : decode cc pc = .ok (.lload i, 2)) (hv : V.lookup i = some (.long x)) (k : Z l ad D ia C X Y (pc + 2) V (.long x :: St) s) : Z l ad D ia C X Y pc V (St) s := by
  obtain ⟨p, e, R, s0, m, args, below, meth, c0⟩ := C
  obtain ⟨hx, hb, hml, hown, hts, hr, hlk, hR, hKK⟩ := hC
  intro H locs ls hw hS hl
  exact lv_lload hx hb dd (hl.2.2 _ (lk_mem hv)) (k H locs ls hw hS hl)
theorem Z_lstore_n (hC : Zok ad D ia C d cc nL own ret) {n : Fin 4} {i : Nat} {x : Int64} {V2 : List (Nat × Value)} (dd : decode cc pc = .ok (.lstore_n n, 1)) (hi : (n : Nat) = i) (hn : i + 1 < nL) (h2 : (i, Value.long x) :: V.filter (fun q => !(q.1 == i) && (!(q.1 == i + 1) && !(q.1 + 1 == i && q.2.category == 2))) = V2) (k : Z l ad D ia C X Y (pc + 1) V2 (St) s) : Z l ad D ia C X Y pc V (.long x :: St) s := by
  obtain ⟨p, e, R, s0, m, args, below, meth, c0⟩ := C
  obtain ⟨hx, hb, hml, hown, hts, hr, hlk, hR, hKK⟩ := hC
  intro H locs ls hw hS hl
  subst hml
  exact lv_lstore_n hx hb dd hi hl hn h2 (fun ls2 hl2 => k H locs ls2 hw hS hl2)
theorem Z_lstore (hC : Zok ad D ia C d cc nL own ret) {i : Nat} {x : Int64} {V2 : List (Nat × Value)} (dd : decode cc pc = .ok (.lstore i, 2)) (hn : i + 1 < nL) (h2 : (i, Value.long x) :: V.filter (fun q => !(q.1 == i) && (!(q.1 == i + 1) && !(q.1 + 1 == i && q.2.category == 2))) = V2) (k : Z l ad D ia C X Y (pc + 2) V2 (St) s) : Z l ad D ia C X Y pc V (.long x :: St) s := by
  obtain ⟨p, e, R, s0, m, args, below, meth, c0⟩ := C
  obtain ⟨hx, hb, hml, hown, hts, hr, hlk, hR, hKK⟩ := hC
  intro H locs ls hw hS hl
  subst hml
  exact lv_lstore hx hb dd hl hn h2 (fun ls2 hl2 => k H locs ls2 hw hS hl2)
theorem Z_aload_n (hC : Zok ad D ia C d cc nL own ret) {n : Fin 4} {i : Nat} {x : Nat} (dd : decode cc pc = .ok (.aload_n n, 1)) (hi : (n : Nat) = i) (hv : V.lookup i = some (.ref x)) (k : Z l ad D ia C X Y (pc + 1) V (.ref x :: St) s) : Z l ad D ia C X Y pc V (St) s := by
  obtain ⟨p, e, R, s0, m, args, below, meth, c0⟩ := C
  obtain ⟨hx, hb, hml, hown, hts, hr, hlk, hR, hKK⟩ := hC
  intro H locs ls hw hS hl
  exact lv_aload_n hx hb dd hi (hl.2.2 _ (lk_mem hv)) (k H locs ls hw hS hl)
theorem Z_aload (hC : Zok ad D ia C d cc nL own ret) {i : Nat} {x : Nat} (dd : decode cc pc = .ok (.aload i, 2)) (hv : V.lookup i = some (.ref x)) (k : Z l ad D ia C X Y (pc + 2) V (.ref x :: St) s) : Z l ad D ia C X Y pc V (St) s := by
  obtain ⟨p, e, R, s0, m, args, below, meth, c0⟩ := C
  obtain ⟨hx, hb, hml, hown, hts, hr, hlk, hR, hKK⟩ := hC
  intro H locs ls hw hS hl
  exact lv_aload hx hb dd (hl.2.2 _ (lk_mem hv)) (k H locs ls hw hS hl)
theorem Z_astore_n (hC : Zok ad D ia C d cc nL own ret) {n : Fin 4} {i : Nat} {x : Nat} {V2 : List (Nat × Value)} (dd : decode cc pc = .ok (.astore_n n, 1)) (hi : (n : Nat) = i) (hn : i < nL) (h2 : (i, Value.ref x) :: V.filter (fun q => !(q.1 == i) && !(q.1 + 1 == i && q.2.category == 2)) = V2) (k : Z l ad D ia C X Y (pc + 1) V2 (St) s) : Z l ad D ia C X Y pc V (.ref x :: St) s := by
  obtain ⟨p, e, R, s0, m, args, below, meth, c0⟩ := C
  obtain ⟨hx, hb, hml, hown, hts, hr, hlk, hR, hKK⟩ := hC
  intro H locs ls hw hS hl
  subst hml
  exact lv_astore_n hx hb dd hi hl hn h2 (fun ls2 hl2 => k H locs ls2 hw hS hl2)
theorem Z_astore (hC : Zok ad D ia C d cc nL own ret) {i : Nat} {x : Nat} {V2 : List (Nat × Value)} (dd : decode cc pc = .ok (.astore i, 2)) (hn : i < nL) (h2 : (i, Value.ref x) :: V.filter (fun q => !(q.1 == i) && !(q.1 + 1 == i && q.2.category == 2)) = V2) (k : Z l ad D ia C X Y (pc + 2) V2 (St) s) : Z l ad D ia C X Y pc V (.ref x :: St) s := by
  obtain ⟨p, e, R, s0, m, args, below, meth, c0⟩ := C
  obtain ⟨hx, hb, hml, hown, hts, hr, hlk, hR, hKK⟩ := hC
  intro H locs ls hw hS hl
  subst hml
  exact lv_astore hx hb dd hl hn h2 (fun ls2 hl2 => k H locs ls2 hw hS hl2)
theorem Z_iinc (hC : Zok ad D ia C d cc nL own ret) {i : Nat} {n : Int} {x v : Int32} {V2 : List (Nat × Value)} (dd : decode cc pc = .ok (.iinc i n, 3)) (hv : V.lookup i = some (.int x)) (hs : x + Int32.ofInt n = v) (hn : i < nL) (h2 : (i, Value.int v) :: V.filter (fun q => !(q.1 == i) && !(q.1 + 1 == i && q.2.category == 2)) = V2) (k : Z l ad D ia C X Y (pc + 3) V2 (St) s) : Z l ad D ia C X Y pc V (St) s := by
  obtain ⟨p, e, R, s0, m, args, below, meth, c0⟩ := C
  obtain ⟨hx, hb, hml, hown, hts, hr, hlk, hR, hKK⟩ := hC
  intro H locs ls hw hS hl
  subst hml
  obtain ⟨j, hj⟩ := List.getElem?_of_mem (lk_mem hv)
  exact lv_iinc hx hb dd hl (k := j) hj hs hn h2 (fun ls2 hl2 => k H locs ls2 hw hS hl2)
theorem Z_dup (hC : Zok ad D ia C d cc nL own ret) {a : Value} (dd : decode cc pc = .ok (.dup, 1)) (ha : a.category = 1) (k : Z l ad D ia C X Y (pc + 1) V (a :: a :: St) s) : Z l ad D ia C X Y pc V (a :: St) s := by
  obtain ⟨p, e, R, s0, m, args, below, meth, c0⟩ := C
  obtain ⟨hx, hb, hml, hown, hts, hr, hlk, hR, hKK⟩ := hC
  intro H locs ls hw hS hl
  exact lv_dup hx hb dd ha (k H locs ls hw hS hl)
theorem Z_dup2 (hC : Zok ad D ia C d cc nL own ret) {a b : Value} (dd : decode cc pc = .ok (.dup2, 1)) (ha : a.category = 1) (hb2 : b.category = 1) (k : Z l ad D ia C X Y (pc + 1) V (a :: b :: a :: b :: St) s) : Z l ad D ia C X Y pc V (a :: b :: St) s := by
  obtain ⟨p, e, R, s0, m, args, below, meth, c0⟩ := C
  obtain ⟨hx, hb, hml, hown, hts, hr, hlk, hR, hKK⟩ := hC
  intro H locs ls hw hS hl
  exact lv_dup2_11 hx hb dd ha hb2 (k H locs ls hw hS hl)
theorem Z_pop (hC : Zok ad D ia C d cc nL own ret) {a : Value} (dd : decode cc pc = .ok (.pop, 1)) (ha : a.category = 1) (k : Z l ad D ia C X Y (pc + 1) V (St) s) : Z l ad D ia C X Y pc V (a :: St) s := by
  obtain ⟨p, e, R, s0, m, args, below, meth, c0⟩ := C
  obtain ⟨hx, hb, hml, hown, hts, hr, hlk, hR, hKK⟩ := hC
  intro H locs ls hw hS hl
  exact lv_pop hx hb dd ha (k H locs ls hw hS hl)
theorem Z_iadd (hC : Zok ad D ia C d cc nL own ret) {x y : Int32} (dd : decode cc pc = .ok (.iadd, 1)) (k : Z l ad D ia C X Y (pc + 1) V (.int (x + y) :: St) s) : Z l ad D ia C X Y pc V (.int y :: .int x :: St) s := by
  obtain ⟨p, e, R, s0, m, args, below, meth, c0⟩ := C
  obtain ⟨hx, hb, hml, hown, hts, hr, hlk, hR, hKK⟩ := hC
  intro H locs ls hw hS hl
  exact lv_iadd hx hb dd (k H locs ls hw hS hl)
theorem Z_isub (hC : Zok ad D ia C d cc nL own ret) {x y : Int32} (dd : decode cc pc = .ok (.isub, 1)) (k : Z l ad D ia C X Y (pc + 1) V (.int (x - y) :: St) s) : Z l ad D ia C X Y pc V (.int y :: .int x :: St) s := by
  obtain ⟨p, e, R, s0, m, args, below, meth, c0⟩ := C
  obtain ⟨hx, hb, hml, hown, hts, hr, hlk, hR, hKK⟩ := hC
  intro H locs ls hw hS hl
  exact lv_isub hx hb dd (k H locs ls hw hS hl)
theorem Z_imul (hC : Zok ad D ia C d cc nL own ret) {x y : Int32} (dd : decode cc pc = .ok (.imul, 1)) (k : Z l ad D ia C X Y (pc + 1) V (.int (x * y) :: St) s) : Z l ad D ia C X Y pc V (.int y :: .int x :: St) s := by
  obtain ⟨p, e, R, s0, m, args, below, meth, c0⟩ := C
  obtain ⟨hx, hb, hml, hown, hts, hr, hlk, hR, hKK⟩ := hC
  intro H locs ls hw hS hl
  exact lv_imul hx hb dd (k H locs ls hw hS hl)
theorem Z_iand (hC : Zok ad D ia C d cc nL own ret) {x y : Int32} (dd : decode cc pc = .ok (.iand, 1)) (k : Z l ad D ia C X Y (pc + 1) V (.int (x &&& y) :: St) s) : Z l ad D ia C X Y pc V (.int y :: .int x :: St) s := by
  obtain ⟨p, e, R, s0, m, args, below, meth, c0⟩ := C
  obtain ⟨hx, hb, hml, hown, hts, hr, hlk, hR, hKK⟩ := hC
  intro H locs ls hw hS hl
  exact lv_iand hx hb dd (k H locs ls hw hS hl)
theorem Z_ior (hC : Zok ad D ia C d cc nL own ret) {x y : Int32} (dd : decode cc pc = .ok (.ior, 1)) (k : Z l ad D ia C X Y (pc + 1) V (.int (x ||| y) :: St) s) : Z l ad D ia C X Y pc V (.int y :: .int x :: St) s := by
  obtain ⟨p, e, R, s0, m, args, below, meth, c0⟩ := C
  obtain ⟨hx, hb, hml, hown, hts, hr, hlk, hR, hKK⟩ := hC
  intro H locs ls hw hS hl
  exact lv_ior hx hb dd (k H locs ls hw hS hl)
theorem Z_ishl (hC : Zok ad D ia C d cc nL own ret) {x y : Int32} (dd : decode cc pc = .ok (.ishl, 1)) (k : Z l ad D ia C X Y (pc + 1) V (.int (x <<< (y &&& 31)) :: St) s) : Z l ad D ia C X Y pc V (.int y :: .int x :: St) s := by
  obtain ⟨p, e, R, s0, m, args, below, meth, c0⟩ := C
  obtain ⟨hx, hb, hml, hown, hts, hr, hlk, hR, hKK⟩ := hC
  intro H locs ls hw hS hl
  exact lv_ishl hx hb dd (k H locs ls hw hS hl)
theorem Z_ishr (hC : Zok ad D ia C d cc nL own ret) {x y : Int32} (dd : decode cc pc = .ok (.ishr, 1)) (k : Z l ad D ia C X Y (pc + 1) V (.int (x >>> (y &&& 31)) :: St) s) : Z l ad D ia C X Y pc V (.int y :: .int x :: St) s := by
  obtain ⟨p, e, R, s0, m, args, below, meth, c0⟩ := C
  obtain ⟨hx, hb, hml, hown, hts, hr, hlk, hR, hKK⟩ := hC
  intro H locs ls hw hS hl
  exact lv_ishr hx hb dd (k H locs ls hw hS hl)
theorem Z_idiv (hC : Zok ad D ia C d cc nL own ret) {x y : Int32} (dd : decode cc pc = .ok (.idiv, 1)) (hy : ¬ y = 0) (k : Z l ad D ia C X Y (pc + 1) V (.int (x / y) :: St) s) : Z l ad D ia C X Y pc V (.int y :: .int x :: St) s := by
  obtain ⟨p, e, R, s0, m, args, below, meth, c0⟩ := C
  obtain ⟨hx, hb, hml, hown, hts, hr, hlk, hR, hKK⟩ := hC
  intro H locs ls hw hS hl
  exact lv_idiv hx hb dd hy (k H locs ls hw hS hl)
theorem Z_irem (hC : Zok ad D ia C d cc nL own ret) {x y : Int32} (dd : decode cc pc = .ok (.irem, 1)) (hy : ¬ y = 0) (k : Z l ad D ia C X Y (pc + 1) V (.int (x - x / y * y) :: St) s) : Z l ad D ia C X Y pc V (.int y :: .int x :: St) s := by
  obtain ⟨p, e, R, s0, m, args, below, meth, c0⟩ := C
  obtain ⟨hx, hb, hml, hown, hts, hr, hlk, hR, hKK⟩ := hC
  intro H locs ls hw hS hl
  exact lv_irem hx hb dd hy (k H locs ls hw hS hl)
theorem Z_ladd (hC : Zok ad D ia C d cc nL own ret) {x y : Int64} (dd : decode cc pc = .ok (.ladd, 1)) (k : Z l ad D ia C X Y (pc + 1) V (.long (x + y) :: St) s) : Z l ad D ia C X Y pc V (.long y :: .long x :: St) s := by
  obtain ⟨p, e, R, s0, m, args, below, meth, c0⟩ := C
  obtain ⟨hx, hb, hml, hown, hts, hr, hlk, hR, hKK⟩ := hC
  intro H locs ls hw hS hl
  exact lv_ladd hx hb dd (k H locs ls hw hS hl)
theorem Z_lmul (hC : Zok ad D ia C d cc nL own ret) {x y : Int64} (dd : decode cc pc = .ok (.lmul, 1)) (k : Z l ad D ia C X Y (pc + 1) V (.long (x * y) :: St) s) : Z l ad D ia C X Y pc V (.long y :: .long x :: St) s := by
  obtain ⟨p, e, R, s0, m, args, below, meth, c0⟩ := C
  obtain ⟨hx, hb, hml, hown, hts, hr, hlk, hR, hKK⟩ := hC
  intro H locs ls hw hS hl
  exact lv_lmul hx hb dd (k H locs ls hw hS hl)
theorem Z_lsub (hC : Zok ad D ia C d cc nL own ret) {x y : Int64} (dd : decode cc pc = .ok (.lsub, 1)) (k : Z l ad D ia C X Y (pc + 1) V (.long (x - y) :: St) s) : Z l ad D ia C X Y pc V (.long y :: .long x :: St) s := by
  obtain ⟨p, e, R, s0, m, args, below, meth, c0⟩ := C
  obtain ⟨hx, hb, hml, hown, hts, hr, hlk, hR, hKK⟩ := hC
  intro H locs ls hw hS hl
  exact lv_lsub hx hb dd (k H locs ls hw hS hl)
theorem Z_ldiv (hC : Zok ad D ia C d cc nL own ret) {x y : Int64} (dd : decode cc pc = .ok (.ldiv, 1)) (hy : ¬ y = 0) (k : Z l ad D ia C X Y (pc + 1) V (.long (x / y) :: St) s) : Z l ad D ia C X Y pc V (.long y :: .long x :: St) s := by
  obtain ⟨p, e, R, s0, m, args, below, meth, c0⟩ := C
  obtain ⟨hx, hb, hml, hown, hts, hr, hlk, hR, hKK⟩ := hC
  intro H locs ls hw hS hl
  exact lv_ldiv hx hb dd hy (k H locs ls hw hS hl)
theorem Z_lrem (hC : Zok ad D ia C d cc nL own ret) {x y : Int64} (dd : decode cc pc = .ok (.lrem, 1)) (hy : ¬ y = 0) (k : Z l ad D ia C X Y (pc + 1) V (.long (x - x / y * y) :: St) s) : Z l ad D ia C X Y pc V (.long y :: .long x :: St) s := by
  obtain ⟨p, e, R, s0, m, args, below, meth, c0⟩ := C
  obtain ⟨hx, hb, hml, hown, hts, hr, hlk, hR, hKK⟩ := hC
  intro H locs ls hw hS hl
  exact lv_lrem hx hb dd hy (k H locs ls hw hS hl)
theorem Z_ineg (hC : Zok ad D ia C d cc nL own ret) {x : Int32} (dd : decode cc pc = .ok (.ineg, 1)) (k : Z l ad D ia C X Y (pc + 1) V (.int (-x) :: St) s) : Z l ad D ia C X Y pc V (.int x :: St) s := by
  obtain ⟨p, e, R, s0, m, args, below, meth, c0⟩ := C
  obtain ⟨hx, hb, hml, hown, hts, hr, hlk, hR, hKK⟩ := hC
  intro H locs ls hw hS hl
  exact lv_ineg hx hb dd (k H locs ls hw hS hl)
theorem Z_iushr (hC : Zok ad D ia C d cc nL own ret) {x y : Int32} (dd : decode cc pc = .ok (.iushr, 1)) (k : Z l ad D ia C X Y (pc + 1) V (.int (x.toUInt32 >>> (y.toUInt32 &&& Int32.toUInt32 31)).toInt32 :: St) s) : Z l ad D ia C X Y pc V (.int y :: .int x :: St) s := by
  obtain ⟨p, e, R, s0, m, args, below, meth, c0⟩ := C
  obtain ⟨hx, hb, hml, hown, hts, hr, hlk, hR, hKK⟩ := hC
  intro H locs ls hw hS hl
  exact lv_iushr hx hb dd rfl (k H locs ls hw hS hl)
theorem Z_i2l (hC : Zok ad D ia C d cc nL own ret) {x : Int32} (dd : decode cc pc = .ok (.i2l, 1)) (k : Z l ad D ia C X Y (pc + 1) V (.long x.toInt64 :: St) s) : Z l ad D ia C X Y pc V (.int x :: St) s := by
  obtain ⟨p, e, R, s0, m, args, below, meth, c0⟩ := C
  obtain ⟨hx, hb, hml, hown, hts, hr, hlk, hR, hKK⟩ := hC
  intro H locs ls hw hS hl
  exact lv_i2l hx hb dd rfl (k H locs ls hw hS hl)
theorem Z_i2b (hC : Zok ad D ia C d cc nL own ret) {x : Int32} (dd : decode cc pc = .ok (.i2b, 1)) (k : Z l ad D ia C X Y (pc + 1) V (.int x.toInt8.toInt32 :: St) s) : Z l ad D ia C X Y pc V (.int x :: St) s := by
  obtain ⟨p, e, R, s0, m, args, below, meth, c0⟩ := C
  obtain ⟨hx, hb, hml, hown, hts, hr, hlk, hR, hKK⟩ := hC
  intro H locs ls hw hS hl
  exact lv_i2b hx hb dd rfl (k H locs ls hw hS hl)
theorem Z_i2s (hC : Zok ad D ia C d cc nL own ret) {x : Int32} (dd : decode cc pc = .ok (.i2s, 1)) (k : Z l ad D ia C X Y (pc + 1) V (.int x.toInt16.toInt32 :: St) s) : Z l ad D ia C X Y pc V (.int x :: St) s := by
  obtain ⟨p, e, R, s0, m, args, below, meth, c0⟩ := C
  obtain ⟨hx, hb, hml, hown, hts, hr, hlk, hR, hKK⟩ := hC
  intro H locs ls hw hS hl
  exact lv_i2s hx hb dd rfl (k H locs ls hw hS hl)
theorem Z_lcmp (hC : Zok ad D ia C d cc nL own ret) {x y : Int64} (dd : decode cc pc = .ok (.lcmp, 1)) (k : Z l ad D ia C X Y (pc + 1) V (.int (lg_cmp x y) :: St) s) : Z l ad D ia C X Y pc V (.long y :: .long x :: St) s := by
  obtain ⟨p, e, R, s0, m, args, below, meth, c0⟩ := C
  obtain ⟨hx, hb, hml, hown, hts, hr, hlk, hR, hKK⟩ := hC
  intro H locs ls hw hS hl
  exact W.lcmp hx hb dd (k H locs ls hw hS hl)
theorem Z_if_eq (hC : Zok ad D ia C d cc nL own ret) {x : Int32} {off : Int} {tgt : Nat} (dd : decode cc pc = .ok (.ifCond .eq off, 3)) (ht : (pc : Int) + off = (tgt : Int)) (kt : x = 0 → Z l ad D ia C X Y tgt V St s) (kf : ¬ x = 0 → Z l ad D ia C X Y (pc + 3) V St s) : Z l ad D ia C X Y pc V (.int x :: St) s := by
  obtain ⟨p, e, R, s0, m, args, below, meth, c0⟩ := C
  obtain ⟨hx, hb, hml, hown, hts, hr, hlk, hR, hKK⟩ := hC
  intro H locs ls hw hS hl
  exact lv_if_eq hx hb dd ht (fun h => kt h H locs ls hw hS hl) (fun h => kf h H locs ls hw hS hl)
theorem Z_icmp_eq (hC : Zok ad D ia C d cc nL own ret) {x y : Int32} {off : Int} {tgt : Nat} (dd : decode cc pc = .ok (.if_icmp .eq off, 3)) (ht : (pc : Int) + off = (tgt : Int)) (kt : x = y → Z l ad D ia C X Y tgt V St s) (kf : ¬ x = y → Z l ad D ia C X Y (pc + 3) V St s) : Z l ad D ia C X Y pc V (.int y :: .int x :: St) s := by
  obtain ⟨p, e, R, s0, m, args, below, meth, c0⟩ := C
  obtain ⟨hx, hb, hml, hown, hts, hr, hlk, hR, hKK⟩ := hC
  intro H locs ls hw hS hl
  exact lv_icmp_eq hx hb dd ht (fun h => kt h H locs ls hw hS hl) (fun h => kf h H locs ls hw hS hl)
theorem Z_if_ne (hC : Zok ad D ia C d cc nL own ret) {x : Int32} {off : Int} {tgt : Nat} (dd : decode cc pc = .ok (.ifCond .ne off, 3)) (ht : (pc : Int) + off = (tgt : Int)) (kt : ¬ x = 0 → Z l ad D ia C X Y tgt V St s) (kf : x = 0 → Z l ad D ia C X Y (pc + 3) V St s) : Z l ad D ia C X Y pc V (.int x :: St) s := by
  obtain ⟨p, e, R, s0, m, args, below, meth, c0⟩ := C
  obtain ⟨hx, hb, hml, hown, hts, hr, hlk, hR, hKK⟩ := hC
  intro H locs ls hw hS hl
  exact lv_if_ne hx hb dd ht (fun h => kt h H locs ls hw hS hl) (fun h => kf h H locs ls hw hS hl)
theorem Z_icmp_ne (hC : Zok ad D ia C d cc nL own ret) {x y : Int32} {off : Int} {tgt : Nat} (dd : decode cc pc = .ok (.if_icmp .ne off, 3)) (ht : (pc : Int) + off = (tgt : Int)) (kt : ¬ x = y → Z l ad D ia C X Y tgt V St s) (kf : x = y → Z l ad D ia C X Y (pc + 3) V St s) : Z l ad D ia C X Y pc V (.int y :: .int x :: St) s := by
  obtain ⟨p, e, R, s0, m, args, below, meth, c0⟩ := C
  obtain ⟨hx, hb, hml, hown, hts, hr, hlk, hR, hKK⟩ := hC
  intro H locs ls hw hS hl
  exact lv_icmp_ne hx hb dd ht (fun h => kt h H locs ls hw hS hl) (fun h => kf h H locs ls hw hS hl)
theorem Z_if_lt (hC : Zok ad D ia C d cc nL own ret) {x : Int32} {off : Int} {tgt : Nat} (dd : decode cc pc = .ok (.ifCond .lt off, 3)) (ht : (pc : Int) + off = (tgt : Int)) (kt : x < 0 → Z l ad D ia C X Y tgt V St s) (kf : ¬ x < 0 → Z l ad D ia C X Y (pc + 3) V St s) : Z l ad D ia C X Y pc V (.int x :: St) s := by
  obtain ⟨p, e, R, s0, m, args, below, meth, c0⟩ := C
  obtain ⟨hx, hb, hml, hown, hts, hr, hlk, hR, hKK⟩ := hC
  intro H locs ls hw hS hl
  exact lv_if_lt hx hb dd ht (fun h => kt h H locs ls hw hS hl) (fun h => kf h H locs ls hw hS hl)
theorem Z_icmp_lt (hC : Zok ad D ia C d cc nL own ret) {x y : Int32} {off : Int} {tgt : Nat} (dd : decode cc pc = .ok (.if_icmp .lt off, 3)) (ht : (pc : Int) + off = (tgt : Int)) (kt : x < y → Z l ad D ia C X Y tgt V St s) (kf : ¬ x < y → Z l ad D ia C X Y (pc + 3) V St s) : Z l ad D ia C X Y pc V (.int y :: .int x :: St) s := by
  obtain ⟨p, e, R, s0, m, args, below, meth, c0⟩ := C
  obtain ⟨hx, hb, hml, hown, hts, hr, hlk, hR, hKK⟩ := hC
  intro H locs ls hw hS hl
  exact lv_icmp_lt hx hb dd ht (fun h => kt h H locs ls hw hS hl) (fun h => kf h H locs ls hw hS hl)
theorem Z_if_ge (hC : Zok ad D ia C d cc nL own ret) {x : Int32} {off : Int} {tgt : Nat} (dd : decode cc pc = .ok (.ifCond .ge off, 3)) (ht : (pc : Int) + off = (tgt : Int)) (kt : 0 ≤ x → Z l ad D ia C X Y tgt V St s) (kf : ¬ 0 ≤ x → Z l ad D ia C X Y (pc + 3) V St s) : Z l ad D ia C X Y pc V (.int x :: St) s := by
  obtain ⟨p, e, R, s0, m, args, below, meth, c0⟩ := C
  obtain ⟨hx, hb, hml, hown, hts, hr, hlk, hR, hKK⟩ := hC
  intro H locs ls hw hS hl
  exact lv_if_ge hx hb dd ht (fun h => kt h H locs ls hw hS hl) (fun h => kf h H locs ls hw hS hl)
theorem Z_icmp_ge (hC : Zok ad D ia C d cc nL own ret) {x y : Int32} {off : Int} {tgt : Nat} (dd : decode cc pc = .ok (.if_icmp .ge off, 3)) (ht : (pc : Int) + off = (tgt : Int)) (kt : y ≤ x → Z l ad D ia C X Y tgt V St s) (kf : ¬ y ≤ x → Z l ad D ia C X Y (pc + 3) V St s) : Z l ad D ia C X Y pc V (.int y :: .int x :: St) s := by
  obtain ⟨p, e, R, s0, m, args, below, meth, c0⟩ := C
  obtain ⟨hx, hb, hml, hown, hts, hr, hlk, hR, hKK⟩ := hC
  intro H locs ls hw hS hl
  exact lv_icmp_ge hx hb dd ht (fun h => kt h H locs ls hw hS hl) (fun h => kf h H locs ls hw hS hl)
theorem Z_if_gt (hC : Zok ad D ia C d cc nL own ret) {x : Int32} {off : Int} {tgt : Nat} (dd : decode cc pc = .ok (.ifCond .gt off, 3)) (ht : (pc : Int) + off = (tgt : Int)) (kt : 0 < x → Z l ad D ia C X Y tgt V St s) (kf : ¬ 0 < x → Z l ad D ia C X Y (pc + 3) V St s) : Z l ad D ia C X Y pc V (.int x :: St) s := by
  obtain ⟨p, e, R, s0, m, args, below, meth, c0⟩ := C
  obtain ⟨hx, hb, hml, hown, hts, hr, hlk, hR, hKK⟩ := hC
  intro H locs ls hw hS hl
  exact lv_if_gt hx hb dd ht (fun h => kt h H locs ls hw hS hl) (fun h => kf h H locs ls hw hS hl)
theorem Z_icmp_gt (hC : Zok ad D ia C d cc nL own ret) {x y : Int32} {off : Int} {tgt : Nat} (dd : decode cc pc = .ok (.if_icmp .gt off, 3)) (ht : (pc : Int) + off = (tgt : Int)) (kt : y < x → Z l ad D ia C X Y tgt V St s) (kf : ¬ y < x → Z l ad D ia C X Y (pc + 3) V St s) : Z l ad D ia C X Y pc V (.int y :: .int x :: St) s := by
  obtain ⟨p, e, R, s0, m, args, below, meth, c0⟩ := C
  obtain ⟨hx, hb, hml, hown, hts, hr, hlk, hR, hKK⟩ := hC
  intro H locs ls hw hS hl
  exact lv_icmp_gt hx hb dd ht (fun h => kt h H locs ls hw hS hl) (fun h => kf h H locs ls hw hS hl)
theorem Z_if_le (hC : Zok ad D ia C d cc nL own ret) {x : Int32} {off : Int} {tgt : Nat} (dd : decode cc pc = .ok (.ifCond .le off, 3)) (ht : (pc : Int) + off = (tgt : Int)) (kt : x ≤ 0 → Z l ad D ia C X Y tgt V St s) (kf : ¬ x ≤ 0 → Z l ad D ia C X Y (pc + 3) V St s) : Z l ad D ia C X Y pc V (.int x :: St) s := by
  obtain ⟨p, e, R, s0, m, args, below, meth, c0⟩ := C
  obtain ⟨hx, hb, hml, hown, hts, hr, hlk, hR, hKK⟩ := hC
  intro H locs ls hw hS hl
  exact lv_if_le hx hb dd ht (fun h => kt h H locs ls hw hS hl) (fun h => kf h H locs ls hw hS hl)
theorem Z_icmp_le (hC : Zok ad D ia C d cc nL own ret) {x y : Int32} {off : Int} {tgt : Nat} (dd : decode cc pc = .ok (.if_icmp .le off, 3)) (ht : (pc : Int) + off = (tgt : Int)) (kt : x ≤ y → Z l ad D ia C X Y tgt V St s) (kf : ¬ x ≤ y → Z l ad D ia C X Y (pc + 3) V St s) : Z l ad D ia C X Y pc V (.int y :: .int x :: St) s := by
  obtain ⟨p, e, R, s0, m, args, below, meth, c0⟩ := C
  obtain ⟨hx, hb, hml, hown, hts, hr, hlk, hR, hKK⟩ := hC
  intro H locs ls hw hS hl
  exact lv_icmp_le hx hb dd ht (fun h => kt h H locs ls hw hS hl) (fun h => kf h H locs ls hw hS hl)
theorem Z_goto (hC : Zok ad D ia C d cc nL own ret) {off : Int} {tgt : Nat} (dd : decode cc pc = .ok (.goto off, 3)) (ht : (pc : Int) + off = (tgt : Int)) (k : Z l ad D ia C X Y tgt V St s) : Z l ad D ia C X Y pc V (St) s := by
  obtain ⟨p, e, R, s0, m, args, below, meth, c0⟩ := C
  obtain ⟨hx, hb, hml, hown, hts, hr, hlk, hR, hKK⟩ := hC
  intro H locs ls hw hS hl
  exact lv_goto hx hb dd ht (k H locs ls hw hS hl)
theorem Z_tabIn (hC : Zok ad D ia C d cc nL own ret) {dflt lo hi : Int} {offs : Array Int} {len : Nat} {x : Int32} {off : Int} {tgt : Nat} (dd : decode cc pc = .ok (.tableswitch dflt lo hi offs, len)) (h1 : ¬ x.toInt < lo) (h2 : ¬ hi < x.toInt) (h3 : offs[(x.toInt - lo).toNat]? = some off) (ht : (pc : Int) + off = (tgt : Int)) (k : Z l ad D ia C X Y tgt V St s) : Z l ad D ia C X Y pc V (.int x :: St) s := by
  obtain ⟨p, e, R, s0, m, args, below, meth, c0⟩ := C
  obtain ⟨hx, hb, hml, hown, hts, hr, hlk, hR, hKK⟩ := hC
  intro H locs ls hw hS hl
  exact lv_tableIn hx hb dd h1 h2 h3 ht (k H locs ls hw hS hl)
theorem Z_tabOut (hC : Zok ad D ia C d cc nL own ret) {dflt lo hi : Int} {offs : Array Int} {len : Nat} {x : Int32} {tgt : Nat} (dd : decode cc pc = .ok (.tableswitch dflt lo hi offs, len)) (h1 : x.toInt < lo ∨ hi < x.toInt) (ht : (pc : Int) + dflt = (tgt : Int)) (k : Z l ad D ia C X Y tgt V St s) : Z l ad D ia C X Y pc V (.int x :: St) s := by
  obtain ⟨p, e, R, s0, m, args, below, meth, c0⟩ := C
  obtain ⟨hx, hb, hml, hown, hts, hr, hlk, hR, hKK⟩ := hC
  intro H locs ls hw hS hl
  exact lv_tableOut hx hb dd h1 ht (k H locs ls hw hS hl)
theorem Z_look (hC : Zok ad D ia C d cc nL own ret) {dflt : Int} {ps : Array (Int × Int)} {len : Nat} {x : Int32} {off : Int} {tgt : Nat} (dd : decode cc pc = .ok (.lookupswitch dflt ps, len)) (hp : (ps.toList.zip (ps.toList.drop 1)).all (fun (a, next) => a.1 < next.1) = true) (h3 : Op.lookupswitch.offset ps.toList dflt x.toInt = off) (ht : (pc : Int) + off = (tgt : Int)) (k : Z l ad D ia C X Y tgt V St s) : Z l ad D ia C X Y pc V (.int x :: St) s := by
  obtain ⟨p, e, R, s0, m, args, below, meth, c0⟩ := C
  obtain ⟨hx, hb, hml, hown, hts, hr, hlk, hR, hKK⟩ := hC
  intro H locs ls hw hS hl
  exact lv_lookup hx hb dd hp h3 ht (k H locs ls hw hS hl)
theorem Z_iret (hC : Zok ad D ia C d cc nL own (some .int)) {v : Int32} (dd : decode cc pc = .ok (.ireturn, 1)) (hX : X = some (.int v)) (hY : Y = s) : Z l ad D ia C X Y pc V [.int v] s := by
  obtain ⟨p, e, R, s0, m, args, below, meth, c0⟩ := C
  obtain ⟨hx, hb, hml, hown, hts, hr, hlk, hR, hKK⟩ := hC
  intro H locs ls hw hS hl
  subst hX
  subst hY
  exact W.iret hx hb hr (fun t ht hW => ⟨⟨rfl, by rw [ht]; exact hw⟩, hS.F ht⟩) hS.2.2 dd hlk
theorem Z_zret (hC : Zok ad D ia C d cc nL own (some .boolean)) {v : Int32} (dd : decode cc pc = .ok (.ireturn, 1)) (hn : narrow .boolean (.int v) = .int v) (hX : X = some (.int v)) (hY : Y = s) : Z l ad D ia C X Y pc V [.int v] s := by
  obtain ⟨p, e, R, s0, m, args, below, meth, c0⟩ := C
  obtain ⟨hx, hb, hml, hown, hts, hr, hlk, hR, hKK⟩ := hC
  intro H locs ls hw hS hl
  subst hX
  subst hY
  exact W.zret hx hb hr hn (fun t ht hW => ⟨⟨rfl, by rw [ht]; exact hw⟩, hS.F ht⟩) hS.2.2 dd hlk
theorem Z_lret (hC : Zok ad D ia C d cc nL own (some .long)) {v : Int64} (dd : decode cc pc = .ok (.lreturn, 1)) (hX : X = some (.long v)) (hY : Y = s) : Z l ad D ia C X Y pc V [.long v] s := by
  obtain ⟨p, e, R, s0, m, args, below, meth, c0⟩ := C
  obtain ⟨hx, hb, hml, hown, hts, hr, hlk, hR, hKK⟩ := hC
  intro H locs ls hw hS hl
  subst hX
  subst hY
  exact W.lret hx hb hr (fun t ht hW => ⟨⟨rfl, by rw [ht]; exact hw⟩, hS.F ht⟩) hS.2.2 dd hlk
theorem Z_vret (hC : Zok ad D ia C d cc nL own none) (dd : decode cc pc = .ok (.return_, 1)) (hX : X = none) (hY : Y = s) : Z l ad D ia C X Y pc V [] s := by
  obtain ⟨p, e, R, s0, m, args, below, meth, c0⟩ := C
  obtain ⟨hx, hb, hml, hown, hts, hr, hlk, hR, hKK⟩ := hC
  intro H locs ls hw hS hl
  subst hX
  subst hY
  exact W.vret hx hb hr (fun t ht hW => ⟨⟨rfl, by rw [ht]; exact hw⟩, hS.F ht⟩) hS.2.2 dd hlk
theorem Z_sub {V2 : List (Nat × Value)} (h : ∀ q ∈ V2, q ∈ V) (k : Z l ad D ia C X Y pc V2 St s) : Z l ad D ia C X Y pc V St s := by
  obtain ⟨p, e, R, s0, m, args, below, meth, c0⟩ := C
  intro H locs ls hw hS hl
  exact k H locs ls hw hS ⟨hl.1, hl.2.1, fun q hq => hl.2.2 q (h q hq)⟩
theorem Z_get (hC : Zok ad D ia C d cc nL own ret) {o c k idx : Nat} {v : Value} (ho : zcls o = c) (hc0 : 0 ∈ zsub c) (lk : zlk own idx c k) (hv : (zfs ad c o (s o))[k]? = some v) (dd : decode cc pc = .ok (.getfield idx, 3)) (kk : Z l ad D ia C X Y (pc + 3) V (v :: St) s) : Z l ad D ia C X Y pc V (.ref (ad o 0) :: St) s := by
  obtain ⟨p, e, R, s0, m, args, below, meth, c0⟩ := C
  obtain ⟨hx, hb, hml, hown, hts, hr, hlk, hR, hKK⟩ := hC
  intro H locs ls hw hS hl
  obtain ⟨f, hf, hP⟩ := id hw
  have hm : (o, 0) ∈ zCL := zmem (by rw [ho]; exact hc0)
  obtain ⟨q, hq, hin, hk, hlink⟩ := lk
  obtain ⟨q0, -, he⟩ := zget hf hm
  have he : (va_pl (zLL ad) f)[q0]? = some (ad o 0, .inr (c, zfs ad c o (s o))) := by rw [he]; simp only [zce, ho]
  exact va_get (C := q.1) (T := q.2.1) (N := q.2.2) hx hb hts hin hown hKK.2.1 hP q0 he hq k hk (hts _ hlink) (fun _ h9 => h9) hv dd (kk H locs ls hw hS hl)
theorem Z_put (hC : Zok ad D ia C d cc nL own ret) {o c k idx : Nat} {ty : FieldType} {v : Value} {v2 : OV} (ho : zcls o = c) (hc0 : 0 ∈ zsub c) (pk : zpk own idx c k ty) (hn : narrow ty v = v) (hfit : fits ty v = true) (hset : (zfs ad c o (s o)).set k v = zfs ad c o v2) (hrow : v2.2.2 = (s o).2.2) (hlen : k < (zfs ad c o (s o)).length) (dd : decode cc pc = .ok (.putfield idx, 3)) (kk : Z l ad D ia C X Y (pc + 3) V St (va_up s o v2)) : Z l ad D ia C X Y pc V (v :: .ref (ad o 0) :: St) s := by
  obtain ⟨p, e, R, s0, m, args, below, meth, c0⟩ := C
  obtain ⟨hx, hb, hml, hown, hts, hr, hlk, hR, hKK⟩ := hC
  intro H locs ls hw hS hl
  obtain ⟨f, hf, hP⟩ := id hw
  have hm : (o, 0) ∈ zCL := zmem (by rw [ho]; exact hc0)
  obtain ⟨q, ty0, hq, hin, hk, hlink, hty, hnm, hfin, hpd⟩ := pk
  obtain ⟨q0, hz, he⟩ := zget hf hm
  have he : (va_pl (zLL ad) f)[q0]? = some (ad o 0, .inr (c, zfs ad c o (s o))) := by rw [he]; simp only [zce, ho]
  refine va_put (C := q.1) (T := q.2.1) (N := q.2.2) hx hb hts hin ty0 hty hnm hown hKK.2.1 hP (zD hKK.1) hS q0 he hq k hk (hts _ hlink) (fun _ h9 => h9) hfin hpd hn hfit hlen dd (fun H1 locs1 hP1 hD1 hS1 => kk H1 locs1 ls ?_ hS1 hl)
  refine zset hKK.1 hf hm hz ?_ ?_
  · have e : zce ad ia (va_up s o v2) o 0 = .inr (c, (zfs ad c o (s o)).set k v) := by simp [zce, ho, va_up, hset]
    rw [e]
    exact hP1
  · intro r hr
    obtain ⟨a, b⟩ := r
    by_cases ea : a = o
    · subst ea
      cases b with
      | zero => exact absurd rfl hr
      | succ b => simp [zce, zrow, va_up, hrow]
    · cases b <;> simp [zce, va_up, ea]

theorem Z_iald (hC : Zok ad D ia C d cc nL own ret) {o k n : Nat} {i : Int32} (hI : zis o k 0 n) (hin : vp_in i n) (dd : decode cc pc = .ok (.iaload, 1)) (kk : Z l ad D ia C X Y (pc + 1) V (.int ((s o).2.2 k i.toNatClampNeg) :: St) s) : Z l ad D ia C X Y pc V (.int i :: .ref (ad o (k + 1)) :: St) s := by
  obtain ⟨p, e, R, s0, m, args, below, meth, c0⟩ := C
  obtain ⟨hx, hb, hml, hown, hts, hr, hlk, hR, hKK⟩ := hC
  intro H locs ls hw hS hl
  obtain ⟨f, hf, hP⟩ := id hw
  obtain ⟨h1, h2, h3⟩ := hI
  obtain ⟨q0, -, he⟩ := zget hf (zmem h1)
  have he : (va_pl (zLL ad) f)[q0]? = some (ad o (k + 1), .inl (ia 0, n, .inl ((s o).2.2 k))) := by rw [he]; simp [zce, zrow, h2, h3]
  exact va_iald hx hb hKK.2.1 hP q0 0 he rfl hin dd (kk H locs ls hw hS hl)
theorem Z_bald (hC : Zok ad D ia C d cc nL own ret) {o k n : Nat} {i : Int32} (hI : zis o k 1 n) (hin : vp_in i n) (dd : decode cc pc = .ok (.baload, 1)) (kk : Z l ad D ia C X Y (pc + 1) V (.int ((s o).2.2 k i.toNatClampNeg) :: St) s) : Z l ad D ia C X Y pc V (.int i :: .ref (ad o (k + 1)) :: St) s := by
  obtain ⟨p, e, R, s0, m, args, below, meth, c0⟩ := C
  obtain ⟨hx, hb, hml, hown, hts, hr, hlk, hR, hKK⟩ := hC
  intro H locs ls hw hS hl
  obtain ⟨f, hf, hP⟩ := id hw
  obtain ⟨h1, h2, h3⟩ := hI
  obtain ⟨q0, -, he⟩ := zget hf (zmem h1)
  have he : (va_pl (zLL ad) f)[q0]? = some (ad o (k + 1), .inl (ia 1, n, .inl ((s o).2.2 k))) := by rw [he]; simp [zce, zrow, h2, h3]
  exact va_bald hx hb hKK.2.1 hP q0 1 he rfl hin dd (kk H locs ls hw hS hl)
theorem Z_zald (hC : Zok ad D ia C d cc nL own ret) {o k n : Nat} {i : Int32} (hI : zis o k 2 n) (hin : vp_in i n) (dd : decode cc pc = .ok (.baload, 1)) (kk : Z l ad D ia C X Y (pc + 1) V (.int ((s o).2.2 k i.toNatClampNeg) :: St) s) : Z l ad D ia C X Y pc V (.int i :: .ref (ad o (k + 1)) :: St) s := by
  obtain ⟨p, e, R, s0, m, args, below, meth, c0⟩ := C
  obtain ⟨hx, hb, hml, hown, hts, hr, hlk, hR, hKK⟩ := hC
  intro H locs ls hw hS hl
  obtain ⟨f, hf, hP⟩ := id hw
  obtain ⟨h1, h2, h3⟩ := hI
  obtain ⟨q0, -, he⟩ := zget hf (zmem h1)
  have he : (va_pl (zLL ad) f)[q0]? = some (ad o (k + 1), .inl (ia 2, n, .inl ((s o).2.2 k))) := by rw [he]; simp [zce, zrow, h2, h3]
  exact va_zald hx hb hKK.2.1 hP q0 2 he rfl hin dd (kk H locs ls hw hS hl)
theorem zfs_A {c o k : Nat} {v : OV} {g : Nat → Int32} : zfs ad c o (setA v k g) = zfs ad c o v := by
  unfold zfs setA
  rfl
theorem zsetA_ne {o k : Nat} {g : Nat → Int32} (q : Nat × Nat) (hq : q ≠ (o, k + 1)) : zce ad ia (va_up s o (setA (s o) k g)) q.1 q.2 = zce ad ia s q.1 q.2 := by
  obtain ⟨a, b⟩ := q
  by_cases ea : a = o
  · subst ea
    cases b with
    | zero =>
      show Sum.inr (zcls a, zfs ad (zcls a) a (va_up s a (setA (s a) k g) a)) = Sum.inr (zcls a, zfs ad (zcls a) a (s a))
      have e : va_up s a (setA (s a) k g) a = setA (s a) k g := by simp [va_up]
      rw [e, zfs_A]
    | succ b =>
      have hb : b ≠ k := fun h => hq (by rw [h])
      simp [zce, zrow, va_up, setA, hb]
  · cases b <;> simp [zce, va_up, ea]
theorem Z_iast (hC : Zok ad D ia C d cc nL own ret) {o k n : Nat} {i x : Int32} (hI : zis o k 0 n) (hin : vp_in i n) (dd : decode cc pc = .ok (.iastore, 1)) (kk : Z l ad D ia C X Y (pc + 1) V St (va_up s o (setA (s o) k (upd ((s o).2.2 k) i.toNatClampNeg x)))) : Z l ad D ia C X Y pc V (.int x :: .int i :: .ref (ad o (k + 1)) :: St) s := by
  obtain ⟨p, e, R, s0, m, args, below, meth, c0⟩ := C
  obtain ⟨hx, hb, hml, hown, hts, hr, hlk, hR, hKK⟩ := hC
  intro H locs ls hw hS hl
  obtain ⟨f, hf, hP⟩ := id hw
  obtain ⟨h1, h2, h3⟩ := hI
  obtain ⟨q0, hz, he⟩ := zget hf (zmem h1)
  have he : (va_pl (zLL ad) f)[q0]? = some (ad o (k + 1), .inl (ia 0, n, .inl ((s o).2.2 k))) := by rw [he]; simp [zce, zrow, h2, h3]
  refine va_iast hx hb hKK.2.1 hP (zD hKK.1) hS q0 0 he rfl hin dd (fun H1 locs1 hP1 hD1 hS1 => kk H1 locs1 ls ?_ hS1 hl)
  refine zset hKK.1 hf (zmem h1) hz ?_ ?_
  · have e : zce ad ia (va_up s o (setA (s o) k (upd ((s o).2.2 k) i.toNatClampNeg x))) o (k + 1) = .inl (ia 0, n, .inl (upd ((s o).2.2 k) i.toNatClampNeg x)) := by simp [zce, zrow, va_up, setA, h2, h3]
    rw [e]
    exact hP1
  · exact zsetA_ne
theorem Z_bast (hC : Zok ad D ia C d cc nL own ret) {o k n : Nat} {i x : Int32} (hI : zis o k 1 n) (hin : vp_in i n) (dd : decode cc pc = .ok (.bastore, 1)) (kk : Z l ad D ia C X Y (pc + 1) V St (va_up s o (setA (s o) k (upd ((s o).2.2 k) i.toNatClampNeg (vp_nar .byte x))))) : Z l ad D ia C X Y pc V (.int x :: .int i :: .ref (ad o (k + 1)) :: St) s := by
  obtain ⟨p, e, R, s0, m, args, below, meth, c0⟩ := C
  obtain ⟨hx, hb, hml, hown, hts, hr, hlk, hR, hKK⟩ := hC
  intro H locs ls hw hS hl
  obtain ⟨f, hf, hP⟩ := id hw
  obtain ⟨h1, h2, h3⟩ := hI
  obtain ⟨q0, hz, he⟩ := zget hf (zmem h1)
  have he : (va_pl (zLL ad) f)[q0]? = some (ad o (k + 1), .inl (ia 1, n, .inl ((s o).2.2 k))) := by rw [he]; simp [zce, zrow, h2, h3]
  refine va_bast hx hb hKK.2.1 hP (zD hKK.1) hS q0 1 he rfl hin dd (fun H1 locs1 hP1 hD1 hS1 => kk H1 locs1 ls ?_ hS1 hl)
  refine zset hKK.1 hf (zmem h1) hz ?_ ?_
  · have e : zce ad ia (va_up s o (setA (s o) k (upd ((s o).2.2 k) i.toNatClampNeg (vp_nar .byte x)))) o (k + 1) = .inl (ia 1, n, .inl (upd ((s o).2.2 k) i.toNatClampNeg (vp_nar .byte x))) := by simp [zce, zrow, va_up, setA, h2, h3]
    rw [e]
    exact hP1
  · exact zsetA_ne
theorem Z_zast (hC : Zok ad D ia C d cc nL own ret) {o k n : Nat} {i x : Int32} (hI : zis o k 2 n) (hin : vp_in i n) (dd : decode cc pc = .ok (.bastore, 1)) (kk : Z l ad D ia C X Y (pc + 1) V St (va_up s o (setA (s o) k (upd ((s o).2.2 k) i.toNatClampNeg (vp_nar .boolean x))))) : Z l ad D ia C X Y pc V (.int x :: .int i :: .ref (ad o (k + 1)) :: St) s := by
  obtain ⟨p, e, R, s0, m, args, below, meth, c0⟩ := C
  obtain ⟨hx, hb, hml, hown, hts, hr, hlk, hR, hKK⟩ := hC
  intro H locs ls hw hS hl
  obtain ⟨f, hf, hP⟩ := id hw
  obtain ⟨h1, h2, h3⟩ := hI
  obtain ⟨q0, hz, he⟩ := zget hf (zmem h1)
  have he : (va_pl (zLL ad) f)[q0]? = some (ad o (k + 1), .inl (ia 2, n, .inl ((s o).2.2 k))) := by rw [he]; simp [zce, zrow, h2, h3]
  refine va_zast hx hb hKK.2.1 hP (zD hKK.1) hS q0 2 he rfl hin dd (fun H1 locs1 hP1 hD1 hS1 => kk H1 locs1 ls ?_ hS1 hl)
  refine zset hKK.1 hf (zmem h1) hz ?_ ?_
  · have e : zce ad ia (va_up s o (setA (s o) k (upd ((s o).2.2 k) i.toNatClampNeg (vp_nar .boolean x)))) o (k + 1) = .inl (ia 2, n, .inl (upd ((s o).2.2 k) i.toNatClampNeg (vp_nar .boolean x))) := by simp [zce, zrow, va_up, setA, h2, h3]
    rw [e]
    exact hP1
  · exact zsetA_ne
theorem Z_aaldM (hC : Zok ad D ia C d cc nL own ret) {i : Int32} (hin : vp_in i 2) (dd : decode cc pc = .ok (.aaload, 1)) (kk : Z l ad D ia C X Y (pc + 1) V (.ref (ad (10 + i.toNatClampNeg) 0) :: St) s) : Z l ad D ia C X Y pc V (.int i :: .ref (ad 0 6) :: St) s := by
  obtain ⟨p, e, R, s0, m, args, below, meth, c0⟩ := C
  obtain ⟨hx, hb, hml, hown, hts, hr, hlk, hR, hKK⟩ := hC
  intro H locs ls hw hS hl
  obtain ⟨f, hf, hP⟩ := id hw
  obtain ⟨q0, -, he⟩ := zget hf (o := 0) (k := 6) (zmem (by decide))
  have he : (va_pl (zLL ad) f)[q0]? = some (ad 0 6, .inl (ia 3, 2, .inr (.inr (.inr (.inr (zrf ad 0 5)))))) := he
  exact va_aldq hx hb hKK.2.1 hP q0 3 he rfl hin dd (kk H locs ls hw hS hl)
theorem Z_aaldS (hC : Zok ad D ia C d cc nL own ret) {i : Int32} (hin : vp_in i 4) (dd : decode cc pc = .ok (.aaload, 1)) (kk : Z l ad D ia C X Y (pc + 1) V (.ref (ad (12 + i.toNatClampNeg) 0) :: St) s) : Z l ad D ia C X Y pc V (.int i :: .ref (ad 0 7) :: St) s := by
  obtain ⟨p, e, R, s0, m, args, below, meth, c0⟩ := C
  obtain ⟨hx, hb, hml, hown, hts, hr, hlk, hR, hKK⟩ := hC
  intro H locs ls hw hS hl
  obtain ⟨f, hf, hP⟩ := id hw
  obtain ⟨q0, -, he⟩ := zget hf (o := 0) (k := 7) (zmem (by decide))
  have he : (va_pl (zLL ad) f)[q0]? = some (ad 0 7, .inl (ia 4, 4, .inr (.inr (.inr (.inr (zrf ad 0 6)))))) := he
  exact va_aldq hx hb hKK.2.1 hP q0 4 he rfl hin dd (kk H locs ls hw hS hl)
theorem zblind {av : List Value} : FrameBlind (va_Pc av (zP ad D ia s)) := fun a U g mk q => ⟨q.1, ⟨q.2.1.1, va_K.moved (u := U) (U := U.calling g mk a) (Vm.Alike.refl U.vm) q.2.1.2.1, fun w hw => va_Nw.same (u := U) (U := U.calling g mk a) (by revert w; decide +kernel) rfl (q.2.1.2.2.1 w hw), ⟨fun i hi => vk_R.same (u := U) (U := U.calling g mk a) rfl (q.2.1.2.2.2.1 i hi), vk_S.moved (u := U) (U := U.calling g mk a) (Vm.Alike.refl U.vm) q.2.1.2.2.2.2.1, va_Z.moved (u := U) (U := U.calling g mk a) (Vm.Alike.refl U.vm) q.2.1.2.2.2.2.2.1, va_Zq.moved (u := U) (U := U.calling g mk a) (Vm.Alike.refl U.vm) q.2.1.2.2.2.2.2.2⟩⟩, q.2.2⟩
theorem zTx_warm {U U2 : State} (hW : U.WarmedH U2.vm) (hq : ∀ a : Nat, a < U.heap.size → ¬ zAd ad a → U2.heap[a]? = U.heap[a]?) (h : zTx ad U) : zTx ad U2 := ⟨fun i hi => vk_R.warm hW (h.1 i hi), (vk_S.moved hW.alike h.2.1).kept hq, (va_Z.moved hW.alike h.2.2.1).kept hq, (va_Zq.moved hW.alike h.2.2.2).kept hq⟩
theorem zK_warm {U U2 : State} (hW : U.WarmedH U2.vm) (hq : ∀ a : Nat, a < U.heap.size → ¬ zAd ad a → U2.heap[a]? = U.heap[a]?) (h : zK ad D ia U) : zK ad D ia U2 := ⟨h.1, va_K.moved hW.alike h.2.1, fun w hw => by
  have h2 := h.2.2.1 w hw
  simp only [zNW, List.mem_cons, List.not_mem_nil, or_false] at hw
  rcases hw with rfl | rfl | rfl <;> exact va_Nw.warmM hW h2, zTx_warm hW hq h.2.2.2⟩

theorem Z_callV (hC : Zok ad D ia C (d + 1) cc nL own ret) {M : ZM} {idx n o : Nat} {As rest : List Value} {X1 : Option Value} {Y1 : ZS} (hE : Ev l ad D ia d M (.ref (ad o 0) :: As) s X1 Y1) (lk : zcV own idx M n) (hoc : ∃ c, zcls o = c ∧ 0 ∈ zsub c ∧ ∃ q : vw_C, vwCl[c]? = some q ∧ q.1 = M.1.cls) (hn : As.length = n) (hst : St = As.reverse ++ .ref (ad o 0) :: rest) (hW : (rest.map fun v => v.category).sum ≤ 8) (dd : decode cc pc = .ok (.invokevirtual idx, 3)) (k : Z l ad D ia C X Y (pc + 3) V (X1.toList ++ rest) Y1) : Z l ad D ia C X Y pc V St s := by
  obtain ⟨p, e, R, s0, m, args, below, meth, c0⟩ := C
  obtain ⟨hx, hb, hml, hown, hts, hr, hlk, hR, hKK⟩ := hC
  intro H locs ls hw hS hl
  obtain ⟨hwd, hd, hm⟩ := lk
  subst hR
  have hR : (zrm d).frames + 1 ≤ (zrm (d + 1)).frames ∧ 8 + (M.2.2.1 + 11) + (zrm d).locals ≤ (zrm (d + 1)).locals := ⟨Nat.le_refl _, by simp only [zrm]; omega⟩
  have cw := cwV (C := M.1.cls) (ws := .code M.1 M.2.1 M.2.2.1 M.2.2.2 :: WL) (rm := zrm d) (mc := 0) (ms := 0) (R := zrm (d + 1)) n hts (fun w h => by
    simp only [wsV, List.mem_append, List.mem_cons, List.not_mem_nil, or_false] at h
    rcases h with (rfl | rfl | rfl | rfl) | h
    · exact zWL_good _ hwd.1
    · exact zWL_good _ hwd.2.1
    · exact zWL_good _ hwd.2.2.1
    · exact zWL_good _ hwd.2.2.2.1
    · exact zgood hwd.2.2.2.2 (fun _ h => h) w (List.mem_cons.mpr h)) rfl rfl rfl ⟨rfl, hd⟩ hR
  have hrecv : ∃ cellB : Cell, H[ad o 0]? = some cellB ∧ cellB.vm.isStatics = false ∧ s0.vm.findClass M.1.cls = some cellB.cls := by
    obtain ⟨c, hoc, hc0, q, hq, hq1⟩ := hoc
    obtain ⟨f, hf, hP⟩ := id hw
    obtain ⟨q0, -, he⟩ := zget hf (o := o) (k := 0) (zmem (by rw [hoc]; exact hc0))
    have he : (va_pl (zLL ad) f)[q0]? = some (ad o 0, .inr (c, zfs ad c o (s o))) := by rw [he]; simp only [zce, hoc]
    rw [← hq1]
    exact va_recv hKK.2.1 hP hq he
  have hrun := va_runV (Ts := WL) (nL := c0.maxLocals) (g := F0 m pc ls St) (rest := rest) (As := As) (cells := 0) (slots := 0) (locs := locs) (e := e) (below := below) (meth := meth) ⟨hx, hb, rfl, hown, hts⟩ hE cw ⟨zblind, hrecv, fun U hU hWm => ⟨rfl, zK_warm hWm (by rw [hU]; exact hS.2.1) hKK, by rw [hU]; exact hw⟩⟩ rfl hn hl.1 hst (by simpa using hW) dd ⟨Nat.le_refl _, Nat.le_refl _⟩
  intro T hT Xs
  obtain ⟨v, st0, t, T2, L, h0, X2, hL, e1, e2, ⟨⟨hv, hwt⟩, hz, hk⟩, st⟩ := hrun T hT Xs
  cases hv
  rw [h0] at hz hk
  obtain ⟨t2, a1, b1⟩ := k T2.heap (locs ++ L) ls (by rw [e1]; exact hwt)
    ⟨Nat.le_trans hS.1 (by rw [e1]; exact hz), fun q h1 h2 => by rw [e1, hk q (Nat.lt_of_lt_of_le h1 hS.1) h2]; exact hS.2.1 q h1 h2, fun q hq => by
      rcases List.mem_append.mp hq with h | h
      · exact hS.2.2 q h
      · exact hL q h⟩ hl T2 rfl X2
  exact ⟨t2, st t2 a1, b1⟩
theorem Z_callS (hC : Zok ad D ia C (d + 1) cc nL own ret) {M : ZM} {idx n : Nat} {As rest : List Value} {X1 : Option Value} {Y1 : ZS} (hE : Ev l ad D ia d M (As) s X1 Y1) (lk : zcS own idx M n) (hn : As.length = n) (hst : St = As.reverse ++ rest) (hW : (rest.map fun v => v.category).sum ≤ 8) (dd : decode cc pc = .ok (.invokestatic idx, 3)) (k : Z l ad D ia C X Y (pc + 3) V (X1.toList ++ rest) Y1) : Z l ad D ia C X Y pc V St s := by
  obtain ⟨p, e, R, s0, m, args, below, meth, c0⟩ := C
  obtain ⟨hx, hb, hml, hown, hts, hr, hlk, hR, hKK⟩ := hC
  intro H locs ls hw hS hl
  obtain ⟨hwd, hd, hm⟩ := lk
  subst hR
  have hR : (zrm d).frames + 1 ≤ (zrm (d + 1)).frames ∧ 8 + (M.2.2.1 + 11) + (zrm d).locals ≤ (zrm (d + 1)).locals := ⟨Nat.le_refl _, by simp only [zrm]; omega⟩
  have cw : CallB (zrm (d + 1)) s0 args own idx M.1 M.2.1 M.2.2.1 M.2.2.2 (.code M.1 M.2.1 M.2.2.1 M.2.2.2 :: WL) (zrm d) 0 0 n ∧ (Cond.static M.1).before args s0 = true := ⟨callB_of n hts (zgood hwd.2.2.2 (fun _ h => h)) rfl rfl rfl (hts _ hwd.2.2.1) (hts _ hwd.1) hd hR, hts _ hwd.2.1⟩
  have hrun := va_runS (Ts := WL) (nL := c0.maxLocals) (g := F0 m pc ls St) (rest := rest) (As := As) (cells := 0) (slots := 0) (locs := locs) (e := e) (below := below) (meth := meth) ⟨hx, hb, rfl, hown, hts⟩ hE cw ⟨zblind, fun U hU hWm => ⟨rfl, zK_warm hWm (by rw [hU]; exact hS.2.1) hKK, by rw [hU]; exact hw⟩⟩ rfl hn hl.1 hst (by simpa using hW) dd ⟨Nat.le_refl _, Nat.le_refl _⟩
  intro T hT Xs
  obtain ⟨v, st0, t, T2, L, h0, X2, hL, e1, e2, ⟨⟨hv, hwt⟩, hz, hk⟩, st⟩ := hrun T hT Xs
  cases hv
  rw [h0] at hz hk
  obtain ⟨t2, a1, b1⟩ := k T2.heap (locs ++ L) ls (by rw [e1]; exact hwt)
    ⟨Nat.le_trans hS.1 (by rw [e1]; exact hz), fun q h1 h2 => by rw [e1, hk q (Nat.lt_of_lt_of_le h1 hS.1) h2]; exact hS.2.1 q h1 h2, fun q hq => by
      rcases List.mem_append.mp hq with h | h
      · exact hS.2.2 q h
      · exact hL q h⟩ hl T2 rfl X2
  exact ⟨t2, st t2 a1, b1⟩
theorem Z_callN (hC : Zok ad D ia C (d + 1) cc nL own ret) {M : ZM} {idx n : Nat} {As rest : List Value} {X1 : Option Value} {Y1 : ZS} (hE : Ev l ad D ia d M (As) s X1 Y1) (lk : zcN own idx M n) (hn : As.length = n) (hst : St = As.reverse ++ rest) (hW : (rest.map fun v => v.category).sum ≤ 8) (dd : decode cc pc = .ok (.invokestatic idx, 3)) (k : Z l ad D ia C X Y (pc + 3) V (X1.toList ++ rest) Y1) : Z l ad D ia C X Y pc V St s := by
  obtain ⟨p, e, R, s0, m, args, below, meth, c0⟩ := C
  obtain ⟨hx, hb, hml, hown, hts, hr, hlk, hR, hKK⟩ := hC
  intro H locs ls hw hS hl
  obtain ⟨hwd, hd, hm⟩ := lk
  subst hR
  have hR : (zrm d).frames + 1 ≤ (zrm (d + 1)).frames ∧ 8 + (M.2.2.1 + 11) + (zrm d).locals ≤ (zrm (d + 1)).locals := ⟨Nat.le_refl _, by simp only [zrm]; omega⟩
  have cw := va_cnB (own := own) (index := idx) (args := args) (s := s0) (R := zrm (d + 1)) (rm := zrm d) (mc := 0) (ms := 0) (ws := .code M.1 M.2.1 M.2.2.1 M.2.2.2 :: WL) n hts (zgood hwd.2.2.2 (fun _ h => h)) rfl rfl rfl (hKK.2.2.1 _ hwd.1) (hts _ hwd.2.2.1) hd hR
  have cw := And.intro cw (And.intro (hts _ hwd.2.1) True.intro)
  have hrun := va_runSN (Ts := WL) (nL := c0.maxLocals) (g := F0 m pc ls St) (rest := rest) (As := As) (cells := 0) (slots := 0) (locs := locs) (e := e) (below := below) (meth := meth) ⟨hx, hb, rfl, hown, hts⟩ hE cw ⟨zblind, fun U hU hWm => ⟨rfl, zK_warm hWm (by rw [hU]; exact hS.2.1) hKK, by rw [hU]; exact hw⟩⟩ rfl hn hl.1 hst (by simpa using hW) dd ⟨Nat.le_refl _, Nat.le_refl _⟩
  intro T hT Xs
  obtain ⟨v, st0, t, T2, L, h0, X2, hL, e1, e2, ⟨⟨hv, hwt⟩, hz, hk⟩, st⟩ := hrun T hT Xs
  cases hv
  rw [h0] at hz hk
  obtain ⟨t2, a1, b1⟩ := k T2.heap (locs ++ L) ls (by rw [e1]; exact hwt)
    ⟨Nat.le_trans hS.1 (by rw [e1]; exact hz), fun q h1 h2 => by rw [e1, hk q (Nat.lt_of_lt_of_le h1 hS.1) h2]; exact hS.2.1 q h1 h2, fun q hq => by
      rcases List.mem_append.mp hq with h | h
      · exact hS.2.2 q h
      · exact hL q h⟩ hl T2 rfl X2
  exact ⟨t2, st t2 a1, b1⟩
theorem Ev.start {M : ZM} {av : List Value} (hy : plainName M.1.cls = true) (hlen : (lg_sl av).length ≤ M.2.2.1) (body : ∀ C : ZC, Zok ad D ia C d M.2.1 M.2.2.1 M.1.cls M.2.2.2 → Z l ad D ia C X Y 0 (lv_args 0 av) [] s) : Ev l ad D ia d M av s X Y := by
  refine Met.ofW (cc := M.2.1) (maxL := M.2.2.1) (ret := M.2.2.2) hy rfl ?_
  intro p e s0 m args below meth c s1 B hml hv
  obtain ⟨rfl, hKK, hw⟩ := hv
  have hts := atoms_spec (ws := .code M.1 M.2.1 M.2.2.1 M.2.2.2 :: WL) B.pre
  have hZ := body (p, e, zrm d, s0, m, av.toArray, below, meth, c) ⟨B.exec, B.bytes, hml, findClass_of_methodNamed B.named, fun w h => hts w (List.mem_cons_of_mem _ h), B.returns, B.notSynchronized, rfl, hKK⟩
  have hl := lv_entry av (n := M.2.2.1) hlen
  rw [lg_entry_eq]
  exact hZ s0.heap [] _ hw va_S.rf (by rw [hml]; exact hl)
end ZL
end
section
def stI (s : ZS) (o k : Nat) (x : Int32) : ZS := va_up s o (setI (s o) k x)
def stL (s : ZS) (o k : Nat) (x : Int64) : ZS := va_up s o (setL (s o) k x)
def stA (s : ZS) (o k i : Nat) (x : Int32) : ZS := va_up s o (setA (s o) k (upd ((s o).2.2 k) i x))
def stR (s : ZS) (o k : Nat) (f : Nat → Int32) : ZS := va_up s o (setA (s o) k f)
def rm32 (x y : Int32) : Int32 := x - x / y * y
def rm64 (x y : Int64) : Int64 := x - x / y * y
def mabs (x : Int32) : Int32 := if 0 ≤ x then x else 0 - x
def mmax (x y : Int32) : Int32 := if x < y then y else x
def mmin (x y : Int32) : Int32 := if y < x then y else x
def ushr (x y : Int32) : Int32 := (x.toUInt32 >>> (y.toUInt32 &&& Int32.toUInt32 31)).toInt32
theorem zs_0 : 0 ∈ zsub 0 := by decide
theorem zs_1 : 0 ∈ zsub 1 := by decide
theorem zs_2 : 0 ∈ zsub 2 := by decide
theorem zs_3 : 0 ∈ zsub 3 := by decide
theorem zs_4 : 0 ∈ zsub 4 := by decide
theorem zs_5 : 0 ∈ zsub 5 := by decide
theorem zs_6 : 0 ∈ zsub 6 := by decide
theorem zs_7 : 0 ∈ zsub 7 := by decide
theorem zs_8 : 0 ∈ zsub 8 := by decide
theorem zs_9 : 0 ∈ zsub 9 := by decide
section ZL
variable {l : Launch} {ad : ZA} {D : va_G} {ia : Nat → ClassId} {C : ZC} {X : Option Value} {Y : ZS} {d nL pc : Nat} {cc : ByteArray} {own : String} {ret : Option FieldType} {V : List (Nat × Value)} {St : List Value} {s : ZS}
theorem Z_pick {V2 : List (Nat × Value)} (ks : List Nat) (h : lv_pick V ks = V2) (k : Z l ad D ia C X Y pc V2 St s) : Z l ad D ia C X Y pc V St s := by
  obtain ⟨p, e, R, s0, m, args, below, meth, c0⟩ := C
  intro H locs ls hw hS hl
  exact k H locs ls hw hS (lv_sub hl ks h)
theorem Z_putI (hC : Zok ad D ia C d cc nL own ret) {o c k idx : Nat} {ty : FieldType} {x : Int32} (ho : zcls o = c) (hc0 : 0 ∈ zsub c) (pk : zpk own idx c k ty) (hn : narrow ty (.int x) = .int x) (hfit : fits ty (.int x) = true) (hh : k < (zfs ad c o (s o)).length ∧ (zfs ad c o (s o)).set k (.int x) = zfs ad c o (setI (s o) k x)) (dd : decode cc pc = .ok (.putfield idx, 3)) (kk : ∀ s1, s1 = stI s o k x → Z l ad D ia C X Y (pc + 3) V St s1) : Z l ad D ia C X Y pc V (.int x :: .ref (ad o 0) :: St) s :=
  Z_put hC ho hc0 pk hn hfit hh.2 rfl hh.1 dd (kk _ rfl)
theorem Z_putL (hC : Zok ad D ia C d cc nL own ret) {o c k idx : Nat} {ty : FieldType} {x : Int64} (ho : zcls o = c) (hc0 : 0 ∈ zsub c) (pk : zpk own idx c k ty) (hn : narrow ty (.long x) = .long x) (hfit : fits ty (.long x) = true) (hh : k < (zfs ad c o (s o)).length ∧ (zfs ad c o (s o)).set k (.long x) = zfs ad c o (setL (s o) k x)) (dd : decode cc pc = .ok (.putfield idx, 3)) (kk : ∀ s1, s1 = stL s o k x → Z l ad D ia C X Y (pc + 3) V St s1) : Z l ad D ia C X Y pc V (.long x :: .ref (ad o 0) :: St) s :=
  Z_put hC ho hc0 pk hn hfit hh.2 rfl hh.1 dd (kk _ rfl)
theorem Z_iast2 (hC : Zok ad D ia C d cc nL own ret) {o k n : Nat} {i x : Int32} (hI : zis o k 0 n) (hin : vp_in i n) (dd : decode cc pc = .ok (.iastore, 1)) (kk : ∀ s1, s1 = stA s o k i.toNatClampNeg x → Z l ad D ia C X Y (pc + 1) V St s1) : Z l ad D ia C X Y pc V (.int x :: .int i :: .ref (ad o (k + 1)) :: St) s :=
  Z_iast hC hI hin dd (kk _ rfl)
theorem Z_bast2 (hC : Zok ad D ia C d cc nL own ret) {o k n : Nat} {i x : Int32} (hI : zis o k 1 n) (hin : vp_in i n) (dd : decode cc pc = .ok (.bastore, 1)) (kk : ∀ s1, s1 = stA s o k i.toNatClampNeg (vp_nar .byte x) → Z l ad D ia C X Y (pc + 1) V St s1) : Z l ad D ia C X Y pc V (.int x :: .int i :: .ref (ad o (k + 1)) :: St) s :=
  Z_bast hC hI hin dd (kk _ rfl)
theorem Z_zast2 (hC : Zok ad D ia C d cc nL own ret) {o k n : Nat} {i x : Int32} (hI : zis o k 2 n) (hin : vp_in i n) (dd : decode cc pc = .ok (.bastore, 1)) (kk : ∀ s1, s1 = stA s o k i.toNatClampNeg (vp_nar .boolean x) → Z l ad D ia C X Y (pc + 1) V St s1) : Z l ad D ia C X Y pc V (.int x :: .int i :: .ref (ad o (k + 1)) :: St) s :=
  Z_zast hC hI hin dd (kk _ rfl)
theorem Z_irem2 (hC : Zok ad D ia C d cc nL own ret) {x y : Int32} (dd : decode cc pc = .ok (.irem, 1)) (hy : ¬ y = 0) (k : Z l ad D ia C X Y (pc + 1) V (.int (rm32 x y) :: St) s) : Z l ad D ia C X Y pc V (.int y :: .int x :: St) s := Z_irem hC dd hy k
theorem Z_lrem2 (hC : Zok ad D ia C d cc nL own ret) {x y : Int64} (dd : decode cc pc = .ok (.lrem, 1)) (hy : ¬ y = 0) (k : Z l ad D ia C X Y (pc + 1) V (.long (rm64 x y) :: St) s) : Z l ad D ia C X Y pc V (.long y :: .long x :: St) s := Z_lrem hC dd hy k
theorem Z_iushr2 (hC : Zok ad D ia C d cc nL own ret) {x y : Int32} (dd : decode cc pc = .ok (.iushr, 1)) (k : Z l ad D ia C X Y (pc + 1) V (.int (ushr x y) :: St) s) : Z l ad D ia C X Y pc V (.int y :: .int x :: St) s := Z_iushr hC dd k
theorem Z_aaldR (hC : Zok ad D ia C d cc nL own ret) {i : Int32} (hin : vp_in i 10) (dd : decode cc pc = .ok (.aaload, 1)) (kk : Z l ad D ia C X Y (pc + 1) V (.ref (ad 19 (10 + i.toNatClampNeg + 1)) :: St) s) : Z l ad D ia C X Y pc V (.int i :: .ref (ad 19 1) :: St) s := by
  obtain ⟨p, e, R, s0, m, args, below, meth, c0⟩ := C
  obtain ⟨hx, hb, hml, hown, hts, hr, hlk, hR, hKK⟩ := hC
  intro H locs ls hw hS hl
  obtain ⟨f, hf, hP⟩ := id hw
  obtain ⟨q0, -, he⟩ := zget hf (o := 19) (k := 1) (zmem (by decide))
  have he : (va_pl (zLL ad) f)[q0]? = some (ad 19 1, .inl (ia 5, 10, .inr (.inr (.inr (.inr (zrf ad 19 0)))))) := he
  have hlt : i.toNatClampNeg < 10 := Nat.not_le.mp fun q => hin (Or.inr q)
  have hk := kk H locs ls hw hS hl
  have e2 : va_rf (zrf ad 19 0 i.toNatClampNeg) = .ref (ad 19 (10 + i.toNatClampNeg + 1)) := rfl
  rw [← e2] at hk
  exact W.aald (v := va_rf (zrf ad 19 0 i.toNatClampNeg)) (ty := .array .int) hx hb (hP q0 _ he) ((hKK.2.1.2 5 (ia 5, .array .int) rfl).1 10 (fun j => va_rf (zrf ad 19 0 j))) rfl (fun q => by cases q) (by show ¬ (i < 0 ∨ (arrV _ _ _).slots.size ≤ _); rw [arrV_size]; exact hin) (by show (arrV _ _ _).slots[_]? = _; rw [arrV_read _ _ hlt]) rfl rfl dd hk
theorem Z_mabs (hC : Zok ad D ia C (d + 1) cc nL own ret) {idx : Nat} {x : Int32} (hl1 : Cond.methodLink own idx Lib.Math.abs.name ∈ WL) (hl2 : Cond.static Lib.Math.abs.name ∈ WL) (hl3 : Cond.initialized "java/lang/Math" ∈ WL) (hl4 : Cond.code Lib.Math.abs.name Lib.Math.abs.code 1 (some .int) ∈ WL) (hc : (St.map fun v => v.category).sum ≤ 8) (dd : decode cc pc = .ok (.invokestatic idx, 3)) (k : Z l ad D ia C X Y (pc + 3) V (.int (mabs x) :: St) s) : Z l ad D ia C X Y pc V (.int x :: St) s := by
  obtain ⟨p, e, R, s0, m, args, below, meth, c0⟩ := C
  obtain ⟨hx, hb, hml, hown, hts, hr, hlk, hR, hKK⟩ := hC
  intro H locs ls hw hS hl
  subst hR
  exact va_mabs hx hb hl.1.symm hown (hts _ hl1) (hts _ hl2) (hts _ hl3) (hts _ hl4) (Nat.succ_le_succ (Nat.zero_le d)) (by simp only [zrm]; omega) (Nat.zero_le _) (Nat.zero_le _) dd (k H locs ls hw hS hl)
theorem Z_mmax (hC : Zok ad D ia C (d + 1) cc nL own ret) {idx : Nat} {x y : Int32} (hl1 : Cond.methodLink own idx Lib.Math.max.name ∈ WL) (hl2 : Cond.static Lib.Math.max.name ∈ WL) (hl3 : Cond.initialized "java/lang/Math" ∈ WL) (hl4 : Cond.code Lib.Math.max.name Lib.Math.max.code 2 (some .int) ∈ WL) (hc : (St.map fun v => v.category).sum ≤ 8) (dd : decode cc pc = .ok (.invokestatic idx, 3)) (k : Z l ad D ia C X Y (pc + 3) V (.int (mmax x y) :: St) s) : Z l ad D ia C X Y pc V (.int y :: .int x :: St) s := by
  obtain ⟨p, e, R, s0, m, args, below, meth, c0⟩ := C
  obtain ⟨hx, hb, hml, hown, hts, hr, hlk, hR, hKK⟩ := hC
  intro H locs ls hw hS hl
  subst hR
  exact va_mmax hx hb hl.1.symm hown (hts _ hl1) (hts _ hl2) (hts _ hl3) (hts _ hl4) (Nat.succ_le_succ (Nat.zero_le d)) (by simp only [zrm]; omega) (Nat.zero_le _) (Nat.zero_le _) dd (k H locs ls hw hS hl)
theorem Z_mmin (hC : Zok ad D ia C (d + 1) cc nL own ret) {idx : Nat} {x y : Int32} (hl1 : Cond.methodLink own idx Lib.Math.min.name ∈ WL) (hl2 : Cond.static Lib.Math.min.name ∈ WL) (hl3 : Cond.initialized "java/lang/Math" ∈ WL) (hl4 : Cond.code Lib.Math.min.name Lib.Math.min.code 2 (some .int) ∈ WL) (hc : (St.map fun v => v.category).sum ≤ 8) (dd : decode cc pc = .ok (.invokestatic idx, 3)) (k : Z l ad D ia C X Y (pc + 3) V (.int (mmin x y) :: St) s) : Z l ad D ia C X Y pc V (.int y :: .int x :: St) s := by
  obtain ⟨p, e, R, s0, m, args, below, meth, c0⟩ := C
  obtain ⟨hx, hb, hml, hown, hts, hr, hlk, hR, hKK⟩ := hC
  intro H locs ls hw hS hl
  subst hR
  exact va_mmin hx hb hl.1.symm hown (hts _ hl1) (hts _ hl2) (hts _ hl3) (hts _ hl4) (Nat.succ_le_succ (Nat.zero_le d)) (by simp only [zrm]; omega) (Nat.zero_le _) (Nat.zero_le _) dd (k H locs ls hw hS hl)
theorem Z_copy (hC : Zok ad D ia C (d + 1) cc nL own ret) {idx o0 k0 n0 o1 k1 n1 : Nat} {sp dp n : Int32} (hl1 : Cond.methodLink own idx arraycopyName ∈ WL) (hl2 : Cond.native arraycopyName ∈ WL) (hl3 : Cond.static arraycopyName ∈ WL) (hl4 : Cond.initialized "java/lang/System" ∈ WL) (hI0 : zis o0 k0 0 n0) (hI1 : zis o1 k1 0 n1) (h1 : ¬ sp < 0) (h2 : ¬ dp < 0) (h3 : ¬ n < 0) (h4 : sp.toNatClampNeg + n.toNatClampNeg ≤ n0) (h5 : dp.toNatClampNeg + n.toNatClampNeg ≤ n1) (hc : (St.map fun v => v.category).sum ≤ 8) (dd : decode cc pc = .ok (.invokestatic idx, 3))
    (kk : ∀ s1, s1 = stR s o1 k1 (va_cpy ((s o0).2.2 k0) ((s o1).2.2 k1) sp.toNatClampNeg dp.toNatClampNeg n.toNatClampNeg) → Z l ad D ia C X Y (pc + 3) V St s1) : Z l ad D ia C X Y pc V (.int n :: .int dp :: .ref (ad o1 (k1 + 1)) :: .int sp :: .ref (ad o0 (k0 + 1)) :: St) s := by
  obtain ⟨p, e, R, s0, m, args, below, meth, c0⟩ := C
  obtain ⟨hx, hb, hml, hown, hts, hr, hlk, hR, hKK⟩ := hC
  intro H locs ls hw hS hl
  subst hR
  obtain ⟨f, hf, hP⟩ := id hw
  obtain ⟨a1, a2, a3⟩ := hI0
  obtain ⟨b1, b2, b3⟩ := hI1
  obtain ⟨q0, hz0, he0⟩ := zget hf (zmem a1)
  obtain ⟨q1, hz1, he1⟩ := zget hf (zmem b1)
  have he0 : (va_pl (zLL ad) f)[q0]? = some (ad o0 (k0 + 1), .inl (ia 0, n0, .inl ((s o0).2.2 k0))) := by rw [he0]; simp [zce, zrow, a2, a3]
  have he1 : (va_pl (zLL ad) f)[q1]? = some (ad o1 (k1 + 1), .inl (ia 0, n1, .inl ((s o1).2.2 k1))) := by rw [he1]; simp [zce, zrow, b2, b3]
  have e9 : nativeFrameWords "java/lang/System" "arraycopy" 5 + 11 ≤ 30 := by decide +kernel
  refine va_copyi hx hb hl.1.symm hown (hts _ hl1) (hts _ hl2) (hts _ hl3) (hts _ hl4) hKK.2.1 hP (zD hKK.1) hS q0 q1 0 0 he0 he1 rfl rfl rfl h1 h2 h3 h4 h5 (fun _ _ => rfl) (Nat.succ_le_succ (Nat.zero_le d)) (by simp only [zrm]; omega) dd (fun H1 locs1 hP1 hD1 hS1 => kk _ rfl H1 locs1 ls ?_ hS1 hl)
  refine zset hKK.1 hf (zmem b1) hz1 ?_ ?_
  · have e2 : zce ad ia (stR s o1 k1 (va_cpy ((s o0).2.2 k0) ((s o1).2.2 k1) sp.toNatClampNeg dp.toNatClampNeg n.toNatClampNeg)) o1 (k1 + 1) = .inl (ia 0, n1, .inl (va_cpy ((s o0).2.2 k0) ((s o1).2.2 k1) sp.toNatClampNeg dp.toNatClampNeg n.toNatClampNeg)) := by simp [zce, zrow, stR, va_up, setA, b2, b3]
    rw [e2]
    exact hP1
  · exact zsetA_ne
end ZL
end
