section
-- ===== PART A: goes FIRST, ahead of the names: the tables' words, and 'selects' of the private methods out of them =====
/-- a private method of a class that the tables say can be made, by its rows of tables_1 -/
def lw_okq (q : MethodName × Nat) : Prop := (q.1.cls ≠ "java/lang/invoke/MethodHandle" ∧ q.1.cls ≠ "java/lang/invoke/VarHandle") ∧ Cond.instantiable q.1.cls q.2 ∈ tables_1 ∧ Cond.privateMethod q.1 ∈ tables_1 ∧ Cond.instanceMethod q.1 ∈ tables_1
theorem lw_p0 : lw_okq (⟨"UpperSteps$Parser", "takeToken", "()V"⟩, 6) := ⟨⟨by decide +kernel, by decide +kernel⟩, List.mem_of_getElem? (i := 102) (by decide +kernel), List.mem_of_getElem? (i := 325) (by decide +kernel), List.mem_of_getElem? (i := 326) (by decide +kernel)⟩
theorem lw_p1 : lw_okq (⟨"UpperSteps$Parser", "refuse", "(II)V"⟩, 6) := ⟨⟨by decide +kernel, by decide +kernel⟩, List.mem_of_getElem? (i := 102) (by decide +kernel), List.mem_of_getElem? (i := 336) (by decide +kernel), List.mem_of_getElem? (i := 337) (by decide +kernel)⟩
theorem lw_p2 : lw_okq (⟨"UpperSteps$Parser", "parseBook", "()V"⟩, 6) := ⟨⟨by decide +kernel, by decide +kernel⟩, List.mem_of_getElem? (i := 102) (by decide +kernel), List.mem_of_getElem? (i := 401) (by decide +kernel), List.mem_of_getElem? (i := 402) (by decide +kernel)⟩
theorem lw_p3 : lw_okq (⟨"UpperSteps$Parser", "takeNumber", "(II)I"⟩, 6) := ⟨⟨by decide +kernel, by decide +kernel⟩, List.mem_of_getElem? (i := 102) (by decide +kernel), List.mem_of_getElem? (i := 405) (by decide +kernel), List.mem_of_getElem? (i := 406) (by decide +kernel)⟩
theorem lw_p4 : lw_okq (⟨"UpperSteps$Parser", "bookTold", "(I)I"⟩, 6) := ⟨⟨by decide +kernel, by decide +kernel⟩, List.mem_of_getElem? (i := 102) (by decide +kernel), List.mem_of_getElem? (i := 414) (by decide +kernel), List.mem_of_getElem? (i := 415) (by decide +kernel)⟩
theorem lw_p5 : lw_okq (⟨"UpperSteps$Parser", "takeStop", "()V"⟩, 6) := ⟨⟨by decide +kernel, by decide +kernel⟩, List.mem_of_getElem? (i := 102) (by decide +kernel), List.mem_of_getElem? (i := 418) (by decide +kernel), List.mem_of_getElem? (i := 419) (by decide +kernel)⟩
theorem lw_p6 : lw_okq (⟨"UpperSteps$Parser", "parseReader", "(I)V"⟩, 6) := ⟨⟨by decide +kernel, by decide +kernel⟩, List.mem_of_getElem? (i := 102) (by decide +kernel), List.mem_of_getElem? (i := 427) (by decide +kernel), List.mem_of_getElem? (i := 428) (by decide +kernel)⟩
theorem lw_p7 : lw_okq (⟨"UpperSteps$Parser", "parseSteps", "()V"⟩, 6) := ⟨⟨by decide +kernel, by decide +kernel⟩, List.mem_of_getElem? (i := 102) (by decide +kernel), List.mem_of_getElem? (i := 439) (by decide +kernel), List.mem_of_getElem? (i := 440) (by decide +kernel)⟩
theorem lw_p8 : lw_okq (⟨"UpperSteps$Parser", "namesMissingBook", "()Z"⟩, 6) := ⟨⟨by decide +kernel, by decide +kernel⟩, List.mem_of_getElem? (i := 102) (by decide +kernel), List.mem_of_getElem? (i := 447) (by decide +kernel), List.mem_of_getElem? (i := 448) (by decide +kernel)⟩
theorem lw_p9 : lw_okq (⟨"UpperSteps", "beginTrial", "()V"⟩, 12) := ⟨⟨by decide +kernel, by decide +kernel⟩, List.mem_of_getElem? (i := 19) (by decide +kernel), List.mem_of_getElem? (i := 564) (by decide +kernel), List.mem_of_getElem? (i := 565) (by decide +kernel)⟩
theorem lw_p10 : lw_okq (⟨"UpperSteps", "daysTillAllDone", "(I)I"⟩, 12) := ⟨⟨by decide +kernel, by decide +kernel⟩, List.mem_of_getElem? (i := 19) (by decide +kernel), List.mem_of_getElem? (i := 586) (by decide +kernel), List.mem_of_getElem? (i := 587) (by decide +kernel)⟩
theorem lw_p11 : lw_okq (⟨"UpperSteps", "trialMinutes", "()I"⟩, 12) := ⟨⟨by decide +kernel, by decide +kernel⟩, List.mem_of_getElem? (i := 19) (by decide +kernel), List.mem_of_getElem? (i := 591) (by decide +kernel), List.mem_of_getElem? (i := 592) (by decide +kernel)⟩
theorem lw_p12 : lw_okq (⟨"UpperSteps", "findOrder", "()I"⟩, 12) := ⟨⟨by decide +kernel, by decide +kernel⟩, List.mem_of_getElem? (i := 19) (by decide +kernel), List.mem_of_getElem? (i := 620) (by decide +kernel), List.mem_of_getElem? (i := 621) (by decide +kernel)⟩
theorem lw_p13 : lw_okq (⟨"UpperSteps$Sightings", "lastBehind", "()I"⟩, 4) := ⟨⟨by decide +kernel, by decide +kernel⟩, List.mem_of_getElem? (i := 162) (by decide +kernel), List.mem_of_getElem? (i := 715) (by decide +kernel), List.mem_of_getElem? (i := 716) (by decide +kernel)⟩
theorem lw_p14 : lw_okq (⟨"UpperSteps", "heightsAsSeen", "(I)I"⟩, 12) := ⟨⟨by decide +kernel, by decide +kernel⟩, List.mem_of_getElem? (i := 19) (by decide +kernel), List.mem_of_getElem? (i := 725) (by decide +kernel), List.mem_of_getElem? (i := 726) (by decide +kernel)⟩
theorem lw_p15 : lw_okq (⟨"UpperSteps", "imagesTaken", "()I"⟩, 12) := ⟨⟨by decide +kernel, by decide +kernel⟩, List.mem_of_getElem? (i := 19) (by decide +kernel), List.mem_of_getElem? (i := 804) (by decide +kernel), List.mem_of_getElem? (i := 805) (by decide +kernel)⟩
def lw_privs_1 : List (MethodName × Nat) := [(⟨"UpperSteps$Parser", "takeToken", "()V"⟩, 6), (⟨"UpperSteps$Parser", "refuse", "(II)V"⟩, 6), (⟨"UpperSteps$Parser", "parseBook", "()V"⟩, 6), (⟨"UpperSteps$Parser", "takeNumber", "(II)I"⟩, 6), (⟨"UpperSteps$Parser", "bookTold", "(I)I"⟩, 6), (⟨"UpperSteps$Parser", "takeStop", "()V"⟩, 6), (⟨"UpperSteps$Parser", "parseReader", "(I)V"⟩, 6), (⟨"UpperSteps$Parser", "parseSteps", "()V"⟩, 6), (⟨"UpperSteps$Parser", "namesMissingBook", "()Z"⟩, 6), (⟨"UpperSteps", "beginTrial", "()V"⟩, 12), (⟨"UpperSteps", "daysTillAllDone", "(I)I"⟩, 12), (⟨"UpperSteps", "trialMinutes", "()I"⟩, 12), (⟨"UpperSteps", "findOrder", "()I"⟩, 12), (⟨"UpperSteps$Sightings", "lastBehind", "()I"⟩, 4), (⟨"UpperSteps", "heightsAsSeen", "(I)I"⟩, 12), (⟨"UpperSteps", "imagesTaken", "()I"⟩, 12)]
theorem lw_r1 : ∀ q ∈ lw_privs_1, lw_okq q := List.forall_mem_cons.mpr ⟨lw_p0, List.forall_mem_cons.mpr ⟨lw_p1, List.forall_mem_cons.mpr ⟨lw_p2, List.forall_mem_cons.mpr ⟨lw_p3, List.forall_mem_cons.mpr ⟨lw_p4, List.forall_mem_cons.mpr ⟨lw_p5, List.forall_mem_cons.mpr ⟨lw_p6, List.forall_mem_cons.mpr ⟨lw_p7, List.forall_mem_cons.mpr ⟨lw_p8, List.forall_mem_cons.mpr ⟨lw_p9, List.forall_mem_cons.mpr ⟨lw_p10, List.forall_mem_cons.mpr ⟨lw_p11, List.forall_mem_cons.mpr ⟨lw_p12, List.forall_mem_cons.mpr ⟨lw_p13, List.forall_mem_cons.mpr ⟨lw_p14, List.forall_mem_cons.mpr ⟨lw_p15, fun _ h => absurd h List.not_mem_nil⟩⟩⟩⟩⟩⟩⟩⟩⟩⟩⟩⟩⟩⟩⟩⟩
theorem lw_p16 : lw_okq (⟨"UpperStepsModel", "firstDraft", "()V"⟩, 34) := ⟨⟨by decide +kernel, by decide +kernel⟩, List.mem_of_getElem? (i := 811) (by decide +kernel), List.mem_of_getElem? (i := 817) (by decide +kernel), List.mem_of_getElem? (i := 818) (by decide +kernel)⟩
theorem lw_p17 : lw_okq (⟨"UpperStepsModel", "keepDraft", "()V"⟩, 34) := ⟨⟨by decide +kernel, by decide +kernel⟩, List.mem_of_getElem? (i := 811) (by decide +kernel), List.mem_of_getElem? (i := 821) (by decide +kernel), List.mem_of_getElem? (i := 822) (by decide +kernel)⟩
theorem lw_p18 : lw_okq (⟨"UpperStepsModel", "takes", "()V"⟩, 34) := ⟨⟨by decide +kernel, by decide +kernel⟩, List.mem_of_getElem? (i := 811) (by decide +kernel), List.mem_of_getElem? (i := 945) (by decide +kernel), List.mem_of_getElem? (i := 946) (by decide +kernel)⟩
theorem lw_p19 : lw_okq (⟨"UpperStepsModel", "byteAt", "(I)I"⟩, 34) := ⟨⟨by decide +kernel, by decide +kernel⟩, List.mem_of_getElem? (i := 811) (by decide +kernel), List.mem_of_getElem? (i := 949) (by decide +kernel), List.mem_of_getElem? (i := 950) (by decide +kernel)⟩
theorem lw_p20 : lw_okq (⟨"UpperStepsModel", "needs", "(ZI)V"⟩, 34) := ⟨⟨by decide +kernel, by decide +kernel⟩, List.mem_of_getElem? (i := 811) (by decide +kernel), List.mem_of_getElem? (i := 957) (by decide +kernel), List.mem_of_getElem? (i := 958) (by decide +kernel)⟩
theorem lw_p21 : lw_okq (⟨"UpperStepsModel", "readLine", "()V"⟩, 34) := ⟨⟨by decide +kernel, by decide +kernel⟩, List.mem_of_getElem? (i := 811) (by decide +kernel), List.mem_of_getElem? (i := 961) (by decide +kernel), List.mem_of_getElem? (i := 962) (by decide +kernel)⟩
theorem lw_p22 : lw_okq (⟨"UpperStepsModel", "lineNow", "()I"⟩, 34) := ⟨⟨by decide +kernel, by decide +kernel⟩, List.mem_of_getElem? (i := 811) (by decide +kernel), List.mem_of_getElem? (i := 965) (by decide +kernel), List.mem_of_getElem? (i := 966) (by decide +kernel)⟩
theorem lw_p23 : lw_okq (⟨"UpperStepsModel", "is", "(IIIII)Z"⟩, 34) := ⟨⟨by decide +kernel, by decide +kernel⟩, List.mem_of_getElem? (i := 811) (by decide +kernel), List.mem_of_getElem? (i := 969) (by decide +kernel), List.mem_of_getElem? (i := 970) (by decide +kernel)⟩
theorem lw_p24 : lw_okq (⟨"UpperStepsModel", "ends", "(II)Z"⟩, 34) := ⟨⟨by decide +kernel, by decide +kernel⟩, List.mem_of_getElem? (i := 811) (by decide +kernel), List.mem_of_getElem? (i := 973) (by decide +kernel), List.mem_of_getElem? (i := 974) (by decide +kernel)⟩
theorem lw_p25 : lw_okq (⟨"UpperStepsModel", "readLineOf", "(I)V"⟩, 34) := ⟨⟨by decide +kernel, by decide +kernel⟩, List.mem_of_getElem? (i := 811) (by decide +kernel), List.mem_of_getElem? (i := 977) (by decide +kernel), List.mem_of_getElem? (i := 978) (by decide +kernel)⟩
theorem lw_p26 : lw_okq (⟨"UpperStepsModel", "readNumber", "(II)I"⟩, 34) := ⟨⟨by decide +kernel, by decide +kernel⟩, List.mem_of_getElem? (i := 811) (by decide +kernel), List.mem_of_getElem? (i := 981) (by decide +kernel), List.mem_of_getElem? (i := 982) (by decide +kernel)⟩
theorem lw_p27 : lw_okq (⟨"UpperStepsModel", "looked", "(II)I"⟩, 34) := ⟨⟨by decide +kernel, by decide +kernel⟩, List.mem_of_getElem? (i := 811) (by decide +kernel), List.mem_of_getElem? (i := 985) (by decide +kernel), List.mem_of_getElem? (i := 986) (by decide +kernel)⟩
theorem lw_p28 : lw_okq (⟨"UpperStepsModel", "readBook", "()I"⟩, 34) := ⟨⟨by decide +kernel, by decide +kernel⟩, List.mem_of_getElem? (i := 811) (by decide +kernel), List.mem_of_getElem? (i := 989) (by decide +kernel), List.mem_of_getElem? (i := 990) (by decide +kernel)⟩
theorem lw_p29 : lw_okq (⟨"UpperStepsModel", "starts", "()V"⟩, 34) := ⟨⟨by decide +kernel, by decide +kernel⟩, List.mem_of_getElem? (i := 811) (by decide +kernel), List.mem_of_getElem? (i := 1001) (by decide +kernel), List.mem_of_getElem? (i := 1002) (by decide +kernel)⟩
theorem lw_p30 : lw_okq (⟨"UpperStepsModel", "doneNow", "()I"⟩, 34) := ⟨⟨by decide +kernel, by decide +kernel⟩, List.mem_of_getElem? (i := 811) (by decide +kernel), List.mem_of_getElem? (i := 1005) (by decide +kernel), List.mem_of_getElem? (i := 1006) (by decide +kernel)⟩
theorem lw_p31 : lw_okq (⟨"UpperStepsModel", "ofReader", "(II)I"⟩, 34) := ⟨⟨by decide +kernel, by decide +kernel⟩, List.mem_of_getElem? (i := 811) (by decide +kernel), List.mem_of_getElem? (i := 1009) (by decide +kernel), List.mem_of_getElem? (i := 1010) (by decide +kernel)⟩
def lw_privs_2 : List (MethodName × Nat) := [(⟨"UpperStepsModel", "firstDraft", "()V"⟩, 34), (⟨"UpperStepsModel", "keepDraft", "()V"⟩, 34), (⟨"UpperStepsModel", "takes", "()V"⟩, 34), (⟨"UpperStepsModel", "byteAt", "(I)I"⟩, 34), (⟨"UpperStepsModel", "needs", "(ZI)V"⟩, 34), (⟨"UpperStepsModel", "readLine", "()V"⟩, 34), (⟨"UpperStepsModel", "lineNow", "()I"⟩, 34), (⟨"UpperStepsModel", "is", "(IIIII)Z"⟩, 34), (⟨"UpperStepsModel", "ends", "(II)Z"⟩, 34), (⟨"UpperStepsModel", "readLineOf", "(I)V"⟩, 34), (⟨"UpperStepsModel", "readNumber", "(II)I"⟩, 34), (⟨"UpperStepsModel", "looked", "(II)I"⟩, 34), (⟨"UpperStepsModel", "readBook", "()I"⟩, 34), (⟨"UpperStepsModel", "starts", "()V"⟩, 34), (⟨"UpperStepsModel", "doneNow", "()I"⟩, 34), (⟨"UpperStepsModel", "ofReader", "(II)I"⟩, 34)]
theorem lw_r2 : ∀ q ∈ lw_privs_2, lw_okq q := List.forall_mem_cons.mpr ⟨lw_p16, List.forall_mem_cons.mpr ⟨lw_p17, List.forall_mem_cons.mpr ⟨lw_p18, List.forall_mem_cons.mpr ⟨lw_p19, List.forall_mem_cons.mpr ⟨lw_p20, List.forall_mem_cons.mpr ⟨lw_p21, List.forall_mem_cons.mpr ⟨lw_p22, List.forall_mem_cons.mpr ⟨lw_p23, List.forall_mem_cons.mpr ⟨lw_p24, List.forall_mem_cons.mpr ⟨lw_p25, List.forall_mem_cons.mpr ⟨lw_p26, List.forall_mem_cons.mpr ⟨lw_p27, List.forall_mem_cons.mpr ⟨lw_p28, List.forall_mem_cons.mpr ⟨lw_p29, List.forall_mem_cons.mpr ⟨lw_p30, List.forall_mem_cons.mpr ⟨lw_p31, fun _ h => absurd h List.not_mem_nil⟩⟩⟩⟩⟩⟩⟩⟩⟩⟩⟩⟩⟩⟩⟩⟩
theorem lw_p32 : lw_okq (⟨"UpperStepsModel", "isBook", "(I)Z"⟩, 34) := ⟨⟨by decide +kernel, by decide +kernel⟩, List.mem_of_getElem? (i := 811) (by decide +kernel), List.mem_of_getElem? (i := 1020) (by decide +kernel), List.mem_of_getElem? (i := 1021) (by decide +kernel)⟩
theorem lw_p33 : lw_okq (⟨"UpperStepsModel", "had", "(II)Z"⟩, 34) := ⟨⟨by decide +kernel, by decide +kernel⟩, List.mem_of_getElem? (i := 811) (by decide +kernel), List.mem_of_getElem? (i := 1025) (by decide +kernel), List.mem_of_getElem? (i := 1026) (by decide +kernel)⟩
theorem lw_p34 : lw_okq (⟨"UpperStepsModel", "of", "(II)I"⟩, 34) := ⟨⟨by decide +kernel, by decide +kernel⟩, List.mem_of_getElem? (i := 811) (by decide +kernel), List.mem_of_getElem? (i := 1029) (by decide +kernel), List.mem_of_getElem? (i := 1030) (by decide +kernel)⟩
theorem lw_p35 : lw_okq (⟨"UpperStepsModel", "isReader", "(I)Z"⟩, 34) := ⟨⟨by decide +kernel, by decide +kernel⟩, List.mem_of_getElem? (i := 811) (by decide +kernel), List.mem_of_getElem? (i := 1037) (by decide +kernel), List.mem_of_getElem? (i := 1038) (by decide +kernel)⟩
theorem lw_p36 : lw_okq (⟨"UpperStepsModel", "minutesOf", "(II)I"⟩, 34) := ⟨⟨by decide +kernel, by decide +kernel⟩, List.mem_of_getElem? (i := 811) (by decide +kernel), List.mem_of_getElem? (i := 1042) (by decide +kernel), List.mem_of_getElem? (i := 1043) (by decide +kernel)⟩
theorem lw_p37 : lw_okq (⟨"UpperStepsModel", "isBookOrNone", "(I)Z"⟩, 34) := ⟨⟨by decide +kernel, by decide +kernel⟩, List.mem_of_getElem? (i := 811) (by decide +kernel), List.mem_of_getElem? (i := 1061) (by decide +kernel), List.mem_of_getElem? (i := 1062) (by decide +kernel)⟩
theorem lw_p38 : lw_okq (⟨"UpperStepsModel", "becomes", "(II)I"⟩, 34) := ⟨⟨by decide +kernel, by decide +kernel⟩, List.mem_of_getElem? (i := 811) (by decide +kernel), List.mem_of_getElem? (i := 1068) (by decide +kernel), List.mem_of_getElem? (i := 1069) (by decide +kernel)⟩
theorem lw_p39 : lw_okq (⟨"UpperStepsModel", "startsCounting", "()V"⟩, 34) := ⟨⟨by decide +kernel, by decide +kernel⟩, List.mem_of_getElem? (i := 811) (by decide +kernel), List.mem_of_getElem? (i := 1092) (by decide +kernel), List.mem_of_getElem? (i := 1093) (by decide +kernel)⟩
theorem lw_p40 : lw_okq (⟨"UpperStepsModel", "fetches", "(II)V"⟩, 34) := ⟨⟨by decide +kernel, by decide +kernel⟩, List.mem_of_getElem? (i := 811) (by decide +kernel), List.mem_of_getElem? (i := 1096) (by decide +kernel), List.mem_of_getElem? (i := 1097) (by decide +kernel)⟩
theorem lw_p41 : lw_okq (⟨"UpperStepsModel", "becomesOf", "(III)V"⟩, 34) := ⟨⟨by decide +kernel, by decide +kernel⟩, List.mem_of_getElem? (i := 811) (by decide +kernel), List.mem_of_getElem? (i := 1100) (by decide +kernel), List.mem_of_getElem? (i := 1101) (by decide +kernel)⟩
theorem lw_p42 : lw_okq (⟨"UpperStepsModel", "settles", "()V"⟩, 34) := ⟨⟨by decide +kernel, by decide +kernel⟩, List.mem_of_getElem? (i := 811) (by decide +kernel), List.mem_of_getElem? (i := 1104) (by decide +kernel), List.mem_of_getElem? (i := 1105) (by decide +kernel)⟩
theorem lw_p43 : lw_okq (⟨"UpperStepsModel", "daysGo", "(I)V"⟩, 34) := ⟨⟨by decide +kernel, by decide +kernel⟩, List.mem_of_getElem? (i := 811) (by decide +kernel), List.mem_of_getElem? (i := 1113) (by decide +kernel), List.mem_of_getElem? (i := 1114) (by decide +kernel)⟩
theorem lw_p44 : lw_okq (⟨"UpperStepsModel", "dayGoes", "()V"⟩, 34) := ⟨⟨by decide +kernel, by decide +kernel⟩, List.mem_of_getElem? (i := 811) (by decide +kernel), List.mem_of_getElem? (i := 1117) (by decide +kernel), List.mem_of_getElem? (i := 1118) (by decide +kernel)⟩
theorem lw_p45 : lw_okq (⟨"UpperStepsModel", "readerGoes", "(I)V"⟩, 34) := ⟨⟨by decide +kernel, by decide +kernel⟩, List.mem_of_getElem? (i := 811) (by decide +kernel), List.mem_of_getElem? (i := 1121) (by decide +kernel), List.mem_of_getElem? (i := 1122) (by decide +kernel)⟩
theorem lw_p46 : lw_okq (⟨"UpperStepsModel", "daysTo", "(I)I"⟩, 34) := ⟨⟨by decide +kernel, by decide +kernel⟩, List.mem_of_getElem? (i := 811) (by decide +kernel), List.mem_of_getElem? (i := 1144) (by decide +kernel), List.mem_of_getElem? (i := 1145) (by decide +kernel)⟩
theorem lw_p47 : lw_okq (⟨"UpperStepsModel", "findOrder", "()I"⟩, 34) := ⟨⟨by decide +kernel, by decide +kernel⟩, List.mem_of_getElem? (i := 811) (by decide +kernel), List.mem_of_getElem? (i := 1156) (by decide +kernel), List.mem_of_getElem? (i := 1157) (by decide +kernel)⟩
def lw_privs_3 : List (MethodName × Nat) := [(⟨"UpperStepsModel", "isBook", "(I)Z"⟩, 34), (⟨"UpperStepsModel", "had", "(II)Z"⟩, 34), (⟨"UpperStepsModel", "of", "(II)I"⟩, 34), (⟨"UpperStepsModel", "isReader", "(I)Z"⟩, 34), (⟨"UpperStepsModel", "minutesOf", "(II)I"⟩, 34), (⟨"UpperStepsModel", "isBookOrNone", "(I)Z"⟩, 34), (⟨"UpperStepsModel", "becomes", "(II)I"⟩, 34), (⟨"UpperStepsModel", "startsCounting", "()V"⟩, 34), (⟨"UpperStepsModel", "fetches", "(II)V"⟩, 34), (⟨"UpperStepsModel", "becomesOf", "(III)V"⟩, 34), (⟨"UpperStepsModel", "settles", "()V"⟩, 34), (⟨"UpperStepsModel", "daysGo", "(I)V"⟩, 34), (⟨"UpperStepsModel", "dayGoes", "()V"⟩, 34), (⟨"UpperStepsModel", "readerGoes", "(I)V"⟩, 34), (⟨"UpperStepsModel", "daysTo", "(I)I"⟩, 34), (⟨"UpperStepsModel", "findOrder", "()I"⟩, 34)]
theorem lw_r3 : ∀ q ∈ lw_privs_3, lw_okq q := List.forall_mem_cons.mpr ⟨lw_p32, List.forall_mem_cons.mpr ⟨lw_p33, List.forall_mem_cons.mpr ⟨lw_p34, List.forall_mem_cons.mpr ⟨lw_p35, List.forall_mem_cons.mpr ⟨lw_p36, List.forall_mem_cons.mpr ⟨lw_p37, List.forall_mem_cons.mpr ⟨lw_p38, List.forall_mem_cons.mpr ⟨lw_p39, List.forall_mem_cons.mpr ⟨lw_p40, List.forall_mem_cons.mpr ⟨lw_p41, List.forall_mem_cons.mpr ⟨lw_p42, List.forall_mem_cons.mpr ⟨lw_p43, List.forall_mem_cons.mpr ⟨lw_p44, List.forall_mem_cons.mpr ⟨lw_p45, List.forall_mem_cons.mpr ⟨lw_p46, List.forall_mem_cons.mpr ⟨lw_p47, fun _ h => absurd h List.not_mem_nil⟩⟩⟩⟩⟩⟩⟩⟩⟩⟩⟩⟩⟩⟩⟩⟩
theorem lw_p48 : lw_okq (⟨"UpperStepsModel", "isRow", "(I)Z"⟩, 34) := ⟨⟨by decide +kernel, by decide +kernel⟩, List.mem_of_getElem? (i := 811) (by decide +kernel), List.mem_of_getElem? (i := 1161) (by decide +kernel), List.mem_of_getElem? (i := 1162) (by decide +kernel)⟩
theorem lw_p49 : lw_okq (⟨"UpperStepsModel", "minutesByRow", "()I"⟩, 34) := ⟨⟨by decide +kernel, by decide +kernel⟩, List.mem_of_getElem? (i := 811) (by decide +kernel), List.mem_of_getElem? (i := 1165) (by decide +kernel), List.mem_of_getElem? (i := 1166) (by decide +kernel)⟩
theorem lw_p50 : lw_okq (⟨"UpperStepsModel", "findOdds", "(III)V"⟩, 34) := ⟨⟨by decide +kernel, by decide +kernel⟩, List.mem_of_getElem? (i := 811) (by decide +kernel), List.mem_of_getElem? (i := 1200) (by decide +kernel), List.mem_of_getElem? (i := 1201) (by decide +kernel)⟩
theorem lw_p51 : lw_okq (⟨"UpperStepsModel", "isSoWith", "(II)Z"⟩, 34) := ⟨⟨by decide +kernel, by decide +kernel⟩, List.mem_of_getElem? (i := 811) (by decide +kernel), List.mem_of_getElem? (i := 1227) (by decide +kernel), List.mem_of_getElem? (i := 1228) (by decide +kernel)⟩
theorem lw_p52 : lw_okq (⟨"UpperStepsModel", "copies", "(II)V"⟩, 34) := ⟨⟨by decide +kernel, by decide +kernel⟩, List.mem_of_getElem? (i := 811) (by decide +kernel), List.mem_of_getElem? (i := 1248) (by decide +kernel), List.mem_of_getElem? (i := 1249) (by decide +kernel)⟩
def lw_privs_4 : List (MethodName × Nat) := [(⟨"UpperStepsModel", "isRow", "(I)Z"⟩, 34), (⟨"UpperStepsModel", "minutesByRow", "()I"⟩, 34), (⟨"UpperStepsModel", "findOdds", "(III)V"⟩, 34), (⟨"UpperStepsModel", "isSoWith", "(II)Z"⟩, 34), (⟨"UpperStepsModel", "copies", "(II)V"⟩, 34)]
theorem lw_r4 : ∀ q ∈ lw_privs_4, lw_okq q := List.forall_mem_cons.mpr ⟨lw_p48, List.forall_mem_cons.mpr ⟨lw_p49, List.forall_mem_cons.mpr ⟨lw_p50, List.forall_mem_cons.mpr ⟨lw_p51, List.forall_mem_cons.mpr ⟨lw_p52, fun _ h => absurd h List.not_mem_nil⟩⟩⟩⟩⟩
def lw_privs : List (MethodName × Nat) := lw_privs_1 ++ (lw_privs_2 ++ (lw_privs_3 ++ (lw_privs_4)))
def lw_tbl : List Cond := k2_sels lw_privs ++ tables_1
theorem lw_privs_ok : ∀ q ∈ lw_privs, lw_okq q := by
  show ∀ q ∈ lw_privs_1 ++ (lw_privs_2 ++ (lw_privs_3 ++ (lw_privs_4))), lw_okq q
  exact List.forall_mem_append.mpr ⟨lw_r1, List.forall_mem_append.mpr ⟨lw_r2, List.forall_mem_append.mpr ⟨lw_r3, lw_r4⟩⟩⟩
end
section
def RX0 : String := "UpperSteps$House"
def TX0 : u_T := fun k => match k with
  | 0 => ("UpperSteps$House", "books", "I", false)
  | 1 => ("UpperSteps$House", "bay", "[I", true)
  | 2 => ("UpperSteps$House", "height", "[I", true)
  | 3 => ("UpperSteps$House", "leads", "[I", true)
  | 4 => ("UpperSteps$House", "readers", "I", false)
  | 5 => ("UpperSteps$House", "kind", "[I", true)
  | 6 => ("UpperSteps$House", "wants", "[I", true)
  | 7 => ("UpperSteps$House", "bears", "[I", true)
  | 8 => ("UpperSteps$House", "had", "[I", true)
  | 9 => ("UpperSteps$House", "stepsAt", "I", false)
  | 10 => ("UpperSteps$House", "clock", "I", false)
  | 11 => ("UpperSteps$House", "day", "I", false)
  | 12 => ("UpperSteps$House", "fetched", "I", false)
  | _ => ("UpperSteps$House", "vertigos", "I", false)
def tyX0 : Nat → FieldType := fun k => match k with
  | 0 => .int
  | 1 => .array .int
  | 2 => .array .int
  | 3 => .array .int
  | 4 => .int
  | 5 => .array .int
  | 6 => .array .int
  | 7 => .array .int
  | 8 => .array .int
  | 9 => .int
  | 10 => .int
  | 11 => .int
  | 12 => .int
  | _ => .int
abbrev wsX00 : List Cond := u_ws RX0 TX0 14
theorem nmX0 : ∀ a, a < 14 → ∀ b, b < 14 → a ≠ b → (TX0 a).2.1 ≠ (TX0 b).2.1 := by decide +kernel
theorem tyX0_ok : ∀ k, k < 14 → parseFieldDescriptor (TX0 k).2.2.1 = some (tyX0 k) := by decide +kernel
abbrev cX0_init : ByteArray := prog_2_method_1_code
def yX0_init : MethodName := ⟨RX0, "<init>", "()V"⟩
abbrev cX0_clear : ByteArray := prog_2_method_2_code
def yX0_clear : MethodName := ⟨RX0, "clear", "()V"⟩
abbrev cX0_copyFrom : ByteArray := prog_2_method_3_code
def yX0_copyFrom : MethodName := ⟨RX0, "copyFrom", "(LUpperSteps$House;)V"⟩
abbrev cX0_addBook : ByteArray := prog_2_method_4_code
def yX0_addBook : MethodName := ⟨RX0, "addBook", "(III)V"⟩
abbrev cX0_addReader : ByteArray := prog_2_method_5_code
def yX0_addReader : MethodName := ⟨RX0, "addReader", "(III)V"⟩
abbrev cX0_hasBook : ByteArray := prog_2_method_6_code
def yX0_hasBook : MethodName := ⟨RX0, "hasBook", "(I)Z"⟩
abbrev cX0_hasReader : ByteArray := prog_2_method_7_code
def yX0_hasReader : MethodName := ⟨RX0, "hasReader", "(I)Z"⟩
abbrev cX0_isBookOrNone : ByteArray := prog_2_method_8_code
def yX0_isBookOrNone : MethodName := ⟨RX0, "isBookOrNone", "(I)Z"⟩
abbrev cX0_isDone : ByteArray := prog_2_method_9_code
def yX0_isDone : MethodName := ⟨RX0, "isDone", "(I)Z"⟩
abbrev cX0_hasHad : ByteArray := prog_2_method_10_code
def yX0_hasHad : MethodName := ⟨RX0, "hasHad", "(II)Z"⟩
abbrev cX0_whoAreDone : ByteArray := prog_2_method_11_code
def yX0_whoAreDone : MethodName := ⟨RX0, "whoAreDone", "()I"⟩
abbrev cX0_whoHad : ByteArray := prog_2_method_12_code
def yX0_whoHad : MethodName := ⟨RX0, "whoHad", "(I)I"⟩
abbrev cX0_minutesFor : ByteArray := prog_2_method_13_code
def yX0_minutesFor : MethodName := ⟨RX0, "minutesFor", "(II)I"⟩
abbrev cX0_dizzyBy : ByteArray := prog_2_method_14_code
def yX0_dizzyBy : MethodName := ⟨RX0, "dizzyBy", "(II)I"⟩
abbrev cX0_refusalOf : ByteArray := prog_2_method_15_code
def yX0_refusalOf : MethodName := ⟨RX0, "refusalOf", "(II)I"⟩
abbrev cX0_bring : ByteArray := prog_2_method_16_code
def yX0_bring : MethodName := ⟨RX0, "bring", "(II)I"⟩
abbrev cX0_spendDay : ByteArray := prog_2_method_17_code
def yX0_spendDay : MethodName := ⟨RX0, "spendDay", "(I)I"⟩
abbrev cX0_passDay : ByteArray := prog_2_method_18_code
def yX0_passDay : MethodName := ⟨RX0, "passDay", "()V"⟩
abbrev cX0_passDays : ByteArray := prog_2_method_19_code
def yX0_passDays : MethodName := ⟨RX0, "passDays", "(I)V"⟩
abbrev cX0_passDaysTillStill : ByteArray := prog_2_method_20_code
def yX0_passDaysTillStill : MethodName := ⟨RX0, "passDaysTillStill", "(I)V"⟩
abbrev cX0_passDaysOf : ByteArray := prog_2_method_21_code
def yX0_passDaysOf : MethodName := ⟨RX0, "passDaysOf", "(II)V"⟩
abbrev cX0_daysTillDone : ByteArray := prog_2_method_22_code
def yX0_daysTillDone : MethodName := ⟨RX0, "daysTillDone", "(II)I"⟩
abbrev cX0_changePlaces : ByteArray := prog_2_method_23_code
def yX0_changePlaces : MethodName := ⟨RX0, "changePlaces", "(II)V"⟩
def RX1 : String := "UpperSteps$Image"
def TX1 : u_T := fun k => match k with
  | 0 => ("UpperSteps$Image", "taken", "Z", false)
  | 1 => ("UpperSteps$Image", "house", "LUpperSteps$House;", true)
  | _ => ("UpperSteps$Image", "sightings", "LUpperSteps$Sightings;", true)
def tyX1 : Nat → FieldType := fun k => match k with
  | 0 => .boolean
  | 1 => .object "UpperSteps$House"
  | _ => .object "UpperSteps$Sightings"
abbrev wsX10 : List Cond := u_ws RX1 TX1 3
theorem nmX1 : ∀ a, a < 3 → ∀ b, b < 3 → a ≠ b → (TX1 a).2.1 ≠ (TX1 b).2.1 := by decide +kernel
theorem tyX1_ok : ∀ k, k < 3 → parseFieldDescriptor (TX1 k).2.2.1 = some (tyX1 k) := by decide +kernel
abbrev cX1_init : ByteArray := prog_3_method_1_code
def yX1_init : MethodName := ⟨RX1, "<init>", "()V"⟩
def RX2 : String := "UpperSteps$Outlook"
def TX2 : u_T := fun k => match k with
  | 0 => ("UpperSteps$Outlook", "wanted", "[[I", true)
  | _ => ("UpperSteps$Outlook", "parts", "[I", true)
def tyX2 : Nat → FieldType := fun k => match k with
  | 0 => .array (.array .int)
  | _ => .array .int
abbrev wsX20 : List Cond := u_ws RX2 TX2 2
theorem nmX2 : ∀ a, a < 2 → ∀ b, b < 2 → a ≠ b → (TX2 a).2.1 ≠ (TX2 b).2.1 := by decide +kernel
theorem tyX2_ok : ∀ k, k < 2 → parseFieldDescriptor (TX2 k).2.2.1 = some (tyX2 k) := by decide +kernel
abbrev cX2_init : ByteArray := prog_4_method_1_code
def yX2_init : MethodName := ⟨RX2, "<init>", "()V"⟩
abbrev cX2_foresee : ByteArray := prog_4_method_2_code
def yX2_foresee : MethodName := ⟨RX2, "foresee", "(LUpperSteps$House;LUpperSteps$House;II)V"⟩
abbrev cX2_note : ByteArray := prog_4_method_3_code
def yX2_note : MethodName := ⟨RX2, "note", "(LUpperSteps$House;[I)V"⟩
abbrev cX2_mostLeft : ByteArray := prog_4_method_4_code
def yX2_mostLeft : MethodName := ⟨RX2, "mostLeft", "(III)I"⟩
def RX3 : String := "UpperSteps$Parser"
def TX3 : u_T := fun k => match k with
  | 0 => ("UpperSteps$Parser", "faultFound", "I", false)
  | 1 => ("UpperSteps$Parser", "faultPlace", "I", false)
  | 2 => ("UpperSteps$Parser", "lines", "I", false)
  | 3 => ("UpperSteps$Parser", "stepsTold", "Z", false)
  | 4 => ("UpperSteps$Parser", "tape", "LUpperSteps$Tape;", true)
  | _ => ("UpperSteps$Parser", "house", "LUpperSteps$House;", true)
def tyX3 : Nat → FieldType := fun k => match k with
  | 0 => .int
  | 1 => .int
  | 2 => .int
  | 3 => .boolean
  | 4 => .object "UpperSteps$Tape"
  | _ => .object "UpperSteps$House"
abbrev wsX30 : List Cond := u_ws RX3 TX3 6
theorem nmX3 : ∀ a, a < 6 → ∀ b, b < 6 → a ≠ b → (TX3 a).2.1 ≠ (TX3 b).2.1 := by decide +kernel
theorem tyX3_ok : ∀ k, k < 6 → parseFieldDescriptor (TX3 k).2.2.1 = some (tyX3 k) := by decide +kernel
abbrev cX3_init : ByteArray := prog_5_method_1_code
def yX3_init : MethodName := ⟨RX3, "<init>", "()V"⟩
abbrev cX3_begin : ByteArray := prog_5_method_2_code
def yX3_begin : MethodName := ⟨RX3, "begin", "()V"⟩
abbrev cX3_isAtLine : ByteArray := prog_5_method_3_code
def yX3_isAtLine : MethodName := ⟨RX3, "isAtLine", "()Z"⟩
abbrev cX3_finish : ByteArray := prog_5_method_4_code
def yX3_finish : MethodName := ⟨RX3, "finish", "()V"⟩
abbrev cX3_refuse : ByteArray := prog_5_method_5_code
def yX3_refuse : MethodName := ⟨RX3, "refuse", "(II)V"⟩
abbrev cX3_takeToken : ByteArray := prog_5_method_6_code
def yX3_takeToken : MethodName := ⟨RX3, "takeToken", "()V"⟩
abbrev cX3_parseLine : ByteArray := prog_5_method_7_code
def yX3_parseLine : MethodName := ⟨RX3, "parseLine", "()V"⟩
abbrev cX3_parseBook : ByteArray := prog_5_method_8_code
def yX3_parseBook : MethodName := ⟨RX3, "parseBook", "()V"⟩
abbrev cX3_parseReader : ByteArray := prog_5_method_9_code
def yX3_parseReader : MethodName := ⟨RX3, "parseReader", "(I)V"⟩
abbrev cX3_parseSteps : ByteArray := prog_5_method_10_code
def yX3_parseSteps : MethodName := ⟨RX3, "parseSteps", "()V"⟩
abbrev cX3_takeNumber : ByteArray := prog_5_method_11_code
def yX3_takeNumber : MethodName := ⟨RX3, "takeNumber", "(II)I"⟩
abbrev cX3_bookTold : ByteArray := prog_5_method_12_code
def yX3_bookTold : MethodName := ⟨RX3, "bookTold", "(I)I"⟩
abbrev cX3_takeStop : ByteArray := prog_5_method_13_code
def yX3_takeStop : MethodName := ⟨RX3, "takeStop", "()V"⟩
abbrev cX3_namesMissingBook : ByteArray := prog_5_method_14_code
def yX3_namesMissingBook : MethodName := ⟨RX3, "namesMissingBook", "()Z"⟩
def RX4 : String := "UpperSteps$RunningSteps"
def TX4 : u_T := fun k => match k with
  | 0 => ("UpperSteps$RunningSteps", "days", "I", false)
  | 1 => ("UpperSteps$RunningSteps", "whenStill", "[I", true)
  | 2 => ("UpperSteps$RunningSteps", "whenRun", "[I", true)
  | _ => ("UpperSteps$RunningSteps", "other", "LUpperSteps$House;", true)
def tyX4 : Nat → FieldType := fun k => match k with
  | 0 => .int
  | 1 => .array .int
  | 2 => .array .int
  | _ => .object "UpperSteps$House"
abbrev wsX40 : List Cond := u_ws RX4 TX4 4
theorem nmX4 : ∀ a, a < 4 → ∀ b, b < 4 → a ≠ b → (TX4 a).2.1 ≠ (TX4 b).2.1 := by decide +kernel
theorem tyX4_ok : ∀ k, k < 4 → parseFieldDescriptor (TX4 k).2.2.1 = some (tyX4 k) := by decide +kernel
abbrev cX4_init : ByteArray := prog_6_method_1_code
def yX4_init : MethodName := ⟨RX4, "<init>", "()V"⟩
abbrev cX4_foresee : ByteArray := prog_6_method_2_code
def yX4_foresee : MethodName := ⟨RX4, "foresee", "(LUpperSteps$House;LUpperSteps$House;I)V"⟩
abbrev cX4_weightWithin : ByteArray := prog_6_method_3_code
def yX4_weightWithin : MethodName := ⟨RX4, "weightWithin", "(II)J"⟩
abbrev cX4_tenTimesMean : ByteArray := prog_6_method_4_code
def yX4_tenTimesMean : MethodName := ⟨RX4, "tenTimesMean", "(I)J"⟩
def RX5 : String := "UpperSteps$Sheet"
def TX5 : u_T := fun k => match k with
  | 0 => ("UpperSteps$Sheet", "lane", "I", false)
  | 1 => ("UpperSteps$Sheet", "size", "I", false)
  | _ => ("UpperSteps$Sheet", "cells", "[I", true)
def tyX5 : Nat → FieldType := fun k => match k with
  | 0 => .int
  | 1 => .int
  | _ => .array .int
abbrev wsX50 : List Cond := u_ws RX5 TX5 3
theorem nmX5 : ∀ a, a < 3 → ∀ b, b < 3 → a ≠ b → (TX5 a).2.1 ≠ (TX5 b).2.1 := by decide +kernel
theorem tyX5_ok : ∀ k, k < 3 → parseFieldDescriptor (TX5 k).2.2.1 = some (tyX5 k) := by decide +kernel
abbrev cX5_init : ByteArray := prog_7_method_1_code
def yX5_init : MethodName := ⟨RX5, "<init>", "()V"⟩
abbrev cX5_renew : ByteArray := prog_7_method_2_code
def yX5_renew : MethodName := ⟨RX5, "renew", "(II)V"⟩
abbrev cX5_faultAt : ByteArray := prog_7_method_3_code
def yX5_faultAt : MethodName := ⟨RX5, "faultAt", "(II)I"⟩
abbrev cX5_faultOfPair : ByteArray := prog_7_method_4_code
def yX5_faultOfPair : MethodName := ⟨RX5, "faultOfPair", "(II)I"⟩
abbrev cX5_put : ByteArray := prog_7_method_5_code
def yX5_put : MethodName := ⟨RX5, "put", "(II)V"⟩
def RX6 : String := "UpperSteps$Sightings"
def TX6 : u_T := fun k => match k with
  | 0 => ("UpperSteps$Sightings", "size", "I", false)
  | 1 => ("UpperSteps$Sightings", "behind", "[I", true)
  | 2 => ("UpperSteps$Sightings", "who", "[I", true)
  | _ => ("UpperSteps$Sightings", "wanted", "[I", true)
def tyX6 : Nat → FieldType := fun k => match k with
  | 0 => .int
  | 1 => .array .int
  | 2 => .array .int
  | _ => .array .int
abbrev wsX60 : List Cond := u_ws RX6 TX6 4
theorem nmX6 : ∀ a, a < 4 → ∀ b, b < 4 → a ≠ b → (TX6 a).2.1 ≠ (TX6 b).2.1 := by decide +kernel
theorem tyX6_ok : ∀ k, k < 4 → parseFieldDescriptor (TX6 k).2.2.1 = some (tyX6 k) := by decide +kernel
abbrev cX6_init : ByteArray := prog_8_method_1_code
def yX6_init : MethodName := ⟨RX6, "<init>", "()V"⟩
abbrev cX6_put : ByteArray := prog_8_method_2_code
def yX6_put : MethodName := ⟨RX6, "put", "(III)V"⟩
abbrev cX6_copyFrom : ByteArray := prog_8_method_3_code
def yX6_copyFrom : MethodName := ⟨RX6, "copyFrom", "(LUpperSteps$Sightings;)V"⟩
abbrev cX6_agreeWith : ByteArray := prog_8_method_4_code
def yX6_agreeWith : MethodName := ⟨RX6, "agreeWith", "(LUpperSteps$House;)Z"⟩
abbrev cX6_lastBehind : ByteArray := prog_8_method_5_code
def yX6_lastBehind : MethodName := ⟨RX6, "lastBehind", "()I"⟩
def RX7 : String := "UpperSteps$Tape"
def TX7 : u_T := fun k => match k with
  | 0 => ("UpperSteps$Tape", "bytes", "[B", true)
  | 1 => ("UpperSteps$Tape", "length", "I", false)
  | 2 => ("UpperSteps$Tape", "sort", "I", false)
  | 3 => ("UpperSteps$Tape", "from", "I", false)
  | _ => ("UpperSteps$Tape", "behind", "I", false)
def tyX7 : Nat → FieldType := fun k => match k with
  | 0 => .array .byte
  | 1 => .int
  | 2 => .int
  | 3 => .int
  | _ => .int
abbrev wsX70 : List Cond := u_ws RX7 TX7 5
theorem nmX7 : ∀ a, a < 5 → ∀ b, b < 5 → a ≠ b → (TX7 a).2.1 ≠ (TX7 b).2.1 := by decide +kernel
theorem tyX7_ok : ∀ k, k < 5 → parseFieldDescriptor (TX7 k).2.2.1 = some (tyX7 k) := by decide +kernel
abbrev cX7_init : ByteArray := prog_9_method_1_code
def yX7_init : MethodName := ⟨RX7, "<init>", "()V"⟩
abbrev cX7_rewind : ByteArray := prog_9_method_2_code
def yX7_rewind : MethodName := ⟨RX7, "rewind", "()V"⟩
abbrev cX7_advance : ByteArray := prog_9_method_3_code
def yX7_advance : MethodName := ⟨RX7, "advance", "()V"⟩
abbrev cX7_sortOf : ByteArray := prog_9_method_4_code
def yX7_sortOf : MethodName := ⟨RX7, "sortOf", "(I)I"⟩
abbrev cX7_valueOfNumber : ByteArray := prog_9_method_5_code
def yX7_valueOfNumber : MethodName := ⟨RX7, "valueOfNumber", "()I"⟩
abbrev cX7_isWord : ByteArray := prog_9_method_6_code
def yX7_isWord : MethodName := ⟨RX7, "isWord", "(Ljava/lang/String;)Z"⟩
def RX8 : String := "UpperSteps"
def TX8 : u_T := fun k => match k with
  | 0 => ("UpperSteps", "house", "LUpperSteps$House;", true)
  | 1 => ("UpperSteps", "trial", "LUpperSteps$House;", true)
  | 2 => ("UpperSteps", "parser", "LUpperSteps$Parser;", true)
  | 3 => ("UpperSteps", "textFault", "I", false)
  | 4 => ("UpperSteps", "sightings", "LUpperSteps$Sightings;", true)
  | 5 => ("UpperSteps", "images", "[LUpperSteps$Image;", true)
  | 6 => ("UpperSteps", "sheets", "[LUpperSteps$Sheet;", true)
  | 7 => ("UpperSteps", "readFault", "I", false)
  | 8 => ("UpperSteps", "orderTried", "[I", true)
  | 9 => ("UpperSteps", "orderFound", "[I", true)
  | 10 => ("UpperSteps", "running", "LUpperSteps$RunningSteps;", true)
  | _ => ("UpperSteps", "outlook", "LUpperSteps$Outlook;", true)
def tyX8 : Nat → FieldType := fun k => match k with
  | 0 => .object "UpperSteps$House"
  | 1 => .object "UpperSteps$House"
  | 2 => .object "UpperSteps$Parser"
  | 3 => .int
  | 4 => .object "UpperSteps$Sightings"
  | 5 => .array (.object "UpperSteps$Image")
  | 6 => .array (.object "UpperSteps$Sheet")
  | 7 => .int
  | 8 => .array .int
  | 9 => .array .int
  | 10 => .object "UpperSteps$RunningSteps"
  | _ => .object "UpperSteps$Outlook"
abbrev wsX80 : List Cond := u_ws RX8 TX8 12
theorem nmX8 : ∀ a, a < 12 → ∀ b, b < 12 → a ≠ b → (TX8 a).2.1 ≠ (TX8 b).2.1 := by decide +kernel
theorem tyX8_ok : ∀ k, k < 12 → parseFieldDescriptor (TX8 k).2.2.1 = some (tyX8 k) := by decide +kernel
abbrev cX8_init : ByteArray := prog_1_method_1_code
def yX8_init : MethodName := ⟨RX8, "<init>", "()V"⟩
abbrev cX8_feed : ByteArray := prog_1_method_2_code
def yX8_feed : MethodName := ⟨RX8, "feed", "(I)I"⟩
abbrev cX8_end : ByteArray := prog_1_method_3_code
def yX8_end : MethodName := ⟨RX8, "end", "(I)I"⟩
abbrev cX8_text : ByteArray := prog_1_method_4_code
def yX8_text : MethodName := ⟨RX8, "text", "()I"⟩
abbrev cX8_fault : ByteArray := prog_1_method_5_code
def yX8_fault : MethodName := ⟨RX8, "fault", "()I"⟩
abbrev cX8_rule : ByteArray := prog_1_method_6_code
def yX8_rule : MethodName := ⟨RX8, "rule", "(I)I"⟩
abbrev cX8_book : ByteArray := prog_1_method_7_code
def yX8_book : MethodName := ⟨RX8, "book", "(II)I"⟩
abbrev cX8_reader : ByteArray := prog_1_method_8_code
def yX8_reader : MethodName := ⟨RX8, "reader", "(II)I"⟩
abbrev cX8_shelve : ByteArray := prog_1_method_9_code
def yX8_shelve : MethodName := ⟨RX8, "shelve", "(III)I"⟩
abbrev cX8_alter : ByteArray := prog_1_method_10_code
def yX8_alter : MethodName := ⟨RX8, "alter", "(III)I"⟩
abbrev cX8_roll : ByteArray := prog_1_method_11_code
def yX8_roll : MethodName := ⟨RX8, "roll", "(I)I"⟩
abbrev cX8_forgets : ByteArray := prog_1_method_12_code
def yX8_forgets : MethodName := ⟨RX8, "forgets", "(I)I"⟩
abbrev cX8_fetch : ByteArray := prog_1_method_13_code
def yX8_fetch : MethodName := ⟨RX8, "fetch", "(II)I"⟩
abbrev cX8_days : ByteArray := prog_1_method_14_code
def yX8_days : MethodName := ⟨RX8, "days", "(I)I"⟩
abbrev cX8_runs : ByteArray := prog_1_method_15_code
def yX8_runs : MethodName := ⟨RX8, "runs", "(II)I"⟩
abbrev cX8_ahead : ByteArray := prog_1_method_16_code
def yX8_ahead : MethodName := ⟨RX8, "ahead", "(III)I"⟩
abbrev cX8_done : ByteArray := prog_1_method_17_code
def yX8_done : MethodName := ⟨RX8, "done", "(I)I"⟩
abbrev cX8_vertigo : ByteArray := prog_1_method_18_code
def yX8_vertigo : MethodName := ⟨RX8, "vertigo", "(I)I"⟩
abbrev cX8_order : ByteArray := prog_1_method_19_code
def yX8_order : MethodName := ⟨RX8, "order", "(I)I"⟩
abbrev cX8_start : ByteArray := prog_1_method_20_code
def yX8_start : MethodName := ⟨RX8, "start", "(II)I"⟩
abbrev cX8_swap : ByteArray := prog_1_method_21_code
def yX8_swap : MethodName := ⟨RX8, "swap", "(II)I"⟩
abbrev cX8_knee : ByteArray := prog_1_method_22_code
def yX8_knee : MethodName := ⟨RX8, "knee", "(II)I"⟩
abbrev cX8_need : ByteArray := prog_1_method_23_code
def yX8_need : MethodName := ⟨RX8, "need", "(II)I"⟩
abbrev cX8_high : ByteArray := prog_1_method_24_code
def yX8_high : MethodName := ⟨RX8, "high", "(III)I"⟩
abbrev cX8_luck : ByteArray := prog_1_method_25_code
def yX8_luck : MethodName := ⟨RX8, "luck", "(IIII)J"⟩
abbrev cX8_mean : ByteArray := prog_1_method_26_code
def yX8_mean : MethodName := ⟨RX8, "mean", "(III)J"⟩
abbrev cX8_see : ByteArray := prog_1_method_27_code
def yX8_see : MethodName := ⟨RX8, "see", "(III)I"⟩
abbrev cX8_forget : ByteArray := prog_1_method_28_code
def yX8_forget : MethodName := ⟨RX8, "forget", "(I)I"⟩
abbrev cX8_kinds : ByteArray := prog_1_method_29_code
def yX8_kinds : MethodName := ⟨RX8, "kinds", "(I)I"⟩
abbrev cX8_heights : ByteArray := prog_1_method_30_code
def yX8_heights : MethodName := ⟨RX8, "heights", "(I)I"⟩
abbrev cX8_ask : ByteArray := prog_1_method_31_code
def yX8_ask : MethodName := ⟨RX8, "ask", "(II)I"⟩
abbrev cX8_drift : ByteArray := prog_1_method_32_code
def yX8_drift : MethodName := ⟨RX8, "drift", "(III)I"⟩
abbrev cX8_keep : ByteArray := prog_1_method_33_code
def yX8_keep : MethodName := ⟨RX8, "keep", "(I)I"⟩
abbrev cX8_back : ByteArray := prog_1_method_34_code
def yX8_back : MethodName := ⟨RX8, "back", "(I)I"⟩
abbrev cX8_sheet : ByteArray := prog_1_method_35_code
def yX8_sheet : MethodName := ⟨RX8, "sheet", "(III)I"⟩
abbrev cX8_lay : ByteArray := prog_1_method_36_code
def yX8_lay : MethodName := ⟨RX8, "lay", "(III)I"⟩
abbrev cX8_read : ByteArray := prog_1_method_37_code
def yX8_read : MethodName := ⟨RX8, "read", "(IIII)I"⟩
abbrev cX8_torn : ByteArray := prog_1_method_38_code
def yX8_torn : MethodName := ⟨RX8, "torn", "()I"⟩
abbrev cX8_count : ByteArray := prog_1_method_39_code
def yX8_count : MethodName := ⟨RX8, "count", "(I)I"⟩
abbrev cX8_outside : ByteArray := prog_1_method_40_code
def yX8_outside : MethodName := ⟨RX8, "outside", "(III)Z"⟩
abbrev cX8_tellsBookOrNone : ByteArray := prog_1_method_41_code
def yX8_tellsBookOrNone : MethodName := ⟨RX8, "tellsBookOrNone", "(I)Z"⟩
abbrev cX8_bookSaid : ByteArray := prog_1_method_42_code
def yX8_bookSaid : MethodName := ⟨RX8, "bookSaid", "(I)I"⟩
abbrev cX8_replace : ByteArray := prog_1_method_43_code
def yX8_replace : MethodName := ⟨RX8, "replace", "([III)I"⟩
abbrev cX8_sumOf : ByteArray := prog_1_method_44_code
def yX8_sumOf : MethodName := ⟨RX8, "sumOf", "([II)I"⟩
abbrev cX8_partOfFraction : ByteArray := prog_1_method_45_code
def yX8_partOfFraction : MethodName := ⟨RX8, "partOfFraction", "(JJI)J"⟩
abbrev cX8_beginTrial : ByteArray := prog_1_method_46_code
def yX8_beginTrial : MethodName := ⟨RX8, "beginTrial", "()V"⟩
abbrev cX8_trialMinutes : ByteArray := prog_1_method_47_code
def yX8_trialMinutes : MethodName := ⟨RX8, "trialMinutes", "()I"⟩
abbrev cX8_daysTillAllDone : ByteArray := prog_1_method_48_code
def yX8_daysTillAllDone : MethodName := ⟨RX8, "daysTillAllDone", "(I)I"⟩
abbrev cX8_findOrder : ByteArray := prog_1_method_49_code
def yX8_findOrder : MethodName := ⟨RX8, "findOrder", "()I"⟩
abbrev cX8_turnToNextOrder : ByteArray := prog_1_method_50_code
def yX8_turnToNextOrder : MethodName := ⟨RX8, "turnToNextOrder", "([II)Z"⟩
abbrev cX8_exchange : ByteArray := prog_1_method_51_code
def yX8_exchange : MethodName := ⟨RX8, "exchange", "([III)V"⟩
abbrev cX8_heightsAsSeen : ByteArray := prog_1_method_52_code
def yX8_heightsAsSeen : MethodName := ⟨RX8, "heightsAsSeen", "(I)I"⟩
abbrev cX8_imagesTaken : ByteArray := prog_1_method_53_code
def yX8_imagesTaken : MethodName := ⟨RX8, "imagesTaken", "()I"⟩
def RX9 : String := "UpperStepsModel"
def TX9 : u_T := fun k => match k with
  | 0 => ("UpperStepsModel", "st", "[I", true)
  | 1 => ("UpperStepsModel", "now", "[I", true)
  | 2 => ("UpperStepsModel", "isKept", "[Z", true)
  | 3 => ("UpperStepsModel", "books", "I", false)
  | 4 => ("UpperStepsModel", "readers", "I", false)
  | 5 => ("UpperStepsModel", "draft", "[I", true)
  | 6 => ("UpperStepsModel", "dBooks", "I", false)
  | 7 => ("UpperStepsModel", "dReaders", "I", false)
  | 8 => ("UpperStepsModel", "hasSteps", "Z", false)
  | 9 => ("UpperStepsModel", "highest", "I", false)
  | 10 => ("UpperStepsModel", "tape", "[I", true)
  | 11 => ("UpperStepsModel", "taped", "I", false)
  | 12 => ("UpperStepsModel", "pos", "I", false)
  | 13 => ("UpperStepsModel", "begun", "I", false)
  | 14 => ("UpperStepsModel", "sort", "I", false)
  | 15 => ("UpperStepsModel", "value", "I", false)
  | 16 => ("UpperStepsModel", "fault", "I", false)
  | 17 => ("UpperStepsModel", "wrongAt", "I", false)
  | 18 => ("UpperStepsModel", "fetched", "I", false)
  | 19 => ("UpperStepsModel", "minutes", "I", false)
  | 20 => ("UpperStepsModel", "vertigos", "I", false)
  | 21 => ("UpperStepsModel", "vertigoBook", "I", false)
  | 22 => ("UpperStepsModel", "row", "[I", true)
  | 23 => ("UpperStepsModel", "bestRow", "[I", true)
  | 24 => ("UpperStepsModel", "fewSum", "J", false)
  | 25 => ("UpperStepsModel", "minuteSum", "J", false)
  | 26 => ("UpperStepsModel", "allWays", "J", false)
  | 27 => ("UpperStepsModel", "wanted", "[I", true)
  | 28 => ("UpperStepsModel", "byHeight", "[I", true)
  | 29 => ("UpperStepsModel", "lanes", "[I", true)
  | 30 => ("UpperStepsModel", "sizes", "[I", true)
  | 31 => ("UpperStepsModel", "cells", "[I", true)
  | 32 => ("UpperStepsModel", "torn", "I", false)
  | _ => ("UpperStepsModel", "before", "[I", true)
def tyX9 : Nat → FieldType := fun k => match k with
  | 0 => .array .int
  | 1 => .array .int
  | 2 => .array .boolean
  | 3 => .int
  | 4 => .int
  | 5 => .array .int
  | 6 => .int
  | 7 => .int
  | 8 => .boolean
  | 9 => .int
  | 10 => .array .int
  | 11 => .int
  | 12 => .int
  | 13 => .int
  | 14 => .int
  | 15 => .int
  | 16 => .int
  | 17 => .int
  | 18 => .int
  | 19 => .int
  | 20 => .int
  | 21 => .int
  | 22 => .array .int
  | 23 => .array .int
  | 24 => .long
  | 25 => .long
  | 26 => .long
  | 27 => .array .int
  | 28 => .array .int
  | 29 => .array .int
  | 30 => .array .int
  | 31 => .array .int
  | 32 => .int
  | _ => .array .int
abbrev wsX90 : List Cond := u_ws RX9 TX9 34
theorem nmX9 : ∀ a, a < 34 → ∀ b, b < 34 → a ≠ b → (TX9 a).2.1 ≠ (TX9 b).2.1 := by decide +kernel
theorem tyX9_ok : ∀ k, k < 34 → parseFieldDescriptor (TX9 k).2.2.1 = some (tyX9 k) := by decide +kernel
abbrev cX9_init : ByteArray := prog_11_method_1_code
def yX9_init : MethodName := ⟨RX9, "<init>", "()V"⟩
abbrev cX9_in : ByteArray := prog_11_method_3_code
def yX9_in : MethodName := ⟨RX9, "in", "(JJJ)Z"⟩
abbrev cX9_flag : ByteArray := prog_11_method_4_code
def yX9_flag : MethodName := ⟨RX9, "flag", "(Z)I"⟩
abbrev cX9_lesser : ByteArray := prog_11_method_5_code
def yX9_lesser : MethodName := ⟨RX9, "lesser", "(II)I"⟩
abbrev cX9_bitsOf : ByteArray := prog_11_method_6_code
def yX9_bitsOf : MethodName := ⟨RX9, "bitsOf", "(I)I"⟩
abbrev cX9_firstDraft : ByteArray := prog_11_method_7_code
def yX9_firstDraft : MethodName := ⟨RX9, "firstDraft", "()V"⟩
abbrev cX9_keepDraft : ByteArray := prog_11_method_8_code
def yX9_keepDraft : MethodName := ⟨RX9, "keepDraft", "()V"⟩
abbrev cX9_feed : ByteArray := prog_11_method_9_code
def yX9_feed : MethodName := ⟨RX9, "feed", "(I)I"⟩
abbrev cX9_end : ByteArray := prog_11_method_10_code
def yX9_end : MethodName := ⟨RX9, "end", "(I)I"⟩
abbrev cX9_needs : ByteArray := prog_11_method_11_code
def yX9_needs : MethodName := ⟨RX9, "needs", "(ZI)V"⟩
abbrev cX9_byteAt : ByteArray := prog_11_method_12_code
def yX9_byteAt : MethodName := ⟨RX9, "byteAt", "(I)I"⟩
abbrev cX9_is : ByteArray := prog_11_method_13_code
def yX9_is : MethodName := ⟨RX9, "is", "(IIIII)Z"⟩
abbrev cX9_ends : ByteArray := prog_11_method_14_code
def yX9_ends : MethodName := ⟨RX9, "ends", "(II)Z"⟩
abbrev cX9_lineNow : ByteArray := prog_11_method_15_code
def yX9_lineNow : MethodName := ⟨RX9, "lineNow", "()I"⟩
abbrev cX9_takes : ByteArray := prog_11_method_16_code
def yX9_takes : MethodName := ⟨RX9, "takes", "()V"⟩
abbrev cX9_looked : ByteArray := prog_11_method_17_code
def yX9_looked : MethodName := ⟨RX9, "looked", "(II)I"⟩
abbrev cX9_readNumber : ByteArray := prog_11_method_18_code
def yX9_readNumber : MethodName := ⟨RX9, "readNumber", "(II)I"⟩
abbrev cX9_readBook : ByteArray := prog_11_method_19_code
def yX9_readBook : MethodName := ⟨RX9, "readBook", "()I"⟩
abbrev cX9_readLineOf : ByteArray := prog_11_method_20_code
def yX9_readLineOf : MethodName := ⟨RX9, "readLineOf", "(I)V"⟩
abbrev cX9_readLine : ByteArray := prog_11_method_21_code
def yX9_readLine : MethodName := ⟨RX9, "readLine", "()V"⟩
abbrev cX9_text : ByteArray := prog_11_method_22_code
def yX9_text : MethodName := ⟨RX9, "text", "()I"⟩
abbrev cX9_fault : ByteArray := prog_11_method_23_code
def yX9_fault : MethodName := ⟨RX9, "fault", "()I"⟩
abbrev cX9_isBook : ByteArray := prog_11_method_24_code
def yX9_isBook : MethodName := ⟨RX9, "isBook", "(I)Z"⟩
abbrev cX9_isReader : ByteArray := prog_11_method_25_code
def yX9_isReader : MethodName := ⟨RX9, "isReader", "(I)Z"⟩
abbrev cX9_isBay : ByteArray := prog_11_method_26_code
def yX9_isBay : MethodName := ⟨RX9, "isBay", "(I)Z"⟩
abbrev cX9_isPart : ByteArray := prog_11_method_27_code
def yX9_isPart : MethodName := ⟨RX9, "isPart", "(I)Z"⟩
abbrev cX9_starts : ByteArray := prog_11_method_28_code
def yX9_starts : MethodName := ⟨RX9, "starts", "()V"⟩
abbrev cX9_settles : ByteArray := prog_11_method_29_code
def yX9_settles : MethodName := ⟨RX9, "settles", "()V"⟩
abbrev cX9_of : ByteArray := prog_11_method_30_code
def yX9_of : MethodName := ⟨RX9, "of", "(II)I"⟩
abbrev cX9_ofReader : ByteArray := prog_11_method_31_code
def yX9_ofReader : MethodName := ⟨RX9, "ofReader", "(II)I"⟩
abbrev cX9_becomesOf : ByteArray := prog_11_method_32_code
def yX9_becomesOf : MethodName := ⟨RX9, "becomesOf", "(III)V"⟩
abbrev cX9_had : ByteArray := prog_11_method_33_code
def yX9_had : MethodName := ⟨RX9, "had", "(II)Z"⟩
abbrev cX9_climb : ByteArray := prog_11_method_34_code
def yX9_climb : MethodName := ⟨RX9, "climb", "(II)I"⟩
abbrev cX9_dizziness : ByteArray := prog_11_method_35_code
def yX9_dizziness : MethodName := ⟨RX9, "dizziness", "(II)I"⟩
abbrev cX9_minutesOf : ByteArray := prog_11_method_36_code
def yX9_minutesOf : MethodName := ⟨RX9, "minutesOf", "(II)I"⟩
abbrev cX9_startsCounting : ByteArray := prog_11_method_37_code
def yX9_startsCounting : MethodName := ⟨RX9, "startsCounting", "()V"⟩
abbrev cX9_fetches : ByteArray := prog_11_method_38_code
def yX9_fetches : MethodName := ⟨RX9, "fetches", "(II)V"⟩
abbrev cX9_readerGoes : ByteArray := prog_11_method_39_code
def yX9_readerGoes : MethodName := ⟨RX9, "readerGoes", "(I)V"⟩
abbrev cX9_dayGoes : ByteArray := prog_11_method_40_code
def yX9_dayGoes : MethodName := ⟨RX9, "dayGoes", "()V"⟩
abbrev cX9_daysGo : ByteArray := prog_11_method_41_code
def yX9_daysGo : MethodName := ⟨RX9, "daysGo", "(I)V"⟩
abbrev cX9_doneNow : ByteArray := prog_11_method_42_code
def yX9_doneNow : MethodName := ⟨RX9, "doneNow", "()I"⟩
abbrev cX9_rule : ByteArray := prog_11_method_43_code
def yX9_rule : MethodName := ⟨RX9, "rule", "(I)I"⟩
abbrev cX9_book : ByteArray := prog_11_method_44_code
def yX9_book : MethodName := ⟨RX9, "book", "(II)I"⟩
abbrev cX9_reader : ByteArray := prog_11_method_45_code
def yX9_reader : MethodName := ⟨RX9, "reader", "(II)I"⟩
abbrev cX9_becomes : ByteArray := prog_11_method_46_code
def yX9_becomes : MethodName := ⟨RX9, "becomes", "(II)I"⟩
abbrev cX9_isBookOrNone : ByteArray := prog_11_method_47_code
def yX9_isBookOrNone : MethodName := ⟨RX9, "isBookOrNone", "(I)Z"⟩
abbrev cX9_asKept : ByteArray := prog_11_method_48_code
def yX9_asKept : MethodName := ⟨RX9, "asKept", "(I)I"⟩
abbrev cX9_shelve : ByteArray := prog_11_method_49_code
def yX9_shelve : MethodName := ⟨RX9, "shelve", "(III)I"⟩
abbrev cX9_alter : ByteArray := prog_11_method_50_code
def yX9_alter : MethodName := ⟨RX9, "alter", "(III)I"⟩
abbrev cX9_roll : ByteArray := prog_11_method_51_code
def yX9_roll : MethodName := ⟨RX9, "roll", "(I)I"⟩
abbrev cX9_forgets : ByteArray := prog_11_method_52_code
def yX9_forgets : MethodName := ⟨RX9, "forgets", "(I)I"⟩
abbrev cX9_fetch : ByteArray := prog_11_method_53_code
def yX9_fetch : MethodName := ⟨RX9, "fetch", "(II)I"⟩
abbrev cX9_days : ByteArray := prog_11_method_54_code
def yX9_days : MethodName := ⟨RX9, "days", "(I)I"⟩
abbrev cX9_isFar : ByteArray := prog_11_method_55_code
def yX9_isFar : MethodName := ⟨RX9, "isFar", "(I)Z"⟩
abbrev cX9_runs : ByteArray := prog_11_method_56_code
def yX9_runs : MethodName := ⟨RX9, "runs", "(II)I"⟩
abbrev cX9_ahead : ByteArray := prog_11_method_57_code
def yX9_ahead : MethodName := ⟨RX9, "ahead", "(III)I"⟩
abbrev cX9_daysTo : ByteArray := prog_11_method_58_code
def yX9_daysTo : MethodName := ⟨RX9, "daysTo", "(I)I"⟩
abbrev cX9_done : ByteArray := prog_11_method_59_code
def yX9_done : MethodName := ⟨RX9, "done", "(I)I"⟩
abbrev cX9_vertigo : ByteArray := prog_11_method_60_code
def yX9_vertigo : MethodName := ⟨RX9, "vertigo", "(I)I"⟩
abbrev cX9_isRow : ByteArray := prog_11_method_61_code
def yX9_isRow : MethodName := ⟨RX9, "isRow", "(I)Z"⟩
abbrev cX9_minutesByRow : ByteArray := prog_11_method_62_code
def yX9_minutesByRow : MethodName := ⟨RX9, "minutesByRow", "()I"⟩
abbrev cX9_findOrder : ByteArray := prog_11_method_63_code
def yX9_findOrder : MethodName := ⟨RX9, "findOrder", "()I"⟩
abbrev cX9_order : ByteArray := prog_11_method_64_code
def yX9_order : MethodName := ⟨RX9, "order", "(I)I"⟩
abbrev cX9_start : ByteArray := prog_11_method_65_code
def yX9_start : MethodName := ⟨RX9, "start", "(II)I"⟩
abbrev cX9_swap : ByteArray := prog_11_method_66_code
def yX9_swap : MethodName := ⟨RX9, "swap", "(II)I"⟩
abbrev cX9_knee : ByteArray := prog_11_method_67_code
def yX9_knee : MethodName := ⟨RX9, "knee", "(II)I"⟩
abbrev cX9_need : ByteArray := prog_11_method_68_code
def yX9_need : MethodName := ⟨RX9, "need", "(II)I"⟩
abbrev cX9_high : ByteArray := prog_11_method_69_code
def yX9_high : MethodName := ⟨RX9, "high", "(III)I"⟩
abbrev cX9_common : ByteArray := prog_11_method_70_code
def yX9_common : MethodName := ⟨RX9, "common", "(JJ)J"⟩
abbrev cX9_told : ByteArray := prog_11_method_71_code
def yX9_told : MethodName := ⟨RX9, "told", "(JJI)J"⟩
abbrev cX9_findOdds : ByteArray := prog_11_method_72_code
def yX9_findOdds : MethodName := ⟨RX9, "findOdds", "(III)V"⟩
abbrev cX9_luck : ByteArray := prog_11_method_73_code
def yX9_luck : MethodName := ⟨RX9, "luck", "(IIII)J"⟩
abbrev cX9_mean : ByteArray := prog_11_method_74_code
def yX9_mean : MethodName := ⟨RX9, "mean", "(III)J"⟩
abbrev cX9_see : ByteArray := prog_11_method_75_code
def yX9_see : MethodName := ⟨RX9, "see", "(III)I"⟩
abbrev cX9_forget : ByteArray := prog_11_method_76_code
def yX9_forget : MethodName := ⟨RX9, "forget", "(I)I"⟩
abbrev cX9_isSoWith : ByteArray := prog_11_method_77_code
def yX9_isSoWith : MethodName := ⟨RX9, "isSoWith", "(II)Z"⟩
abbrev cX9_kinds : ByteArray := prog_11_method_78_code
def yX9_kinds : MethodName := ⟨RX9, "kinds", "(I)I"⟩
abbrev cX9_heights : ByteArray := prog_11_method_79_code
def yX9_heights : MethodName := ⟨RX9, "heights", "(I)I"⟩
abbrev cX9_ask : ByteArray := prog_11_method_80_code
def yX9_ask : MethodName := ⟨RX9, "ask", "(II)I"⟩
abbrev cX9_drift : ByteArray := prog_11_method_81_code
def yX9_drift : MethodName := ⟨RX9, "drift", "(III)I"⟩
abbrev cX9_copies : ByteArray := prog_11_method_82_code
def yX9_copies : MethodName := ⟨RX9, "copies", "(II)V"⟩
abbrev cX9_keep : ByteArray := prog_11_method_83_code
def yX9_keep : MethodName := ⟨RX9, "keep", "(I)I"⟩
abbrev cX9_back : ByteArray := prog_11_method_84_code
def yX9_back : MethodName := ⟨RX9, "back", "(I)I"⟩
abbrev cX9_isSheet : ByteArray := prog_11_method_85_code
def yX9_isSheet : MethodName := ⟨RX9, "isSheet", "(II)Z"⟩
abbrev cX9_sheet : ByteArray := prog_11_method_86_code
def yX9_sheet : MethodName := ⟨RX9, "sheet", "(III)I"⟩
abbrev cX9_lay : ByteArray := prog_11_method_87_code
def yX9_lay : MethodName := ⟨RX9, "lay", "(III)I"⟩
abbrev cX9_read : ByteArray := prog_11_method_88_code
def yX9_read : MethodName := ⟨RX9, "read", "(IIII)I"⟩
abbrev cX9_torn : ByteArray := prog_11_method_89_code
def yX9_torn : MethodName := ⟨RX9, "torn", "()I"⟩
abbrev cX9_count : ByteArray := prog_11_method_90_code
def yX9_count : MethodName := ⟨RX9, "count", "(I)I"⟩
def RJ6 : String := "java/lang/Integer"
def TJ6 : u_T := fun k => match k with
  | _ => ("", "", "", false)
def tyJ6 : Nat → FieldType := fun k => match k with
  | _ => .int
abbrev wsJ60 : List Cond := u_ws RJ6 TJ6 0
theorem nmJ6 : ∀ a, a < 0 → ∀ b, b < 0 → a ≠ b → (TJ6 a).2.1 ≠ (TJ6 b).2.1 := by decide +kernel
theorem tyJ6_ok : ∀ k, k < 0 → parseFieldDescriptor (TJ6 k).2.2.1 = some (tyJ6 k) := by decide +kernel
abbrev cJ6_bitCount_0f7a4 : ByteArray := prog_12_method_49_code
def yJ6_bitCount_0f7a4 : MethodName := ⟨RJ6, "bitCount", "(I)I"⟩
def RJ9 : String := "java/lang/Math"
def TJ9 : u_T := fun k => match k with
  | _ => ("", "", "", false)
def tyJ9 : Nat → FieldType := fun k => match k with
  | _ => .int
abbrev wsJ90 : List Cond := u_ws RJ9 TJ9 0
theorem nmJ9 : ∀ a, a < 0 → ∀ b, b < 0 → a ≠ b → (TJ9 a).2.1 ≠ (TJ9 b).2.1 := by decide +kernel
theorem tyJ9_ok : ∀ k, k < 0 → parseFieldDescriptor (TJ9 k).2.2.1 = some (tyJ9 k) := by decide +kernel
abbrev cJ9_abs_0f7a4 : ByteArray := prog_13_method_59_code
def yJ9_abs_0f7a4 : MethodName := ⟨RJ9, "abs", "(I)I"⟩
abbrev cJ9_max_7cf53 : ByteArray := prog_13_method_65_code
def yJ9_max_7cf53 : MethodName := ⟨RJ9, "max", "(II)I"⟩
abbrev cJ9_min_7cf53 : ByteArray := prog_13_method_69_code
def yJ9_min_7cf53 : MethodName := ⟨RJ9, "min", "(II)I"⟩
def RJ0 : String := "java/lang/String"
def TJ0 : u_T := fun k => match k with
  | _ => ("", "", "", false)
def tyJ0 : Nat → FieldType := fun k => match k with
  | _ => .int
abbrev wsJ00 : List Cond := u_ws RJ0 TJ0 0
theorem nmJ0 : ∀ a, a < 0 → ∀ b, b < 0 → a ≠ b → (TJ0 a).2.1 ≠ (TJ0 b).2.1 := by decide +kernel
theorem tyJ0_ok : ∀ k, k < 0 → parseFieldDescriptor (TJ0 k).2.2.1 = some (tyJ0 k) := by decide +kernel
abbrev cJ0_length_8abf5 : ByteArray := prog_14_method_54_code
def yJ0_length_8abf5 : MethodName := ⟨RJ0, "length", "()I"⟩
abbrev cJ0_charAt_5068e : ByteArray := prog_14_method_56_code
def yJ0_charAt_5068e : MethodName := ⟨RJ0, "charAt", "(I)C"⟩
abbrev cJ0_coder_7d493 : ByteArray := prog_14_method_152_code
def yJ0_coder_7d493 : MethodName := ⟨RJ0, "coder", "()B"⟩
abbrev cJ0_isLatin1_aae02 : ByteArray := prog_14_method_154_code
def yJ0_isLatin1_aae02 : MethodName := ⟨RJ0, "isLatin1", "()Z"⟩
abbrev cJ0_checkIndex_df160 : ByteArray := prog_14_method_155_code
def yJ0_checkIndex_df160 : MethodName := ⟨RJ0, "checkIndex", "(II)V"⟩
def RJ1 : String := "java/lang/StringLatin1"
def TJ1 : u_T := fun k => match k with
  | _ => ("", "", "", false)
def tyJ1 : Nat → FieldType := fun k => match k with
  | _ => .int
abbrev wsJ10 : List Cond := u_ws RJ1 TJ1 0
theorem nmJ1 : ∀ a, a < 0 → ∀ b, b < 0 → a ≠ b → (TJ1 a).2.1 ≠ (TJ1 b).2.1 := by decide +kernel
theorem tyJ1_ok : ∀ k, k < 0 → parseFieldDescriptor (TJ1 k).2.2.1 = some (tyJ1 k) := by decide +kernel
abbrev cJ1_charAt_3b067 : ByteArray := prog_15_method_2_code
def yJ1_charAt_3b067 : MethodName := ⟨RJ1, "charAt", "([BI)C"⟩
def RJ2 : String := "java/lang/StringUTF16"
def TJ2 : u_T := fun k => match k with
  | _ => ("", "", "", false)
def tyJ2 : Nat → FieldType := fun k => match k with
  | _ => .int
abbrev wsJ20 : List Cond := u_ws RJ2 TJ2 0
theorem nmJ2 : ∀ a, a < 0 → ∀ b, b < 0 → a ≠ b → (TJ2 a).2.1 ≠ (TJ2 b).2.1 := by decide +kernel
theorem tyJ2_ok : ∀ k, k < 0 → parseFieldDescriptor (TJ2 k).2.2.1 = some (tyJ2 k) := by decide +kernel
abbrev cJ2_getChar_3b067 : ByteArray := prog_16_method_5_code
def yJ2_getChar_3b067 : MethodName := ⟨RJ2, "getChar", "([BI)C"⟩
abbrev cJ2_length_9d52b : ByteArray := prog_16_method_6_code
def yJ2_length_9d52b : MethodName := ⟨RJ2, "length", "([B)I"⟩
abbrev cJ2_charAt_3b067 : ByteArray := prog_16_method_83_code
def yJ2_charAt_3b067 : MethodName := ⟨RJ2, "charAt", "([BI)C"⟩
abbrev cJ2_checkIndex_2214a : ByteArray := prog_16_method_91_code
def yJ2_checkIndex_2214a : MethodName := ⟨RJ2, "checkIndex", "(I[B)V"⟩
def RJ10 : String := "java/lang/System"
def TJ10 : u_T := fun k => match k with
  | _ => ("", "", "", false)
def tyJ10 : Nat → FieldType := fun k => match k with
  | _ => .int
abbrev wsJ100 : List Cond := u_ws RJ10 TJ10 0
theorem nmJ10 : ∀ a, a < 0 → ∀ b, b < 0 → a ≠ b → (TJ10 a).2.1 ≠ (TJ10 b).2.1 := by decide +kernel
theorem tyJ10_ok : ∀ k, k < 0 → parseFieldDescriptor (TJ10 k).2.2.1 = some (tyJ10 k) := by decide +kernel
def RJ3 : String := "jdk/internal/util/Preconditions"
def TJ3 : u_T := fun k => match k with
  | _ => ("", "", "", false)
def tyJ3 : Nat → FieldType := fun k => match k with
  | _ => .int
abbrev wsJ30 : List Cond := u_ws RJ3 TJ3 0
theorem nmJ3 : ∀ a, a < 0 → ∀ b, b < 0 → a ≠ b → (TJ3 a).2.1 ≠ (TJ3 b).2.1 := by decide +kernel
theorem tyJ3_ok : ∀ k, k < 0 → parseFieldDescriptor (TJ3 k).2.2.1 = some (tyJ3 k) := by decide +kernel
abbrev cJ3_checkIndex_8e157 : ByteArray := prog_18_method_11_code
def yJ3_checkIndex_8e157 : MethodName := ⟨RJ3, "checkIndex", "(IILjava/util/function/BiFunction;)I"⟩
def RL : String := "UpperStepsLaw"
abbrev cL_law : ByteArray := code
def yL_law : MethodName := ⟨RL, "law", "([I)Z"⟩
abbrev vwCl : List vw_C := [(RX0, TX0, 14), (RX1, TX1, 3), (RX2, TX2, 2), (RX3, TX3, 6), (RX4, TX4, 4), (RX5, TX5, 3), (RX6, TX6, 4), (RX7, TX7, 5), (RX8, TX8, 12), (RX9, TX9, 34)]
abbrev WL : List Cond := lw_tbl.filter goodWord
theorem wlm {w : Cond} (i : Nat) (h : lw_tbl[i]? = some w) (g : goodWord w = true) : w ∈ WL := List.mem_filter.mpr ⟨List.mem_of_getElem? h, g⟩
theorem wl_in {ws : List Cond} (h : ws.all (fun w => decide (w ∈ lw_tbl) && goodWord w) = true) : ∀ w ∈ ws, w ∈ WL := fun w hw => by
  have h1 := List.all_eq_true.mp h w hw
  simp only [Bool.and_eq_true, decide_eq_true_eq] at h1
  exact List.mem_filter.mpr ⟨h1.1, h1.2⟩
set_option maxRecDepth 20000 in
theorem inWX0 : ∀ w ∈ u_ws RX0 TX0 14, w ∈ WL := wl_in (by decide +kernel)
set_option maxRecDepth 20000 in
theorem inWX1 : ∀ w ∈ u_ws RX1 TX1 3, w ∈ WL := wl_in (by decide +kernel)
set_option maxRecDepth 20000 in
theorem inWX2 : ∀ w ∈ u_ws RX2 TX2 2, w ∈ WL := wl_in (by decide +kernel)
set_option maxRecDepth 20000 in
theorem inWX3 : ∀ w ∈ u_ws RX3 TX3 6, w ∈ WL := wl_in (by decide +kernel)
set_option maxRecDepth 20000 in
theorem inWX4 : ∀ w ∈ u_ws RX4 TX4 4, w ∈ WL := wl_in (by decide +kernel)
set_option maxRecDepth 20000 in
theorem inWX5 : ∀ w ∈ u_ws RX5 TX5 3, w ∈ WL := wl_in (by decide +kernel)
set_option maxRecDepth 20000 in
theorem inWX6 : ∀ w ∈ u_ws RX6 TX6 4, w ∈ WL := wl_in (by decide +kernel)
set_option maxRecDepth 20000 in
theorem inWX7 : ∀ w ∈ u_ws RX7 TX7 5, w ∈ WL := wl_in (by decide +kernel)
set_option maxRecDepth 20000 in
theorem inWX8 : ∀ w ∈ u_ws RX8 TX8 12, w ∈ WL := wl_in (by decide +kernel)
set_option maxRecDepth 20000 in
theorem inWX9 : ∀ w ∈ u_ws RX9 TX9 34, w ∈ WL := wl_in (by decide +kernel)
end
section
/-! THE STORE: all objects of the class and of the reference by number, their ints, longs and rows as functions; no method but the constructors makes anything -/
abbrev OV : Type := (Nat → Int32) × (Nat → Int64) × (Nat → Nat → Int32)
abbrev ZS : Type := Nat → OV
abbrev ZA : Type := Nat → Nat → Nat
abbrev ZM : Type := MethodName × ByteArray × Nat × Option FieldType

/-- the class of an object, by its number: 0 UpperSteps; 1 house, 2 trial, 3 the parser's house, 4 the running steps' other, 5 6 the images' houses; 7 sightings, 8 9 the images'; 10 11 images; 12 to 15 sheets; 16 tape; 17 parser; 18 running steps; 19 outlook; 20 the reference -/
def zcls (o : Nat) : Nat := [8, 0, 0, 0, 0, 0, 0, 6, 6, 6, 1, 1, 5, 5, 5, 5, 7, 3, 4, 2, 9].getD o 99
/-- the object that a field leads to -/
def ztg (o k : Nat) : Nat := if o = 0 then [1, 2, 17, 99, 7, 99, 99, 99, 99, 99, 18, 19].getD k 99 else if o = 17 then (if k = 4 then 16 else 3) else if o = 18 then 4 else (if k = 1 then o - 5 else o - 2)

/-- the fields of an object of class c -/
def zfs (ad : ZA) (c o : Nat) (v : OV) : List Value := match c with
  | 0 => [.int (v.1 0), .ref (ad o 2), .ref (ad o 3), .ref (ad o 4), .int (v.1 4), .ref (ad o 6), .ref (ad o 7), .ref (ad o 8), .ref (ad o 9), .int (v.1 9), .int (v.1 10), .int (v.1 11), .int (v.1 12), .int (v.1 13)]
  | 1 => [.int (v.1 0), .ref (ad (ztg o 1) 0), .ref (ad (ztg o 2) 0)]
  | 2 => [.ref (ad o 1), .ref (ad o 2)]
  | 3 => [.int (v.1 0), .int (v.1 1), .int (v.1 2), .int (v.1 3), .ref (ad (ztg o 4) 0), .ref (ad (ztg o 5) 0)]
  | 4 => [.int (v.1 0), .ref (ad o 2), .ref (ad o 3), .ref (ad (ztg o 3) 0)]
  | 5 => [.int (v.1 0), .int (v.1 1), .ref (ad o 3)]
  | 6 => [.int (v.1 0), .ref (ad o 2), .ref (ad o 3), .ref (ad o 4)]
  | 7 => [.ref (ad o 1), .int (v.1 1), .int (v.1 2), .int (v.1 3), .int (v.1 4)]
  | 8 => [.ref (ad (ztg o 0) 0), .ref (ad (ztg o 1) 0), .ref (ad (ztg o 2) 0), .int (v.1 3), .ref (ad (ztg o 4) 0), .ref (ad o 6), .ref (ad o 7), .int (v.1 7), .ref (ad o 9), .ref (ad o 10), .ref (ad (ztg o 10) 0), .ref (ad (ztg o 11) 0)]
  | 9 => [.ref (ad o 1), .ref (ad o 2), .ref (ad o 3), .int (v.1 3), .int (v.1 4), .ref (ad o 6), .int (v.1 6), .int (v.1 7), .int (v.1 8), .int (v.1 9), .ref (ad o 11), .int (v.1 11), .int (v.1 12), .int (v.1 13), .int (v.1 14), .int (v.1 15), .int (v.1 16), .int (v.1 17), .int (v.1 18), .int (v.1 19), .int (v.1 20), .int (v.1 21), .ref (ad o 23), .ref (ad o 24), .long (v.2.1 24), .long (v.2.1 25), .long (v.2.1 26), .ref (ad o 28), .ref (ad o 29), .ref (ad o 30), .ref (ad o 31), .ref (ad o 32), .int (v.1 32), .ref (ad o 34)]
  | _ => []
/-- the kind of the row in a slot: 0 int, 1 byte, 2 boolean, 3 images, 4 sheets, 5 rows -/
def zak (c k : Nat) : Nat := if c = 7 ∧ k = 0 then 1 else if c = 9 ∧ k = 2 then 2 else if c = 8 ∧ k = 5 then 3 else if c = 8 ∧ k = 6 then 4 else if c = 2 ∧ k = 0 then 5 else 0
def zal (c k : Nat) : Nat := match c, k with
  | 0, 1 => 8
  | 0, 2 => 8
  | 0, 3 => 8
  | 0, 5 => 4
  | 0, 6 => 4
  | 0, 7 => 4
  | 0, 8 => 4
  | 2, 0 => 10
  | 2, 1 => 9
  | 2, 10 => 84
  | 2, 11 => 84
  | 2, 12 => 84
  | 2, 13 => 84
  | 2, 14 => 84
  | 2, 15 => 84
  | 2, 16 => 84
  | 2, 17 => 84
  | 2, 18 => 84
  | 2, 19 => 84
  | 4, 1 => 8
  | 4, 2 => 8
  | 5, 2 => 40
  | 6, 1 => 6
  | 6, 2 => 6
  | 6, 3 => 6
  | 7, 0 => 160
  | 8, 5 => 2
  | 8, 6 => 4
  | 8, 8 => 4
  | 8, 9 => 4
  | 9, 0 => 186
  | 9, 1 => 62
  | 9, 2 => 2
  | 9, 5 => 62
  | 9, 10 => 160
  | 9, 22 => 4
  | 9, 23 => 4
  | 9, 27 => 84
  | 9, 28 => 840
  | 9, 29 => 4
  | 9, 30 => 4
  | 9, 31 => 160
  | 9, 33 => 62
  | _, _ => 0
def zsub (c : Nat) : List Nat := match c with
  | 0 => [0, 2, 3, 4, 6, 7, 8, 9]
  | 1 => [0]
  | 2 => [0, 1, 2, 11, 12, 13, 14, 15, 16, 17, 18, 19, 20]
  | 3 => [0]
  | 4 => [0, 2, 3]
  | 5 => [0, 3]
  | 6 => [0, 2, 3, 4]
  | 7 => [0, 1]
  | 8 => [0, 6, 7, 9, 10]
  | 9 => [0, 1, 2, 3, 6, 11, 23, 24, 28, 29, 30, 31, 32, 34]
  | _ => []
def zCL : List (Nat × Nat) := (List.range 21).flatMap fun o => (zsub (zcls o)).map fun k => (o, k)
/-- what a row of references holds -/
def zrf (ad : ZA) (o k : Nat) (i : Nat) : Option Nat := if k = 5 then some (ad (10 + i) 0) else if k = 6 then some (ad (12 + i) 0) else some (ad o (11 + i))
/-- a row of an object, as a cell -/
def zrow (ad : ZA) (ia : Nat → ClassId) (o c k : Nat) (v : OV) : va_E := if zak c k ≤ 2 then .inl (ia (zak c k), zal c k, .inl (v.2.2 k)) else .inl (ia (zak c k), zal c k, .inr (.inr (.inr (.inr (zrf ad o k)))))
/-- the cell of object o, part k -/
def zce (ad : ZA) (ia : Nat → ClassId) (s : ZS) (o k : Nat) : va_E := match k with
  | 0 => .inr (zcls o, zfs ad (zcls o) o (s o))
  | k + 1 => zrow ad ia o (zcls o) k (s o)
def zLL (ad : ZA) : List Nat := zCL.map (fun q => ad q.1 q.2)
def zAd (ad : ZA) : Nat → Prop := fun q => q ∈ zLL ad
def ztys (ia : Nat → ClassId) : List (ClassId × FieldType) := [(ia 0, .int), (ia 1, .byte), (ia 2, .boolean), (ia 3, .object "UpperSteps$Image"), (ia 4, .object "UpperSteps$Sheet"), (ia 5, .array .int)]
/-- the heap holds the store -/
def zW (ad : ZA) (D : va_G) (ia : Nat → ClassId) (s : ZS) (H : Heap) : Prop := ∃ f : Nat → va_E, (∀ q ∈ zCL, f (ad q.1 q.2) = zce ad ia s q.1 q.2) ∧ va_P D vwCl (va_pl (zLL ad) f) H
/-- the links to private members of nest mates -/
def zNW : List Cond := [.methodLinkNest "UpperSteps$House" 100 yX8_exchange "UpperSteps", .methodLinkNest "UpperSteps$Parser" 125 yX8_outside "UpperSteps", .methodLinkNest "UpperSteps$Sheet" 22 yX8_outside "UpperSteps"]
def zK (ad : ZA) (D : va_G) (ia : Nat → ClassId) (U : State) : Prop := (zLL ad).Nodup ∧ va_K D vwCl (ztys ia) U ∧ ∀ w ∈ zNW, va_Nw w U
def zP (ad : ZA) (D : va_G) (ia : Nat → ClassId) (s : ZS) : State → Prop := fun U => zK ad D ia U ∧ zW ad D ia s U.heap
def zQ (ad : ZA) (D : va_G) (ia : Nat → ClassId) (X : Option Value) (Y : ZS) : Array Value → State → Outcome → State → Prop := fun _ st oc t => (oc = .returned X ∧ zW ad D ia Y t.heap) ∧ va_F (zAd ad) st t
def zrm (d : Nat) : Room := { frames := d, cells := 0, slots := 0, locals := 38 * d }
/-- METHOD M, called with av over the store s, returns X and leaves the store Y; d frames are left to it -/
def Ev (l : Launch) (ad : ZA) (D : va_G) (ia : Nat → ClassId) (d : Nat) (M : ZM) (av : List Value) (s : ZS) (X : Option Value) (Y : ZS) : Prop :=
  Met l M.1 (.code M.1 M.2.1 M.2.2.1 M.2.2.2 :: WL) (zrm d) (va_Pc av (zP ad D ia s)) (zQ ad D ia X Y) 0 0 (zAd ad)
abbrev ZC : Type := Program × Env × Room × State × MethodId × Array Value × List Frame × Method × Code
/-- THE FRAME of a method, at pc, with locals V and stack St over the store s, returns X and leaves Y -/
def Z (l : Launch) (ad : ZA) (D : va_G) (ia : Nat → ClassId) (C : ZC) (X : Option Value) (Y : ZS) (pc : Nat) (V : List (Nat × Value)) (St : List Value) (s : ZS) : Prop := match C with
  | (p, e, R, s0, m, args, below, meth, c) => ∀ (H : Heap) (locs : List Loc) (ls : Array Slot), zW ad D ia s H → va_S (zAd ad) s0.heap H locs → lv_has ls c.maxLocals V → W p l e R s0 m args below meth c H locs 0 0 (MQ below (zQ ad D ia X Y) args s0 0 0 (zAd ad)) (F0 m pc ls St)
/-- what is fixed of a frame -/
def Zok (ad : ZA) (D : va_G) (ia : Nat → ClassId) (C : ZC) (d : Nat) (cc : ByteArray) (nL : Nat) (own : String) (ret : Option FieldType) : Prop := match C with
  | (p, _, R, s0, m, args, _, meth, c) => p.tables.exec = Jvm.exec ∧ c.code = cc ∧ c.maxLocals = nL ∧ s0.vm.findClass own = some m.cls ∧ (∀ w ∈ WL, w.before args s0 = true) ∧ meth.sig.returnType = ret ∧ meth.locks = false ∧ R = zrm d ∧ zK ad D ia s0
theorem zWL_good : GoodIn WL WL := fun w h => ⟨h, good_of_word (List.mem_filter.mp h).2⟩
theorem zgood {M : ZM} {big : List Cond} (h1 : Cond.code M.1 M.2.1 M.2.2.1 M.2.2.2 ∈ WL) (hb : ∀ w ∈ WL, w ∈ big) : GoodIn big (.code M.1 M.2.1 M.2.2.1 M.2.2.2 :: WL) := fun w h => by
  have h2 : w ∈ WL := (List.mem_cons.mp h).elim (fun e => e ▸ h1) id
  exact ⟨hb w h2, (zWL_good w h2).2⟩

theorem nodup_inj {α β : Type} {g : α → β} : ∀ {L : List α}, (L.map g).Nodup → ∀ a ∈ L, ∀ b ∈ L, g a = g b → a = b
  | [], _, a, ha, _, _, _ => absurd ha List.not_mem_nil
  | x :: L, h, a, ha, b, hb, e => by
    rw [List.map_cons, List.nodup_cons] at h
    rcases List.mem_cons.mp ha with rfl | ha
    · rcases List.mem_cons.mp hb with rfl | hb
      · rfl
      · exact absurd (List.mem_map.mpr ⟨b, hb, e.symm⟩) h.1
    · rcases List.mem_cons.mp hb with hb0 | hb
      · exact absurd (List.mem_map.mpr ⟨a, ha, e.trans (congrArg g hb0)⟩) h.1
      · exact nodup_inj h.2 a ha b hb e
theorem zmem {o k : Nat} (h : k ∈ zsub (zcls o)) : (o, k) ∈ zCL := by
  have ho : o < 21 := by
    apply Classical.byContradiction
    intro hn
    have e : zcls o = 99 := by
      unfold zcls
      rw [List.getD_eq_getElem?_getD, List.getElem?_eq_none (by simpa using Nat.le_of_not_lt hn)]
      rfl
    rw [e] at h
    simp [zsub] at h
  exact List.mem_flatMap.mpr ⟨o, List.mem_range.mpr ho, List.mem_map.mpr ⟨k, h, rfl⟩⟩
theorem zD {ad : ZA} {f : Nat → va_E} (h : (zLL ad).Nodup) : va_D (zAd ad) (va_pl (zLL ad) f) := by
  constructor
  · intro i j p q hi hj e
    simp only [va_pl, List.getElem?_map, Option.map_eq_some_iff] at hi hj
    obtain ⟨a, ha, rfl⟩ := hi
    obtain ⟨b, hb, rfl⟩ := hj
    have e : a = b := e
    subst e
    obtain ⟨hi1, hi2⟩ := List.getElem?_eq_some_iff.mp ha
    obtain ⟨hj1, hj2⟩ := List.getElem?_eq_some_iff.mp hb
    have hp := List.pairwise_iff_getElem.mp h
    rcases Nat.lt_trichotomy i j with c | c | c
    · exact absurd (hi2.trans hj2.symm) (hp i j hi1 hj1 c)
    · exact c
    · exact absurd (hj2.trans hi2.symm) (hp j i hj1 hi1 c)
  · intro k q hk
    simp only [va_pl, List.getElem?_map, Option.map_eq_some_iff] at hk
    obtain ⟨a, ha, rfl⟩ := hk
    exact List.mem_of_getElem? ha
theorem zget {ad : ZA} {f : Nat → va_E} {ia : Nat → ClassId} {s : ZS} (hf : ∀ q ∈ zCL, f (ad q.1 q.2) = zce ad ia s q.1 q.2) {o k : Nat} (hm : (o, k) ∈ zCL) : ∃ q0 : Nat, (va_pl (zLL ad) f)[q0]? = some (ad o k, f (ad o k)) ∧ (va_pl (zLL ad) f)[q0]? = some (ad o k, zce ad ia s o k) := by
  obtain ⟨q0, h⟩ := va_pl_get (X := []) (f := f) (L := zLL ad) (a := ad o k) (List.mem_map.mpr ⟨(o, k), hm, rfl⟩)
  have h : (va_pl (zLL ad) f)[q0]? = some (ad o k, f (ad o k)) := h
  exact ⟨q0, h, by rw [h, hf (o, k) hm]⟩
/-- a cell is changed: the store is -/
theorem zset {ad : ZA} {f : Nat → va_E} {D : va_G} {ia : Nat → ClassId} {s s' : ZS} {H1 : Heap} (hn : (zLL ad).Nodup) (hf : ∀ q ∈ zCL, f (ad q.1 q.2) = zce ad ia s q.1 q.2) {o k q0 : Nat} (hm : (o, k) ∈ zCL) (hq : (va_pl (zLL ad) f)[q0]? = some (ad o k, f (ad o k)))
    (hP : va_P D vwCl ((va_pl (zLL ad) f).set q0 (ad o k, zce ad ia s' o k)) H1) (ho : ∀ q : Nat × Nat, q ≠ (o, k) → zce ad ia s' q.1 q.2 = zce ad ia s q.1 q.2) : zW ad D ia s' H1 := by
  refine ⟨va_up f (ad o k) (zce ad ia s' o k), ?_, ?_⟩
  · intro q hqm
    by_cases e : q = (o, k)
    · subst e
      simp [va_up]
    · have hne : ad q.1 q.2 ≠ ad o k := fun h => e (nodup_inj hn q hqm (o, k) hm h)
      rw [ho q e, ← hf q hqm]
      simp [va_up, hne]
  · have h := va_pl_set (A := zAd ad) (X := []) (L := zLL ad) (f := f) (a := ad o k) (k := q0) (e := zce ad ia s' o k) (zD hn) (List.mem_map.mpr ⟨(o, k), hm, rfl⟩) hq
    have h : (va_pl (zLL ad) f).set q0 (ad o k, zce ad ia s' o k) = va_pl (zLL ad) (va_up f (ad o k) (zce ad ia s' o k)) := h
    rw [← h]
    exact hP
def setI (v : OV) (k : Nat) (x : Int32) : OV := (va_up v.1 k x, v.2.1, v.2.2)
def setL (v : OV) (k : Nat) (x : Int64) : OV := (v.1, va_up v.2.1 k x, v.2.2)
def setA (v : OV) (k : Nat) (f : Nat → Int32) : OV := (v.1, v.2.1, va_up v.2.2 k f)
def zlk (own : String) (idx c k : Nat) : Prop := ∃ q : vw_C, vwCl[c]? = some q ∧ (∀ w ∈ u_ws q.1 q.2.1 q.2.2, w ∈ WL) ∧ k < q.2.2 ∧ Cond.fieldLink own idx (q.2.1 k).1 (q.2.1 k).2.1 (q.2.1 k).2.2.1 ∈ WL
def zpk (own : String) (idx c k : Nat) (ty : FieldType) : Prop := ∃ (q : vw_C) (ty0 : Nat → FieldType), vwCl[c]? = some q ∧ (∀ w ∈ u_ws q.1 q.2.1 q.2.2, w ∈ WL) ∧ k < q.2.2 ∧ Cond.fieldLink own idx (q.2.1 k).1 (q.2.1 k).2.1 (q.2.1 k).2.2.1 ∈ WL ∧ (∀ k, k < q.2.2 → parseFieldDescriptor (q.2.1 k).2.2.1 = some (ty0 k)) ∧ (∀ a, a < q.2.2 → ∀ b, b < q.2.2 → a ≠ b → (q.2.1 a).2.1 ≠ (q.2.1 b).2.1) ∧ (q.2.1 k).2.2.2 = false ∧ parseFieldDescriptor (q.2.1 k).2.2.1 = some ty
/-- slot k of object o holds a row of a kind, n long -/
def zis (o k kind n : Nat) : Prop := k + 1 ∈ zsub (zcls o) ∧ zak (zcls o) k = kind ∧ zal (zcls o) k = n
theorem zis_of {o c k kind n : Nat} (h : zcls o = c) (h2 : (decide (k + 1 ∈ zsub c) && (zak c k == kind && zal c k == n)) = true) : zis o k kind n := by
  subst h
  simpa [zis] using h2
theorem lk_mem {V : List (Nat × Value)} {i : Nat} {v : Value} : V.lookup i = some v → (i, v) ∈ V := by
  induction V with
  | nil => intro h; simp at h
  | cons q V ih =>
    intro h
    obtain ⟨a, b⟩ := q
    rw [List.lookup_cons] at h
    by_cases e : i = a
    · subst e
      simp at h
      subst h
      exact List.mem_cons_self
    · have e2 : (i == a) = false := by simpa using e
      rw [e2] at h
      exact List.mem_cons_of_mem _ (ih h)
def zcV (own : String) (idx : Nat) (M : ZM) (n : Nat) : Prop := (Cond.methodLink own idx M.1 ∈ WL ∧ Cond.instanceMethod M.1 ∈ WL ∧ Cond.selects M.1.cls M.1 M.1 ∈ WL ∧ Cond.initialized M.1.cls ∈ WL ∧ Cond.code M.1 M.2.1 M.2.2.1 M.2.2.2 ∈ WL) ∧ (M.1.cls ≠ "java/lang/invoke/MethodHandle" ∧ M.1.cls ≠ "java/lang/invoke/VarHandle" ∧ (parseMethodDescriptor M.1.desc).map (fun d => d.parameters.length) = some n) ∧ M.2.2.1 ≤ 19
def zcS (own : String) (idx : Nat) (M : ZM) (n : Nat) : Prop := (Cond.methodLink own idx M.1 ∈ WL ∧ Cond.static M.1 ∈ WL ∧ Cond.initialized M.1.cls ∈ WL ∧ Cond.code M.1 M.2.1 M.2.2.1 M.2.2.2 ∈ WL) ∧ (M.1.cls ≠ "java/lang/invoke/MethodHandle" ∧ M.1.cls ≠ "java/lang/invoke/VarHandle" ∧ (parseMethodDescriptor M.1.desc).map (fun d => d.parameters.length) = some n) ∧ M.2.2.1 ≤ 19
def zcN (own : String) (idx : Nat) (M : ZM) (n : Nat) : Prop := (Cond.methodLinkNest own idx M.1 "UpperSteps" ∈ zNW ∧ Cond.static M.1 ∈ WL ∧ Cond.initialized M.1.cls ∈ WL ∧ Cond.code M.1 M.2.1 M.2.2.1 M.2.2.2 ∈ WL) ∧ (M.1.cls ≠ "java/lang/invoke/MethodHandle" ∧ M.1.cls ≠ "java/lang/invoke/VarHandle" ∧ (parseMethodDescriptor M.1.desc).map (fun d => d.parameters.length) = some n) ∧ M.2.2.1 ≤ 19
section ZL
variable {l : Launch} {ad : ZA} {D : va_G} {ia : Nat → ClassId} {C : ZC} {X : Option Value} {Y : ZS} {d nL pc : Nat} {cc : ByteArray} {own : String} {ret : Option FieldType} {V : List (Nat × Value)} {St : List Value} {s : ZS}

theorem Z_iconst (hC : Zok ad D ia C d cc nL own ret) {n : Int} {v : Int32} (dd : decode cc pc = .ok (.iconst n, 1)) (hv : Int32.ofInt n = v) (k : Z l ad D ia C X Y (pc + 1) V (.int v :: St) s) : Z l ad D ia C X Y pc V (St) s := by
  obtain ⟨p, e, R, s0, m, args, below, meth, c0⟩ := C
  obtain ⟨hx, hb, hml, hown, hts, hr, hlk, hR, hKK⟩ := hC
  intro H locs ls hw hS hl
  exact lv_iconst hx hb dd hv (k H locs ls hw hS hl)
theorem Z_bipush (hC : Zok ad D ia C d cc nL own ret) {n : Int} {v : Int32} (dd : decode cc pc = .ok (.bipush n, 2)) (hv : (Int8.ofInt n).toInt32 = v) (k : Z l ad D ia C X Y (pc + 2) V (.int v :: St) s) : Z l ad D ia C X Y pc V (St) s := by
  obtain ⟨p, e, R, s0, m, args, below, meth, c0⟩ := C
  obtain ⟨hx, hb, hml, hown, hts, hr, hlk, hR, hKK⟩ := hC
  intro H locs ls hw hS hl
  exact lv_bipush hx hb dd hv (k H locs ls hw hS hl)
theorem Z_sipush (hC : Zok ad D ia C d cc nL own ret) {n : Int} {v : Int32} (dd : decode cc pc = .ok (.sipush n, 3)) (hv : (Int16.ofInt n).toInt32 = v) (k : Z l ad D ia C X Y (pc + 3) V (.int v :: St) s) : Z l ad D ia C X Y pc V (St) s := by
  obtain ⟨p, e, R, s0, m, args, below, meth, c0⟩ := C
  obtain ⟨hx, hb, hml, hown, hts, hr, hlk, hR, hKK⟩ := hC
  intro H locs ls hw hS hl
  exact lv_sipush hx hb dd hv (k H locs ls hw hS hl)
theorem Z_lconst (hC : Zok ad D ia C d cc nL own ret) {n : Fin 2} {v : Int64} (dd : decode cc pc = .ok (.lconst n, 1)) (hv : Int64.ofNat (n : Nat) = v) (k : Z l ad D ia C X Y (pc + 1) V (.long v :: St) s) : Z l ad D ia C X Y pc V (St) s := by
  obtain ⟨p, e, R, s0, m, args, below, meth, c0⟩ := C
  obtain ⟨hx, hb, hml, hown, hts, hr, hlk, hR, hKK⟩ := hC
  intro H locs ls hw hS hl
  exact lv_lconst hx hb dd hv (k H locs ls hw hS hl)
theorem Z_ldc (hC : Zok ad D ia C d cc nL own ret) {idx : Nat} {v : Int32} (hc : Cond.constant own idx v ∈ WL) (dd : decode cc pc = .ok (.ldc idx, 2)) (k : Z l ad D ia C X Y (pc + 2) V (.int v :: St) s) : Z l ad D ia C X Y pc V (St) s := by
  obtain ⟨p, e, R, s0, m, args, below, meth, c0⟩ := C
  obtain ⟨hx, hb, hml, hown, hts, hr, hlk, hR, hKK⟩ := hC
  intro H locs ls hw hS hl
  exact lv_ldc hx hb hown (hts _ hc) dd (k H locs ls hw hS hl)
theorem Z_ldcw (hC : Zok ad D ia C d cc nL own ret) {idx : Nat} {v : Int32} (hc : Cond.constant own idx v ∈ WL) (dd : decode cc pc = .ok (.ldc_w idx, 3)) (k : Z l ad D ia C X Y (pc + 3) V (.int v :: St) s) : Z l ad D ia C X Y pc V (St) s := by
  obtain ⟨p, e, R, s0, m, args, below, meth, c0⟩ := C
  obtain ⟨hx, hb, hml, hown, hts, hr, hlk, hR, hKK⟩ := hC
  intro H locs ls hw hS hl
  exact lv_ldcw hx hb hown (hts _ hc) dd (k H locs ls hw hS hl)
theorem Z_ldc2 (hC : Zok ad D ia C d cc nL own ret) {idx : Nat} {v : Int64} (hc : Cond.constantLong own idx v ∈ WL) (dd : decode cc pc = .ok (.ldc2_w idx, 3)) (k : Z l ad D ia C X Y (pc + 3) V (.long v :: St) s) : Z l ad D ia C X Y pc V (St) s := by
  obtain ⟨p, e, R, s0, m, args, below, meth, c0⟩ := C
  obtain ⟨hx, hb, hml, hown, hts, hr, hlk, hR, hKK⟩ := hC
  intro H locs ls hw hS hl
  exact lv_ldc2 hx hb hown (hts _ hc) dd (k H locs ls hw hS hl)
theorem Z_iload_n (hC : Zok ad D ia C d cc nL own ret) {n : Fin 4} {i : Nat} {x : Int32} (dd : decode cc pc = .ok (.iload_n n, 1)) (hi : (n : Nat) = i) (hv : V.lookup i = some (.int x)) (k : Z l ad D ia C X Y (pc + 1) V (.int x :: St) s) : Z l ad D ia C X Y pc V (St) s := by
  obtain ⟨p, e, R, s0, m, args, below, meth, c0⟩ := C
  obtain ⟨hx, hb, hml, hown, hts, hr, hlk, hR, hKK⟩ := hC
  intro H locs ls hw hS hl
  exact lv_iload_n hx hb dd hi (hl.2.2 _ (lk_mem hv)) (k H locs ls hw hS hl)
theorem Z_iload (hC : Zok ad D ia C d cc nL own ret) {i : Nat} {x : Int32} (dd : decode cc pc = .ok (.iload i, 2)) (hv : V.lookup i = some (.int x)) (k : Z l ad D ia C X Y (pc + 2) V (.int x :: St) s) : Z l ad D ia C X Y pc V (St) s := by
  obtain ⟨p, e, R, s0, m, args, below, meth, c0⟩ := C
  obtain ⟨hx, hb, hml, hown, hts, hr, hlk, hR, hKK⟩ := hC
  intro H locs ls hw hS hl
  exact lv_iload hx hb dd (hl.2.2 _ (lk_mem hv)) (k H locs ls hw hS hl)
theorem Z_istore_n (hC : Zok ad D ia C d cc nL own ret) {n : Fin 4} {i : Nat} {x : Int32} {V2 : List (Nat × Value)} (dd : decode cc pc = .ok (.istore_n n, 1)) (hi : (n : Nat) = i) (hn : i < nL) (h2 : (i, Value.int x) :: V.filter (fun q => !(q.1 == i) && !(q.1 + 1 == i && q.2.category == 2)) = V2) (k : Z l ad D ia C X Y (pc + 1) V2 (St) s) : Z l ad D ia C X Y pc V (.int x :: St) s := by
  obtain ⟨p, e, R, s0, m, args, below, meth, c0⟩ := C
  obtain ⟨hx, hb, hml, hown, hts, hr, hlk, hR, hKK⟩ := hC
  intro H locs ls hw hS hl
  subst hml
  exact lv_istore_n hx hb dd hi hl hn h2 (fun ls2 hl2 => k H locs ls2 hw hS hl2)
theorem Z_istore (hC : Zok ad D ia C d cc nL own ret) {i : Nat} {x : Int32} {V2 : List (Nat × Value)} (dd : decode cc pc = .ok (.istore i, 2)) (hn : i < nL) (h2 : (i, Value.int x) :: V.filter (fun q => !(q.1 == i) && !(q.1 + 1 == i && q.2.category == 2)) = V2) (k : Z l ad D ia C X Y (pc + 2) V2 (St) s) : Z l ad D ia C X Y pc V (.int x :: St) s := by
  obtain ⟨p, e, R, s0, m, args, below, meth, c0⟩ := C
  obtain ⟨hx, hb, hml, hown, hts, hr, hlk, hR, hKK⟩ := hC
  intro H locs ls hw hS hl
  subst hml
  exact lv_istore hx hb dd hl hn h2 (fun ls2 hl2 => k H locs ls2 hw hS hl2)
theorem Z_lload_n (hC : Zok ad D ia C d cc nL own ret) {n : Fin 4} {i : Nat} {x : Int64} (dd : decode cc pc = .ok (.lload_n n, 1)) (hi : (n : Nat) = i) (hv : V.lookup i = some (.long x)) (k : Z l ad D ia C X Y (pc + 1) V (.long x :: St) s) : Z l ad D ia C X Y pc V (St) s := by
  obtain ⟨p, e, R, s0, m, args, below, meth, c0⟩ := C
  obtain ⟨hx, hb, hml, hown, hts, hr, hlk, hR, hKK⟩ := hC
  intro H locs ls hw hS hl
  exact lv_lload_n hx hb dd hi (hl.2.2 _ (lk_mem hv)) (k H locs ls hw hS hl)
theorem Z_lload (hC : Zok ad D ia C d cc nL own ret) {i : Nat} {x : Int64} (dd : decode cc pc = .ok (.lload i, 2)) (hv : V.lookup i = some (.long x)) (k : Z l ad D ia C X Y (pc + 2) V (.long x :: St) s) : Z l ad D ia C X Y pc V (St) s := by
  obtain ⟨p, e, R, s0, m, args, below, meth, c0⟩ := C
  obtain ⟨hx, hb, hml, hown, hts, hr, hlk, hR, hKK⟩ := hC
  intro H locs ls hw hS hl
  exact lv_lload hx hb dd (hl.2.2 _ (lk_mem hv)) (k H locs ls hw hS hl)
theorem Z_lstore_n (hC : Zok ad D ia C d cc nL own ret) {n : Fin 4} {i : Nat} {x : Int64} {V2 : List (Nat × Value)} (dd : decode cc pc = .ok (.lstore_n n, 1)) (hi : (n : Nat) = i) (hn : i + 1 < nL) (h2 : (i, Value.long x) :: V.filter (fun q => !(q.1 == i) && (!(q.1 == i + 1) && !(q.1 + 1 == i && q.2.category == 2))) = V2) (k : Z l ad D ia C X Y (pc + 1) V2 (St) s) : Z l ad D ia C X Y pc V (.long x :: St) s := by
  obtain ⟨p, e, R, s0, m, args, below, meth, c0⟩ := C
  obtain ⟨hx, hb, hml, hown, hts, hr, hlk, hR, hKK⟩ := hC
  intro H locs ls hw hS hl
  subst hml
  exact lv_lstore_n hx hb dd hi hl hn h2 (fun ls2 hl2 => k H locs ls2 hw hS hl2)
theorem Z_lstore (hC : Zok ad D ia C d cc nL own ret) {i : Nat} {x : Int64} {V2 : List (Nat × Value)} (dd : decode cc pc = .ok (.lstore i, 2)) (hn : i + 1 < nL) (h2 : (i, Value.long x) :: V.filter (fun q => !(q.1 == i) && (!(q.1 == i + 1) && !(q.1 + 1 == i && q.2.category == 2))) = V2) (k : Z l ad D ia C X Y (pc + 2) V2 (St) s) : Z l ad D ia C X Y pc V (.long x :: St) s := by
  obtain ⟨p, e, R, s0, m, args, below, meth, c0⟩ := C
  obtain ⟨hx, hb, hml, hown, hts, hr, hlk, hR, hKK⟩ := hC
  intro H locs ls hw hS hl
  subst hml
  exact lv_lstore hx hb dd hl hn h2 (fun ls2 hl2 => k H locs ls2 hw hS hl2)
theorem Z_aload_n (hC : Zok ad D ia C d cc nL own ret) {n : Fin 4} {i : Nat} {x : Nat} (dd : decode cc pc = .ok (.aload_n n, 1)) (hi : (n : Nat) = i) (hv : V.lookup i = some (.ref x)) (k : Z l ad D ia C X Y (pc + 1) V (.ref x :: St) s) : Z l ad D ia C X Y pc V (St) s := by
  obtain ⟨p, e, R, s0, m, args, below, meth, c0⟩ := C
  obtain ⟨hx, hb, hml, hown, hts, hr, hlk, hR, hKK⟩ := hC
  intro H locs ls hw hS hl
  exact lv_aload_n hx hb dd hi (hl.2.2 _ (lk_mem hv)) (k H locs ls hw hS hl)
theorem Z_aload (hC : Zok ad D ia C d cc nL own ret) {i : Nat} {x : Nat} (dd : decode cc pc = .ok (.aload i, 2)) (hv : V.lookup i = some (.ref x)) (k : Z l ad D ia C X Y (pc + 2) V (.ref x :: St) s) : Z l ad D ia C X Y pc V (St) s := by
  obtain ⟨p, e, R, s0, m, args, below, meth, c0⟩ := C
  obtain ⟨hx, hb, hml, hown, hts, hr, hlk, hR, hKK⟩ := hC
  intro H locs ls hw hS hl
  exact lv_aload hx hb dd (hl.2.2 _ (lk_mem hv)) (k H locs ls hw hS hl)
theorem Z_astore_n (hC : Zok ad D ia C d cc nL own ret) {n : Fin 4} {i : Nat} {x : Nat} {V2 : List (Nat × Value)} (dd : decode cc pc = .ok (.astore_n n, 1)) (hi : (n : Nat) = i) (hn : i < nL) (h2 : (i, Value.ref x) :: V.filter (fun q => !(q.1 == i) && !(q.1 + 1 == i && q.2.category == 2)) = V2) (k : Z l ad D ia C X Y (pc + 1) V2 (St) s) : Z l ad D ia C X Y pc V (.ref x :: St) s := by
  obtain ⟨p, e, R, s0, m, args, below, meth, c0⟩ := C
  obtain ⟨hx, hb, hml, hown, hts, hr, hlk, hR, hKK⟩ := hC
  intro H locs ls hw hS hl
  subst hml
  exact lv_astore_n hx hb dd hi hl hn h2 (fun ls2 hl2 => k H locs ls2 hw hS hl2)
theorem Z_astore (hC : Zok ad D ia C d cc nL own ret) {i : Nat} {x : Nat} {V2 : List (Nat × Value)} (dd : decode cc pc = .ok (.astore i, 2)) (hn : i < nL) (h2 : (i, Value.ref x) :: V.filter (fun q => !(q.1 == i) && !(q.1 + 1 == i && q.2.category == 2)) = V2) (k : Z l ad D ia C X Y (pc + 2) V2 (St) s) : Z l ad D ia C X Y pc V (.ref x :: St) s := by
  obtain ⟨p, e, R, s0, m, args, below, meth, c0⟩ := C
  obtain ⟨hx, hb, hml, hown, hts, hr, hlk, hR, hKK⟩ := hC
  intro H locs ls hw hS hl
  subst hml
  exact lv_astore hx hb dd hl hn h2 (fun ls2 hl2 => k H locs ls2 hw hS hl2)
theorem Z_iinc (hC : Zok ad D ia C d cc nL own ret) {i : Nat} {n : Int} {x v : Int32} {V2 : List (Nat × Value)} (dd : decode cc pc = .ok (.iinc i n, 3)) (hv : V.lookup i = some (.int x)) (hs : x + Int32.ofInt n = v) (hn : i < nL) (h2 : (i, Value.int v) :: V.filter (fun q => !(q.1 == i) && !(q.1 + 1 == i && q.2.category == 2)) = V2) (k : Z l ad D ia C X Y (pc + 3) V2 (St) s) : Z l ad D ia C X Y pc V (St) s := by
  obtain ⟨p, e, R, s0, m, args, below, meth, c0⟩ := C
  obtain ⟨hx, hb, hml, hown, hts, hr, hlk, hR, hKK⟩ := hC
  intro H locs ls hw hS hl
  subst hml
  obtain ⟨j, hj⟩ := List.getElem?_of_mem (lk_mem hv)
  exact lv_iinc hx hb dd hl (k := j) hj hs hn h2 (fun ls2 hl2 => k H locs ls2 hw hS hl2)
theorem Z_dup (hC : Zok ad D ia C d cc nL own ret) {a : Value} (dd : decode cc pc = .ok (.dup, 1)) (ha : a.category = 1) (k : Z l ad D ia C X Y (pc + 1) V (a :: a :: St) s) : Z l ad D ia C X Y pc V (a :: St) s := by
  obtain ⟨p, e, R, s0, m, args, below, meth, c0⟩ := C
  obtain ⟨hx, hb, hml, hown, hts, hr, hlk, hR, hKK⟩ := hC
  intro H locs ls hw hS hl
  exact lv_dup hx hb dd ha (k H locs ls hw hS hl)
theorem Z_dup2 (hC : Zok ad D ia C d cc nL own ret) {a b : Value} (dd : decode cc pc = .ok (.dup2, 1)) (ha : a.category = 1) (hb2 : b.category = 1) (k : Z l ad D ia C X Y (pc + 1) V (a :: b :: a :: b :: St) s) : Z l ad D ia C X Y pc V (a :: b :: St) s := by
  obtain ⟨p, e, R, s0, m, args, below, meth, c0⟩ := C
  obtain ⟨hx, hb, hml, hown, hts, hr, hlk, hR, hKK⟩ := hC
  intro H locs ls hw hS hl
  exact lv_dup2_11 hx hb dd ha hb2 (k H locs ls hw hS hl)
theorem Z_pop (hC : Zok ad D ia C d cc nL own ret) {a : Value} (dd : decode cc pc = .ok (.pop, 1)) (ha : a.category = 1) (k : Z l ad D ia C X Y (pc + 1) V (St) s) : Z l ad D ia C X Y pc V (a :: St) s := by
  obtain ⟨p, e, R, s0, m, args, below, meth, c0⟩ := C
  obtain ⟨hx, hb, hml, hown, hts, hr, hlk, hR, hKK⟩ := hC
  intro H locs ls hw hS hl
  exact lv_pop hx hb dd ha (k H locs ls hw hS hl)
theorem Z_iadd (hC : Zok ad D ia C d cc nL own ret) {x y : Int32} (dd : decode cc pc = .ok (.iadd, 1)) (k : Z l ad D ia C X Y (pc + 1) V (.int (x + y) :: St) s) : Z l ad D ia C X Y pc V (.int y :: .int x :: St) s := by
  obtain ⟨p, e, R, s0, m, args, below, meth, c0⟩ := C
  obtain ⟨hx, hb, hml, hown, hts, hr, hlk, hR, hKK⟩ := hC
  intro H locs ls hw hS hl
  exact lv_iadd hx hb dd (k H locs ls hw hS hl)
theorem Z_isub (hC : Zok ad D ia C d cc nL own ret) {x y : Int32} (dd : decode cc pc = .ok (.isub, 1)) (k : Z l ad D ia C X Y (pc + 1) V (.int (x - y) :: St) s) : Z l ad D ia C X Y pc V (.int y :: .int x :: St) s := by
  obtain ⟨p, e, R, s0, m, args, below, meth, c0⟩ := C
  obtain ⟨hx, hb, hml, hown, hts, hr, hlk, hR, hKK⟩ := hC
  intro H locs ls hw hS hl
  exact lv_isub hx hb dd (k H locs ls hw hS hl)
theorem Z_imul (hC : Zok ad D ia C d cc nL own ret) {x y : Int32} (dd : decode cc pc = .ok (.imul, 1)) (k : Z l ad D ia C X Y (pc + 1) V (.int (x * y) :: St) s) : Z l ad D ia C X Y pc V (.int y :: .int x :: St) s := by
  obtain ⟨p, e, R, s0, m, args, below, meth, c0⟩ := C
  obtain ⟨hx, hb, hml, hown, hts, hr, hlk, hR, hKK⟩ := hC
  intro H locs ls hw hS hl
  exact lv_imul hx hb dd (k H locs ls hw hS hl)
theorem Z_iand (hC : Zok ad D ia C d cc nL own ret) {x y : Int32} (dd : decode cc pc = .ok (.iand, 1)) (k : Z l ad D ia C X Y (pc + 1) V (.int (x &&& y) :: St) s) : Z l ad D ia C X Y pc V (.int y :: .int x :: St) s := by
  obtain ⟨p, e, R, s0, m, args, below, meth, c0⟩ := C
  obtain ⟨hx, hb, hml, hown, hts, hr, hlk, hR, hKK⟩ := hC
  intro H locs ls hw hS hl
  exact lv_iand hx hb dd (k H locs ls hw hS hl)
theorem Z_ior (hC : Zok ad D ia C d cc nL own ret) {x y : Int32} (dd : decode cc pc = .ok (.ior, 1)) (k : Z l ad D ia C X Y (pc + 1) V (.int (x ||| y) :: St) s) : Z l ad D ia C X Y pc V (.int y :: .int x :: St) s := by
  obtain ⟨p, e, R, s0, m, args, below, meth, c0⟩ := C
  obtain ⟨hx, hb, hml, hown, hts, hr, hlk, hR, hKK⟩ := hC
  intro H locs ls hw hS hl
  exact lv_ior hx hb dd (k H locs ls hw hS hl)
theorem Z_ishl (hC : Zok ad D ia C d cc nL own ret) {x y : Int32} (dd : decode cc pc = .ok (.ishl, 1)) (k : Z l ad D ia C X Y (pc + 1) V (.int (x <<< (y &&& 31)) :: St) s) : Z l ad D ia C X Y pc V (.int y :: .int x :: St) s := by
  obtain ⟨p, e, R, s0, m, args, below, meth, c0⟩ := C
  obtain ⟨hx, hb, hml, hown, hts, hr, hlk, hR, hKK⟩ := hC
  intro H locs ls hw hS hl
  exact lv_ishl hx hb dd (k H locs ls hw hS hl)
theorem Z_ishr (hC : Zok ad D ia C d cc nL own ret) {x y : Int32} (dd : decode cc pc = .ok (.ishr, 1)) (k : Z l ad D ia C X Y (pc + 1) V (.int (x >>> (y &&& 31)) :: St) s) : Z l ad D ia C X Y pc V (.int y :: .int x :: St) s := by
  obtain ⟨p, e, R, s0, m, args, below, meth, c0⟩ := C
  obtain ⟨hx, hb, hml, hown, hts, hr, hlk, hR, hKK⟩ := hC
  intro H locs ls hw hS hl
  exact lv_ishr hx hb dd (k H locs ls hw hS hl)
theorem Z_idiv (hC : Zok ad D ia C d cc nL own ret) {x y : Int32} (dd : decode cc pc = .ok (.idiv, 1)) (hy : ¬ y = 0) (k : Z l ad D ia C X Y (pc + 1) V (.int (x / y) :: St) s) : Z l ad D ia C X Y pc V (.int y :: .int x :: St) s := by
  obtain ⟨p, e, R, s0, m, args, below, meth, c0⟩ := C
  obtain ⟨hx, hb, hml, hown, hts, hr, hlk, hR, hKK⟩ := hC
  intro H locs ls hw hS hl
  exact lv_idiv hx hb dd hy (k H locs ls hw hS hl)
theorem Z_irem (hC : Zok ad D ia C d cc nL own ret) {x y : Int32} (dd : decode cc pc = .ok (.irem, 1)) (hy : ¬ y = 0) (k : Z l ad D ia C X Y (pc + 1) V (.int (x - x / y * y) :: St) s) : Z l ad D ia C X Y pc V (.int y :: .int x :: St) s := by
  obtain ⟨p, e, R, s0, m, args, below, meth, c0⟩ := C
  obtain ⟨hx, hb, hml, hown, hts, hr, hlk, hR, hKK⟩ := hC
  intro H locs ls hw hS hl
  exact lv_irem hx hb dd hy (k H locs ls hw hS hl)
theorem Z_ladd (hC : Zok ad D ia C d cc nL own ret) {x y : Int64} (dd : decode cc pc = .ok (.ladd, 1)) (k : Z l ad D ia C X Y (pc + 1) V (.long (x + y) :: St) s) : Z l ad D ia C X Y pc V (.long y :: .long x :: St) s := by
  obtain ⟨p, e, R, s0, m, args, below, meth, c0⟩ := C
  obtain ⟨hx, hb, hml, hown, hts, hr, hlk, hR, hKK⟩ := hC
  intro H locs ls hw hS hl
  exact lv_ladd hx hb dd (k H locs ls hw hS hl)
theorem Z_lmul (hC : Zok ad D ia C d cc nL own ret) {x y : Int64} (dd : decode cc pc = .ok (.lmul, 1)) (k : Z l ad D ia C X Y (pc + 1) V (.long (x * y) :: St) s) : Z l ad D ia C X Y pc V (.long y :: .long x :: St) s := by
  obtain ⟨p, e, R, s0, m, args, below, meth, c0⟩ := C
  obtain ⟨hx, hb, hml, hown, hts, hr, hlk, hR, hKK⟩ := hC
  intro H locs ls hw hS hl
  exact lv_lmul hx hb dd (k H locs ls hw hS hl)
theorem Z_lsub (hC : Zok ad D ia C d cc nL own ret) {x y : Int64} (dd : decode cc pc = .ok (.lsub, 1)) (k : Z l ad D ia C X Y (pc + 1) V (.long (x - y) :: St) s) : Z l ad D ia C X Y pc V (.long y :: .long x :: St) s := by
  obtain ⟨p, e, R, s0, m, args, below, meth, c0⟩ := C
  obtain ⟨hx, hb, hml, hown, hts, hr, hlk, hR, hKK⟩ := hC
  intro H locs ls hw hS hl
  exact lv_lsub hx hb dd (k H locs ls hw hS hl)
theorem Z_ldiv (hC : Zok ad D ia C d cc nL own ret) {x y : Int64} (dd : decode cc pc = .ok (.ldiv, 1)) (hy : ¬ y = 0) (k : Z l ad D ia C X Y (pc + 1) V (.long (x / y) :: St) s) : Z l ad D ia C X Y pc V (.long y :: .long x :: St) s := by
  obtain ⟨p, e, R, s0, m, args, below, meth, c0⟩ := C
  obtain ⟨hx, hb, hml, hown, hts, hr, hlk, hR, hKK⟩ := hC
  intro H locs ls hw hS hl
  exact lv_ldiv hx hb dd hy (k H locs ls hw hS hl)
theorem Z_lrem (hC : Zok ad D ia C d cc nL own ret) {x y : Int64} (dd : decode cc pc = .ok (.lrem, 1)) (hy : ¬ y = 0) (k : Z l ad D ia C X Y (pc + 1) V (.long (x - x / y * y) :: St) s) : Z l ad D ia C X Y pc V (.long y :: .long x :: St) s := by
  obtain ⟨p, e, R, s0, m, args, below, meth, c0⟩ := C
  obtain ⟨hx, hb, hml, hown, hts, hr, hlk, hR, hKK⟩ := hC
  intro H locs ls hw hS hl
  exact lv_lrem hx hb dd hy (k H locs ls hw hS hl)
theorem Z_ineg (hC : Zok ad D ia C d cc nL own ret) {x : Int32} (dd : decode cc pc = .ok (.ineg, 1)) (k : Z l ad D ia C X Y (pc + 1) V (.int (-x) :: St) s) : Z l ad D ia C X Y pc V (.int x :: St) s := by
  obtain ⟨p, e, R, s0, m, args, below, meth, c0⟩ := C
  obtain ⟨hx, hb, hml, hown, hts, hr, hlk, hR, hKK⟩ := hC
  intro H locs ls hw hS hl
  exact lv_ineg hx hb dd (k H locs ls hw hS hl)
theorem Z_iushr (hC : Zok ad D ia C d cc nL own ret) {x y : Int32} (dd : decode cc pc = .ok (.iushr, 1)) (k : Z l ad D ia C X Y (pc + 1) V (.int (x.toUInt32 >>> (y.toUInt32 &&& Int32.toUInt32 31)).toInt32 :: St) s) : Z l ad D ia C X Y pc V (.int y :: .int x :: St) s := by
  obtain ⟨p, e, R, s0, m, args, below, meth, c0⟩ := C
  obtain ⟨hx, hb, hml, hown, hts, hr, hlk, hR, hKK⟩ := hC
  intro H locs ls hw hS hl
  exact lv_iushr hx hb dd rfl (k H locs ls hw hS hl)
theorem Z_i2l (hC : Zok ad D ia C d cc nL own ret) {x : Int32} (dd : decode cc pc = .ok (.i2l, 1)) (k : Z l ad D ia C X Y (pc + 1) V (.long x.toInt64 :: St) s) : Z l ad D ia C X Y pc V (.int x :: St) s := by
  obtain ⟨p, e, R, s0, m, args, below, meth, c0⟩ := C
  obtain ⟨hx, hb, hml, hown, hts, hr, hlk, hR, hKK⟩ := hC
  intro H locs ls hw hS hl
  exact lv_i2l hx hb dd rfl (k H locs ls hw hS hl)
theorem Z_i2b (hC : Zok ad D ia C d cc nL own ret) {x : Int32} (dd : decode cc pc = .ok (.i2b, 1)) (k : Z l ad D ia C X Y (pc + 1) V (.int x.toInt8.toInt32 :: St) s) : Z l ad D ia C X Y pc V (.int x :: St) s := by
  obtain ⟨p, e, R, s0, m, args, below, meth, c0⟩ := C
  obtain ⟨hx, hb, hml, hown, hts, hr, hlk, hR, hKK⟩ := hC
  intro H locs ls hw hS hl
  exact lv_i2b hx hb dd rfl (k H locs ls hw hS hl)
theorem Z_i2s (hC : Zok ad D ia C d cc nL own ret) {x : Int32} (dd : decode cc pc = .ok (.i2s, 1)) (k : Z l ad D ia C X Y (pc + 1) V (.int x.toInt16.toInt32 :: St) s) : Z l ad D ia C X Y pc V (.int x :: St) s := by
  obtain ⟨p, e, R, s0, m, args, below, meth, c0⟩ := C
  obtain ⟨hx, hb, hml, hown, hts, hr, hlk, hR, hKK⟩ := hC
  intro H locs ls hw hS hl
  exact lv_i2s hx hb dd rfl (k H locs ls hw hS hl)
theorem Z_lcmp (hC : Zok ad D ia C d cc nL own ret) {x y : Int64} (dd : decode cc pc = .ok (.lcmp, 1)) (k : Z l ad D ia C X Y (pc + 1) V (.int (lg_cmp x y) :: St) s) : Z l ad D ia C X Y pc V (.long y :: .long x :: St) s := by
  obtain ⟨p, e, R, s0, m, args, below, meth, c0⟩ := C
  obtain ⟨hx, hb, hml, hown, hts, hr, hlk, hR, hKK⟩ := hC
  intro H locs ls hw hS hl
  exact W.lcmp hx hb dd (k H locs ls hw hS hl)
theorem Z_if_eq (hC : Zok ad D ia C d cc nL own ret) {x : Int32} {off : Int} {tgt : Nat} (dd : decode cc pc = .ok (.ifCond .eq off, 3)) (ht : (pc : Int) + off = (tgt : Int)) (kt : x = 0 → Z l ad D ia C X Y tgt V St s) (kf : ¬ x = 0 → Z l ad D ia C X Y (pc + 3) V St s) : Z l ad D ia C X Y pc V (.int x :: St) s := by
  obtain ⟨p, e, R, s0, m, args, below, meth, c0⟩ := C
  obtain ⟨hx, hb, hml, hown, hts, hr, hlk, hR, hKK⟩ := hC
  intro H locs ls hw hS hl
  exact lv_if_eq hx hb dd ht (fun h => kt h H locs ls hw hS hl) (fun h => kf h H locs ls hw hS hl)
theorem Z_icmp_eq (hC : Zok ad D ia C d cc nL own ret) {x y : Int32} {off : Int} {tgt : Nat} (dd : decode cc pc = .ok (.if_icmp .eq off, 3)) (ht : (pc : Int) + off = (tgt : Int)) (kt : x = y → Z l ad D ia C X Y tgt V St s) (kf : ¬ x = y → Z l ad D ia C X Y (pc + 3) V St s) : Z l ad D ia C X Y pc V (.int y :: .int x :: St) s := by
  obtain ⟨p, e, R, s0, m, args, below, meth, c0⟩ := C
  obtain ⟨hx, hb, hml, hown, hts, hr, hlk, hR, hKK⟩ := hC
  intro H locs ls hw hS hl
  exact lv_icmp_eq hx hb dd ht (fun h => kt h H locs ls hw hS hl) (fun h => kf h H locs ls hw hS hl)
theorem Z_if_ne (hC : Zok ad D ia C d cc nL own ret) {x : Int32} {off : Int} {tgt : Nat} (dd : decode cc pc = .ok (.ifCond .ne off, 3)) (ht : (pc : Int) + off = (tgt : Int)) (kt : ¬ x = 0 → Z l ad D ia C X Y tgt V St s) (kf : x = 0 → Z l ad D ia C X Y (pc + 3) V St s) : Z l ad D ia C X Y pc V (.int x :: St) s := by
  obtain ⟨p, e, R, s0, m, args, below, meth, c0⟩ := C
  obtain ⟨hx, hb, hml, hown, hts, hr, hlk, hR, hKK⟩ := hC
  intro H locs ls hw hS hl
  exact lv_if_ne hx hb dd ht (fun h => kt h H locs ls hw hS hl) (fun h => kf h H locs ls hw hS hl)
theorem Z_icmp_ne (hC : Zok ad D ia C d cc nL own ret) {x y : Int32} {off : Int} {tgt : Nat} (dd : decode cc pc = .ok (.if_icmp .ne off, 3)) (ht : (pc : Int) + off = (tgt : Int)) (kt : ¬ x = y → Z l ad D ia C X Y tgt V St s) (kf : x = y → Z l ad D ia C X Y (pc + 3) V St s) : Z l ad D ia C X Y pc V (.int y :: .int x :: St) s := by
  obtain ⟨p, e, R, s0, m, args, below, meth, c0⟩ := C
  obtain ⟨hx, hb, hml, hown, hts, hr, hlk, hR, hKK⟩ := hC
  intro H locs ls hw hS hl
  exact lv_icmp_ne hx hb dd ht (fun h => kt h H locs ls hw hS hl) (fun h => kf h H locs ls hw hS hl)
theorem Z_if_lt (hC : Zok ad D ia C d cc nL own ret) {x : Int32} {off : Int} {tgt : Nat} (dd : decode cc pc = .ok (.ifCond .lt off, 3)) (ht : (pc : Int) + off = (tgt : Int)) (kt : x < 0 → Z l ad D ia C X Y tgt V St s) (kf : ¬ x < 0 → Z l ad D ia C X Y (pc + 3) V St s) : Z l ad D ia C X Y pc V (.int x :: St) s := by
  obtain ⟨p, e, R, s0, m, args, below, meth, c0⟩ := C
  obtain ⟨hx, hb, hml, hown, hts, hr, hlk, hR, hKK⟩ := hC
  intro H locs ls hw hS hl
  exact lv_if_lt hx hb dd ht (fun h => kt h H locs ls hw hS hl) (fun h => kf h H locs ls hw hS hl)
theorem Z_icmp_lt (hC : Zok ad D ia C d cc nL own ret) {x y : Int32} {off : Int} {tgt : Nat} (dd : decode cc pc = .ok (.if_icmp .lt off, 3)) (ht : (pc : Int) + off = (tgt : Int)) (kt : x < y → Z l ad D ia C X Y tgt V St s) (kf : ¬ x < y → Z l ad D ia C X Y (pc + 3) V St s) : Z l ad D ia C X Y pc V (.int y :: .int x :: St) s := by
  obtain ⟨p, e, R, s0, m, args, below, meth, c0⟩ := C
  obtain ⟨hx, hb, hml, hown, hts, hr, hlk, hR, hKK⟩ := hC
  intro H locs ls hw hS hl
  exact lv_icmp_lt hx hb dd ht (fun h => kt h H locs ls hw hS hl) (fun h => kf h H locs ls hw hS hl)
theorem Z_if_ge (hC : Zok ad D ia C d cc nL own ret) {x : Int32} {off : Int} {tgt : Nat} (dd : decode cc pc = .ok (.ifCond .ge off, 3)) (ht : (pc : Int) + off = (tgt : Int)) (kt : 0 ≤ x → Z l ad D ia C X Y tgt V St s) (kf : ¬ 0 ≤ x → Z l ad D ia C X Y (pc + 3) V St s) : Z l ad D ia C X Y pc V (.int x :: St) s := by
  obtain ⟨p, e, R, s0, m, args, below, meth, c0⟩ := C
  obtain ⟨hx, hb, hml, hown, hts, hr, hlk, hR, hKK⟩ := hC
  intro H locs ls hw hS hl
  exact lv_if_ge hx hb dd ht (fun h => kt h H locs ls hw hS hl) (fun h => kf h H locs ls hw hS hl)
theorem Z_icmp_ge (hC : Zok ad D ia C d cc nL own ret) {x y : Int32} {off : Int} {tgt : Nat} (dd : decode cc pc = .ok (.if_icmp .ge off, 3)) (ht : (pc : Int) + off = (tgt : Int)) (kt : y ≤ x → Z l ad D ia C X Y tgt V St s) (kf : ¬ y ≤ x → Z l ad D ia C X Y (pc + 3) V St s) : Z l ad D ia C X Y pc V (.int y :: .int x :: St) s := by
  obtain ⟨p, e, R, s0, m, args, below, meth, c0⟩ := C
  obtain ⟨hx, hb, hml, hown, hts, hr, hlk, hR, hKK⟩ := hC
  intro H locs ls hw hS hl
  exact lv_icmp_ge hx hb dd ht (fun h => kt h H locs ls hw hS hl) (fun h => kf h H locs ls hw hS hl)
theorem Z_if_gt (hC : Zok ad D ia C d cc nL own ret) {x : Int32} {off : Int} {tgt : Nat} (dd : decode cc pc = .ok (.ifCond .gt off, 3)) (ht : (pc : Int) + off = (tgt : Int)) (kt : 0 < x → Z l ad D ia C X Y tgt V St s) (kf : ¬ 0 < x → Z l ad D ia C X Y (pc + 3) V St s) : Z l ad D ia C X Y pc V (.int x :: St) s := by
  obtain ⟨p, e, R, s0, m, args, below, meth, c0⟩ := C
  obtain ⟨hx, hb, hml, hown, hts, hr, hlk, hR, hKK⟩ := hC
  intro H locs ls hw hS hl
  exact lv_if_gt hx hb dd ht (fun h => kt h H locs ls hw hS hl) (fun h => kf h H locs ls hw hS hl)
theorem Z_icmp_gt (hC : Zok ad D ia C d cc nL own ret) {x y : Int32} {off : Int} {tgt : Nat} (dd : decode cc pc = .ok (.if_icmp .gt off, 3)) (ht : (pc : Int) + off = (tgt : Int)) (kt : y < x → Z l ad D ia C X Y tgt V St s) (kf : ¬ y < x → Z l ad D ia C X Y (pc + 3) V St s) : Z l ad D ia C X Y pc V (.int y :: .int x :: St) s := by
  obtain ⟨p, e, R, s0, m, args, below, meth, c0⟩ := C
  obtain ⟨hx, hb, hml, hown, hts, hr, hlk, hR, hKK⟩ := hC
  intro H locs ls hw hS hl
  exact lv_icmp_gt hx hb dd ht (fun h => kt h H locs ls hw hS hl) (fun h => kf h H locs ls hw hS hl)
theorem Z_if_le (hC : Zok ad D ia C d cc nL own ret) {x : Int32} {off : Int} {tgt : Nat} (dd : decode cc pc = .ok (.ifCond .le off, 3)) (ht : (pc : Int) + off = (tgt : Int)) (kt : x ≤ 0 → Z l ad D ia C X Y tgt V St s) (kf : ¬ x ≤ 0 → Z l ad D ia C X Y (pc + 3) V St s) : Z l ad D ia C X Y pc V (.int x :: St) s := by
  obtain ⟨p, e, R, s0, m, args, below, meth, c0⟩ := C
  obtain ⟨hx, hb, hml, hown, hts, hr, hlk, hR, hKK⟩ := hC
  intro H locs ls hw hS hl
  exact lv_if_le hx hb dd ht (fun h => kt h H locs ls hw hS hl) (fun h => kf h H locs ls hw hS hl)
theorem Z_icmp_le (hC : Zok ad D ia C d cc nL own ret) {x y : Int32} {off : Int} {tgt : Nat} (dd : decode cc pc = .ok (.if_icmp .le off, 3)) (ht : (pc : Int) + off = (tgt : Int)) (kt : x ≤ y → Z l ad D ia C X Y tgt V St s) (kf : ¬ x ≤ y → Z l ad D ia C X Y (pc + 3) V St s) : Z l ad D ia C X Y pc V (.int y :: .int x :: St) s := by
  obtain ⟨p, e, R, s0, m, args, below, meth, c0⟩ := C
  obtain ⟨hx, hb, hml, hown, hts, hr, hlk, hR, hKK⟩ := hC
  intro H locs ls hw hS hl
  exact lv_icmp_le hx hb dd ht (fun h => kt h H locs ls hw hS hl) (fun h => kf h H locs ls hw hS hl)
theorem Z_goto (hC : Zok ad D ia C d cc nL own ret) {off : Int} {tgt : Nat} (dd : decode cc pc = .ok (.goto off, 3)) (ht : (pc : Int) + off = (tgt : Int)) (k : Z l ad D ia C X Y tgt V St s) : Z l ad D ia C X Y pc V (St) s := by
  obtain ⟨p, e, R, s0, m, args, below, meth, c0⟩ := C
  obtain ⟨hx, hb, hml, hown, hts, hr, hlk, hR, hKK⟩ := hC
  intro H locs ls hw hS hl
  exact lv_goto hx hb dd ht (k H locs ls hw hS hl)
theorem Z_tabIn (hC : Zok ad D ia C d cc nL own ret) {dflt lo hi : Int} {offs : Array Int} {len : Nat} {x : Int32} {off : Int} {tgt : Nat} (dd : decode cc pc = .ok (.tableswitch dflt lo hi offs, len)) (h1 : ¬ x.toInt < lo) (h2 : ¬ hi < x.toInt) (h3 : offs[(x.toInt - lo).toNat]? = some off) (ht : (pc : Int) + off = (tgt : Int)) (k : Z l ad D ia C X Y tgt V St s) : Z l ad D ia C X Y pc V (.int x :: St) s := by
  obtain ⟨p, e, R, s0, m, args, below, meth, c0⟩ := C
  obtain ⟨hx, hb, hml, hown, hts, hr, hlk, hR, hKK⟩ := hC
  intro H locs ls hw hS hl
  exact lv_tableIn hx hb dd h1 h2 h3 ht (k H locs ls hw hS hl)
theorem Z_tabOut (hC : Zok ad D ia C d cc nL own ret) {dflt lo hi : Int} {offs : Array Int} {len : Nat} {x : Int32} {tgt : Nat} (dd : decode cc pc = .ok (.tableswitch dflt lo hi offs, len)) (h1 : x.toInt < lo ∨ hi < x.toInt) (ht : (pc : Int) + dflt = (tgt : Int)) (k : Z l ad D ia C X Y tgt V St s) : Z l ad D ia C X Y pc V (.int x :: St) s := by
  obtain ⟨p, e, R, s0, m, args, below, meth, c0⟩ := C
  obtain ⟨hx, hb, hml, hown, hts, hr, hlk, hR, hKK⟩ := hC
  intro H locs ls hw hS hl
  exact lv_tableOut hx hb dd h1 ht (k H locs ls hw hS hl)
theorem Z_look (hC : Zok ad D ia C d cc nL own ret) {dflt : Int} {ps : Array (Int × Int)} {len : Nat} {x : Int32} {off : Int} {tgt : Nat} (dd : decode cc pc = .ok (.lookupswitch dflt ps, len)) (hp : (ps.toList.zip (ps.toList.drop 1)).all (fun (a, next) => a.1 < next.1) = true) (h3 : Op.lookupswitch.offset ps.toList dflt x.toInt = off) (ht : (pc : Int) + off = (tgt : Int)) (k : Z l ad D ia C X Y tgt V St s) : Z l ad D ia C X Y pc V (.int x :: St) s := by
  obtain ⟨p, e, R, s0, m, args, below, meth, c0⟩ := C
  obtain ⟨hx, hb, hml, hown, hts, hr, hlk, hR, hKK⟩ := hC
  intro H locs ls hw hS hl
  exact lv_lookup hx hb dd hp h3 ht (k H locs ls hw hS hl)
theorem Z_iret (hC : Zok ad D ia C d cc nL own (some .int)) {v : Int32} (dd : decode cc pc = .ok (.ireturn, 1)) (hX : X = some (.int v)) (hY : Y = s) : Z l ad D ia C X Y pc V [.int v] s := by
  obtain ⟨p, e, R, s0, m, args, below, meth, c0⟩ := C
  obtain ⟨hx, hb, hml, hown, hts, hr, hlk, hR, hKK⟩ := hC
  intro H locs ls hw hS hl
  subst hX
  subst hY
  exact W.iret hx hb hr (fun t ht hW => ⟨⟨rfl, by rw [ht]; exact hw⟩, hS.F ht⟩) hS.2.2 dd hlk
theorem Z_zret (hC : Zok ad D ia C d cc nL own (some .boolean)) {v : Int32} (dd : decode cc pc = .ok (.ireturn, 1)) (hn : narrow .boolean (.int v) = .int v) (hX : X = some (.int v)) (hY : Y = s) : Z l ad D ia C X Y pc V [.int v] s := by
  obtain ⟨p, e, R, s0, m, args, below, meth, c0⟩ := C
  obtain ⟨hx, hb, hml, hown, hts, hr, hlk, hR, hKK⟩ := hC
  intro H locs ls hw hS hl
  subst hX
  subst hY
  exact W.zret hx hb hr hn (fun t ht hW => ⟨⟨rfl, by rw [ht]; exact hw⟩, hS.F ht⟩) hS.2.2 dd hlk
theorem Z_lret (hC : Zok ad D ia C d cc nL own (some .long)) {v : Int64} (dd : decode cc pc = .ok (.lreturn, 1)) (hX : X = some (.long v)) (hY : Y = s) : Z l ad D ia C X Y pc V [.long v] s := by
  obtain ⟨p, e, R, s0, m, args, below, meth, c0⟩ := C
  obtain ⟨hx, hb, hml, hown, hts, hr, hlk, hR, hKK⟩ := hC
  intro H locs ls hw hS hl
  subst hX
  subst hY
  exact W.lret hx hb hr (fun t ht hW => ⟨⟨rfl, by rw [ht]; exact hw⟩, hS.F ht⟩) hS.2.2 dd hlk
theorem Z_vret (hC : Zok ad D ia C d cc nL own none) (dd : decode cc pc = .ok (.return_, 1)) (hX : X = none) (hY : Y = s) : Z l ad D ia C X Y pc V [] s := by
  obtain ⟨p, e, R, s0, m, args, below, meth, c0⟩ := C
  obtain ⟨hx, hb, hml, hown, hts, hr, hlk, hR, hKK⟩ := hC
  intro H locs ls hw hS hl
  subst hX
  subst hY
  exact W.vret hx hb hr (fun t ht hW => ⟨⟨rfl, by rw [ht]; exact hw⟩, hS.F ht⟩) hS.2.2 dd hlk
theorem Z_sub {V2 : List (Nat × Value)} (h : ∀ q ∈ V2, q ∈ V) (k : Z l ad D ia C X Y pc V2 St s) : Z l ad D ia C X Y pc V St s := by
  obtain ⟨p, e, R, s0, m, args, below, meth, c0⟩ := C
  intro H locs ls hw hS hl
  exact k H locs ls hw hS ⟨hl.1, hl.2.1, fun q hq => hl.2.2 q (h q hq)⟩
theorem Z_get (hC : Zok ad D ia C d cc nL own ret) {o c k idx : Nat} {v : Value} (ho : zcls o = c) (hc0 : 0 ∈ zsub c) (lk : zlk own idx c k) (hv : (zfs ad c o (s o))[k]? = some v) (dd : decode cc pc = .ok (.getfield idx, 3)) (kk : Z l ad D ia C X Y (pc + 3) V (v :: St) s) : Z l ad D ia C X Y pc V (.ref (ad o 0) :: St) s := by
  obtain ⟨p, e, R, s0, m, args, below, meth, c0⟩ := C
  obtain ⟨hx, hb, hml, hown, hts, hr, hlk, hR, hKK⟩ := hC
  intro H locs ls hw hS hl
  obtain ⟨f, hf, hP⟩ := id hw
  have hm : (o, 0) ∈ zCL := zmem (by rw [ho]; exact hc0)
  obtain ⟨q, hq, hin, hk, hlink⟩ := lk
  obtain ⟨q0, -, he⟩ := zget hf hm
  have he : (va_pl (zLL ad) f)[q0]? = some (ad o 0, .inr (c, zfs ad c o (s o))) := by rw [he]; simp only [zce, ho]
  exact va_get (C := q.1) (T := q.2.1) (N := q.2.2) hx hb hts hin hown hKK.2.1 hP q0 he hq k hk (hts _ hlink) (fun _ h9 => h9) hv dd (kk H locs ls hw hS hl)
theorem Z_put (hC : Zok ad D ia C d cc nL own ret) {o c k idx : Nat} {ty : FieldType} {v : Value} {v2 : OV} (ho : zcls o = c) (hc0 : 0 ∈ zsub c) (pk : zpk own idx c k ty) (hn : narrow ty v = v) (hfit : fits ty v = true) (hset : (zfs ad c o (s o)).set k v = zfs ad c o v2) (hrow : v2.2.2 = (s o).2.2) (hlen : k < (zfs ad c o (s o)).length) (dd : decode cc pc = .ok (.putfield idx, 3)) (kk : Z l ad D ia C X Y (pc + 3) V St (va_up s o v2)) : Z l ad D ia C X Y pc V (v :: .ref (ad o 0) :: St) s := by
  obtain ⟨p, e, R, s0, m, args, below, meth, c0⟩ := C
  obtain ⟨hx, hb, hml, hown, hts, hr, hlk, hR, hKK⟩ := hC
  intro H locs ls hw hS hl
  obtain ⟨f, hf, hP⟩ := id hw
  have hm : (o, 0) ∈ zCL := zmem (by rw [ho]; exact hc0)
  obtain ⟨q, ty0, hq, hin, hk, hlink, hty, hnm, hfin, hpd⟩ := pk
  obtain ⟨q0, hz, he⟩ := zget hf hm
  have he : (va_pl (zLL ad) f)[q0]? = some (ad o 0, .inr (c, zfs ad c o (s o))) := by rw [he]; simp only [zce, ho]
  refine va_put (C := q.1) (T := q.2.1) (N := q.2.2) hx hb hts hin ty0 hty hnm hown hKK.2.1 hP (zD hKK.1) hS q0 he hq k hk (hts _ hlink) (fun _ h9 => h9) hfin hpd hn hfit hlen dd (fun H1 locs1 hP1 hD1 hS1 => kk H1 locs1 ls ?_ hS1 hl)
  refine zset hKK.1 hf hm hz ?_ ?_
  · have e : zce ad ia (va_up s o v2) o 0 = .inr (c, (zfs ad c o (s o)).set k v) := by simp [zce, ho, va_up, hset]
    rw [e]
    exact hP1
  · intro r hr
    obtain ⟨a, b⟩ := r
    by_cases ea : a = o
    · subst ea
      cases b with
      | zero => exact absurd rfl hr
      | succ b => simp [zce, zrow, va_up, hrow]
    · cases b <;> simp [zce, va_up, ea]

theorem Z_iald (hC : Zok ad D ia C d cc nL own ret) {o k n : Nat} {i : Int32} (hI : zis o k 0 n) (hin : vp_in i n) (dd : decode cc pc = .ok (.iaload, 1)) (kk : Z l ad D ia C X Y (pc + 1) V (.int ((s o).2.2 k i.toNatClampNeg) :: St) s) : Z l ad D ia C X Y pc V (.int i :: .ref (ad o (k + 1)) :: St) s := by
  obtain ⟨p, e, R, s0, m, args, below, meth, c0⟩ := C
  obtain ⟨hx, hb, hml, hown, hts, hr, hlk, hR, hKK⟩ := hC
  intro H locs ls hw hS hl
  obtain ⟨f, hf, hP⟩ := id hw
  obtain ⟨h1, h2, h3⟩ := hI
  obtain ⟨q0, -, he⟩ := zget hf (zmem h1)
  have he : (va_pl (zLL ad) f)[q0]? = some (ad o (k + 1), .inl (ia 0, n, .inl ((s o).2.2 k))) := by rw [he]; simp [zce, zrow, h2, h3]
  exact va_iald hx hb hKK.2.1 hP q0 0 he rfl hin dd (kk H locs ls hw hS hl)
theorem Z_bald (hC : Zok ad D ia C d cc nL own ret) {o k n : Nat} {i : Int32} (hI : zis o k 1 n) (hin : vp_in i n) (dd : decode cc pc = .ok (.baload, 1)) (kk : Z l ad D ia C X Y (pc + 1) V (.int ((s o).2.2 k i.toNatClampNeg) :: St) s) : Z l ad D ia C X Y pc V (.int i :: .ref (ad o (k + 1)) :: St) s := by
  obtain ⟨p, e, R, s0, m, args, below, meth, c0⟩ := C
  obtain ⟨hx, hb, hml, hown, hts, hr, hlk, hR, hKK⟩ := hC
  intro H locs ls hw hS hl
  obtain ⟨f, hf, hP⟩ := id hw
  obtain ⟨h1, h2, h3⟩ := hI
  obtain ⟨q0, -, he⟩ := zget hf (zmem h1)
  have he : (va_pl (zLL ad) f)[q0]? = some (ad o (k + 1), .inl (ia 1, n, .inl ((s o).2.2 k))) := by rw [he]; simp [zce, zrow, h2, h3]
  exact va_bald hx hb hKK.2.1 hP q0 1 he rfl hin dd (kk H locs ls hw hS hl)
theorem Z_zald (hC : Zok ad D ia C d cc nL own ret) {o k n : Nat} {i : Int32} (hI : zis o k 2 n) (hin : vp_in i n) (dd : decode cc pc = .ok (.baload, 1)) (kk : Z l ad D ia C X Y (pc + 1) V (.int ((s o).2.2 k i.toNatClampNeg) :: St) s) : Z l ad D ia C X Y pc V (.int i :: .ref (ad o (k + 1)) :: St) s := by
  obtain ⟨p, e, R, s0, m, args, below, meth, c0⟩ := C
  obtain ⟨hx, hb, hml, hown, hts, hr, hlk, hR, hKK⟩ := hC
  intro H locs ls hw hS hl
  obtain ⟨f, hf, hP⟩ := id hw
  obtain ⟨h1, h2, h3⟩ := hI
  obtain ⟨q0, -, he⟩ := zget hf (zmem h1)
  have he : (va_pl (zLL ad) f)[q0]? = some (ad o (k + 1), .inl (ia 2, n, .inl ((s o).2.2 k))) := by rw [he]; simp [zce, zrow, h2, h3]
  exact va_zald hx hb hKK.2.1 hP q0 2 he rfl hin dd (kk H locs ls hw hS hl)
theorem zfs_A {c o k : Nat} {v : OV} {g : Nat → Int32} : zfs ad c o (setA v k g) = zfs ad c o v := by
  unfold zfs setA
  rfl
theorem zsetA_ne {o k : Nat} {g : Nat → Int32} (q : Nat × Nat) (hq : q ≠ (o, k + 1)) : zce ad ia (va_up s o (setA (s o) k g)) q.1 q.2 = zce ad ia s q.1 q.2 := by
  obtain ⟨a, b⟩ := q
  by_cases ea : a = o
  · subst ea
    cases b with
    | zero =>
      show Sum.inr (zcls a, zfs ad (zcls a) a (va_up s a (setA (s a) k g) a)) = Sum.inr (zcls a, zfs ad (zcls a) a (s a))
      have e : va_up s a (setA (s a) k g) a = setA (s a) k g := by simp [va_up]
      rw [e, zfs_A]
    | succ b =>
      have hb : b ≠ k := fun h => hq (by rw [h])
      simp [zce, zrow, va_up, setA, hb]
  · cases b <;> simp [zce, va_up, ea]
theorem Z_iast (hC : Zok ad D ia C d cc nL own ret) {o k n : Nat} {i x : Int32} (hI : zis o k 0 n) (hin : vp_in i n) (dd : decode cc pc = .ok (.iastore, 1)) (kk : Z l ad D ia C X Y (pc + 1) V St (va_up s o (setA (s o) k (upd ((s o).2.2 k) i.toNatClampNeg x)))) : Z l ad D ia C X Y pc V (.int x :: .int i :: .ref (ad o (k + 1)) :: St) s := by
  obtain ⟨p, e, R, s0, m, args, below, meth, c0⟩ := C
  obtain ⟨hx, hb, hml, hown, hts, hr, hlk, hR, hKK⟩ := hC
  intro H locs ls hw hS hl
  obtain ⟨f, hf, hP⟩ := id hw
  obtain ⟨h1, h2, h3⟩ := hI
  obtain ⟨q0, hz, he⟩ := zget hf (zmem h1)
  have he : (va_pl (zLL ad) f)[q0]? = some (ad o (k + 1), .inl (ia 0, n, .inl ((s o).2.2 k))) := by rw [he]; simp [zce, zrow, h2, h3]
  refine va_iast hx hb hKK.2.1 hP (zD hKK.1) hS q0 0 he rfl hin dd (fun H1 locs1 hP1 hD1 hS1 => kk H1 locs1 ls ?_ hS1 hl)
  refine zset hKK.1 hf (zmem h1) hz ?_ ?_
  · have e : zce ad ia (va_up s o (setA (s o) k (upd ((s o).2.2 k) i.toNatClampNeg x))) o (k + 1) = .inl (ia 0, n, .inl (upd ((s o).2.2 k) i.toNatClampNeg x)) := by simp [zce, zrow, va_up, setA, h2, h3]
    rw [e]
    exact hP1
  · exact zsetA_ne
theorem Z_bast (hC : Zok ad D ia C d cc nL own ret) {o k n : Nat} {i x : Int32} (hI : zis o k 1 n) (hin : vp_in i n) (dd : decode cc pc = .ok (.bastore, 1)) (kk : Z l ad D ia C X Y (pc + 1) V St (va_up s o (setA (s o) k (upd ((s o).2.2 k) i.toNatClampNeg (vp_nar .byte x))))) : Z l ad D ia C X Y pc V (.int x :: .int i :: .ref (ad o (k + 1)) :: St) s := by
  obtain ⟨p, e, R, s0, m, args, below, meth, c0⟩ := C
  obtain ⟨hx, hb, hml, hown, hts, hr, hlk, hR, hKK⟩ := hC
  intro H locs ls hw hS hl
  obtain ⟨f, hf, hP⟩ := id hw
  obtain ⟨h1, h2, h3⟩ := hI
  obtain ⟨q0, hz, he⟩ := zget hf (zmem h1)
  have he : (va_pl (zLL ad) f)[q0]? = some (ad o (k + 1), .inl (ia 1, n, .inl ((s o).2.2 k))) := by rw [he]; simp [zce, zrow, h2, h3]
  refine va_bast hx hb hKK.2.1 hP (zD hKK.1) hS q0 1 he rfl hin dd (fun H1 locs1 hP1 hD1 hS1 => kk H1 locs1 ls ?_ hS1 hl)
  refine zset hKK.1 hf (zmem h1) hz ?_ ?_
  · have e : zce ad ia (va_up s o (setA (s o) k (upd ((s o).2.2 k) i.toNatClampNeg (vp_nar .byte x)))) o (k + 1) = .inl (ia 1, n, .inl (upd ((s o).2.2 k) i.toNatClampNeg (vp_nar .byte x))) := by simp [zce, zrow, va_up, setA, h2, h3]
    rw [e]
    exact hP1
  · exact zsetA_ne
theorem Z_zast (hC : Zok ad D ia C d cc nL own ret) {o k n : Nat} {i x : Int32} (hI : zis o k 2 n) (hin : vp_in i n) (dd : decode cc pc = .ok (.bastore, 1)) (kk : Z l ad D ia C X Y (pc + 1) V St (va_up s o (setA (s o) k (upd ((s o).2.2 k) i.toNatClampNeg (vp_nar .boolean x))))) : Z l ad D ia C X Y pc V (.int x :: .int i :: .ref (ad o (k + 1)) :: St) s := by
  obtain ⟨p, e, R, s0, m, args, below, meth, c0⟩ := C
  obtain ⟨hx, hb, hml, hown, hts, hr, hlk, hR, hKK⟩ := hC
  intro H locs ls hw hS hl
  obtain ⟨f, hf, hP⟩ := id hw
  obtain ⟨h1, h2, h3⟩ := hI
  obtain ⟨q0, hz, he⟩ := zget hf (zmem h1)
  have he : (va_pl (zLL ad) f)[q0]? = some (ad o (k + 1), .inl (ia 2, n, .inl ((s o).2.2 k))) := by rw [he]; simp [zce, zrow, h2, h3]
  refine va_zast hx hb hKK.2.1 hP (zD hKK.1) hS q0 2 he rfl hin dd (fun H1 locs1 hP1 hD1 hS1 => kk H1 locs1 ls ?_ hS1 hl)
  refine zset hKK.1 hf (zmem h1) hz ?_ ?_
  · have e : zce ad ia (va_up s o (setA (s o) k (upd ((s o).2.2 k) i.toNatClampNeg (vp_nar .boolean x)))) o (k + 1) = .inl (ia 2, n, .inl (upd ((s o).2.2 k) i.toNatClampNeg (vp_nar .boolean x))) := by simp [zce, zrow, va_up, setA, h2, h3]
    rw [e]
    exact hP1
  · exact zsetA_ne
theorem Z_aaldM (hC : Zok ad D ia C d cc nL own ret) {i : Int32} (hin : vp_in i 2) (dd : decode cc pc = .ok (.aaload, 1)) (kk : Z l ad D ia C X Y (pc + 1) V (.ref (ad (10 + i.toNatClampNeg) 0) :: St) s) : Z l ad D ia C X Y pc V (.int i :: .ref (ad 0 6) :: St) s := by
  obtain ⟨p, e, R, s0, m, args, below, meth, c0⟩ := C
  obtain ⟨hx, hb, hml, hown, hts, hr, hlk, hR, hKK⟩ := hC
  intro H locs ls hw hS hl
  obtain ⟨f, hf, hP⟩ := id hw
  obtain ⟨q0, -, he⟩ := zget hf (o := 0) (k := 6) (zmem (by decide))
  have he : (va_pl (zLL ad) f)[q0]? = some (ad 0 6, .inl (ia 3, 2, .inr (.inr (.inr (.inr (zrf ad 0 5)))))) := he
  exact va_aldq hx hb hKK.2.1 hP q0 3 he rfl hin dd (kk H locs ls hw hS hl)
theorem Z_aaldS (hC : Zok ad D ia C d cc nL own ret) {i : Int32} (hin : vp_in i 4) (dd : decode cc pc = .ok (.aaload, 1)) (kk : Z l ad D ia C X Y (pc + 1) V (.ref (ad (12 + i.toNatClampNeg) 0) :: St) s) : Z l ad D ia C X Y pc V (.int i :: .ref (ad 0 7) :: St) s := by
  obtain ⟨p, e, R, s0, m, args, below, meth, c0⟩ := C
  obtain ⟨hx, hb, hml, hown, hts, hr, hlk, hR, hKK⟩ := hC
  intro H locs ls hw hS hl
  obtain ⟨f, hf, hP⟩ := id hw
  obtain ⟨q0, -, he⟩ := zget hf (o := 0) (k := 7) (zmem (by decide))
  have he : (va_pl (zLL ad) f)[q0]? = some (ad 0 7, .inl (ia 4, 4, .inr (.inr (.inr (.inr (zrf ad 0 6)))))) := he
  exact va_aldq hx hb hKK.2.1 hP q0 4 he rfl hin dd (kk H locs ls hw hS hl)
theorem zblind {av : List Value} : FrameBlind (va_Pc av (zP ad D ia s)) := fun a U g mk q => ⟨q.1, ⟨q.2.1.1, va_K.moved (u := U) (U := U.calling g mk a) (Vm.Alike.refl U.vm) q.2.1.2.1, fun w hw => va_Nw.same (u := U) (U := U.calling g mk a) (by revert w; decide +kernel) rfl (q.2.1.2.2 w hw)⟩, q.2.2⟩
theorem zK_warm {U U2 : State} (hW : U.WarmedH U2.vm) (h : zK ad D ia U) : zK ad D ia U2 := ⟨h.1, va_K.moved hW.alike h.2.1, fun w hw => by
  have h2 := h.2.2 w hw
  simp only [zNW, List.mem_cons, List.not_mem_nil, or_false] at hw
  rcases hw with rfl | rfl | rfl <;> exact va_Nw.warmM hW h2⟩

theorem Z_callV (hC : Zok ad D ia C (d + 1) cc nL own ret) {M : ZM} {idx n o : Nat} {As rest : List Value} {X1 : Option Value} {Y1 : ZS} (hE : Ev l ad D ia d M (.ref (ad o 0) :: As) s X1 Y1) (lk : zcV own idx M n) (hoc : ∃ c, zcls o = c ∧ 0 ∈ zsub c ∧ ∃ q : vw_C, vwCl[c]? = some q ∧ q.1 = M.1.cls) (hn : As.length = n) (hst : St = As.reverse ++ .ref (ad o 0) :: rest) (hW : (rest.map fun v => v.category).sum ≤ 8) (dd : decode cc pc = .ok (.invokevirtual idx, 3)) (k : Z l ad D ia C X Y (pc + 3) V (X1.toList ++ rest) Y1) : Z l ad D ia C X Y pc V St s := by
  obtain ⟨p, e, R, s0, m, args, below, meth, c0⟩ := C
  obtain ⟨hx, hb, hml, hown, hts, hr, hlk, hR, hKK⟩ := hC
  intro H locs ls hw hS hl
  obtain ⟨hwd, hd, hm⟩ := lk
  subst hR
  have hR : (zrm d).frames + 1 ≤ (zrm (d + 1)).frames ∧ 8 + (M.2.2.1 + 11) + (zrm d).locals ≤ (zrm (d + 1)).locals := ⟨Nat.le_refl _, by simp only [zrm]; omega⟩
  have cw := cwV (C := M.1.cls) (ws := .code M.1 M.2.1 M.2.2.1 M.2.2.2 :: WL) (rm := zrm d) (mc := 0) (ms := 0) (R := zrm (d + 1)) n hts (fun w h => by
    simp only [wsV, List.mem_append, List.mem_cons, List.not_mem_nil, or_false] at h
    rcases h with (rfl | rfl | rfl | rfl) | h
    · exact zWL_good _ hwd.1
    · exact zWL_good _ hwd.2.1
    · exact zWL_good _ hwd.2.2.1
    · exact zWL_good _ hwd.2.2.2.1
    · exact zgood hwd.2.2.2.2 (fun _ h => h) w (List.mem_cons.mpr h)) rfl rfl rfl ⟨rfl, hd⟩ hR
  have hrecv : ∃ cellB : Cell, H[ad o 0]? = some cellB ∧ cellB.vm.isStatics = false ∧ s0.vm.findClass M.1.cls = some cellB.cls := by
    obtain ⟨c, hoc, hc0, q, hq, hq1⟩ := hoc
    obtain ⟨f, hf, hP⟩ := id hw
    obtain ⟨q0, -, he⟩ := zget hf (o := o) (k := 0) (zmem (by rw [hoc]; exact hc0))
    have he : (va_pl (zLL ad) f)[q0]? = some (ad o 0, .inr (c, zfs ad c o (s o))) := by rw [he]; simp only [zce, hoc]
    rw [← hq1]
    exact va_recv hKK.2.1 hP hq he
  have hrun := va_runV (Ts := WL) (nL := c0.maxLocals) (g := F0 m pc ls St) (rest := rest) (As := As) (cells := 0) (slots := 0) (locs := locs) (e := e) (below := below) (meth := meth) ⟨hx, hb, rfl, hown, hts⟩ hE cw ⟨zblind, hrecv, fun U hU hWm => ⟨rfl, zK_warm hWm hKK, by rw [hU]; exact hw⟩⟩ rfl hn hl.1 hst (by simpa using hW) dd ⟨Nat.le_refl _, Nat.le_refl _⟩
  intro T hT Xs
  obtain ⟨v, st0, t, T2, L, h0, X2, hL, e1, e2, ⟨⟨hv, hwt⟩, hz, hk⟩, st⟩ := hrun T hT Xs
  cases hv
  rw [h0] at hz hk
  obtain ⟨t2, a1, b1⟩ := k T2.heap (locs ++ L) ls (by rw [e1]; exact hwt)
    ⟨Nat.le_trans hS.1 (by rw [e1]; exact hz), fun q h1 h2 => by rw [e1, hk q (Nat.lt_of_lt_of_le h1 hS.1) h2]; exact hS.2.1 q h1 h2, fun q hq => by
      rcases List.mem_append.mp hq with h | h
      · exact hS.2.2 q h
      · exact hL q h⟩ hl T2 rfl X2
  exact ⟨t2, st t2 a1, b1⟩
theorem Z_callS (hC : Zok ad D ia C (d + 1) cc nL own ret) {M : ZM} {idx n : Nat} {As rest : List Value} {X1 : Option Value} {Y1 : ZS} (hE : Ev l ad D ia d M (As) s X1 Y1) (lk : zcS own idx M n) (hn : As.length = n) (hst : St = As.reverse ++ rest) (hW : (rest.map fun v => v.category).sum ≤ 8) (dd : decode cc pc = .ok (.invokestatic idx, 3)) (k : Z l ad D ia C X Y (pc + 3) V (X1.toList ++ rest) Y1) : Z l ad D ia C X Y pc V St s := by
  obtain ⟨p, e, R, s0, m, args, below, meth, c0⟩ := C
  obtain ⟨hx, hb, hml, hown, hts, hr, hlk, hR, hKK⟩ := hC
  intro H locs ls hw hS hl
  obtain ⟨hwd, hd, hm⟩ := lk
  subst hR
  have hR : (zrm d).frames + 1 ≤ (zrm (d + 1)).frames ∧ 8 + (M.2.2.1 + 11) + (zrm d).locals ≤ (zrm (d + 1)).locals := ⟨Nat.le_refl _, by simp only [zrm]; omega⟩
  have cw : CallB (zrm (d + 1)) s0 args own idx M.1 M.2.1 M.2.2.1 M.2.2.2 (.code M.1 M.2.1 M.2.2.1 M.2.2.2 :: WL) (zrm d) 0 0 n ∧ (Cond.static M.1).before args s0 = true := ⟨callB_of n hts (zgood hwd.2.2.2 (fun _ h => h)) rfl rfl rfl (hts _ hwd.2.2.1) (hts _ hwd.1) hd hR, hts _ hwd.2.1⟩
  have hrun := va_runS (Ts := WL) (nL := c0.maxLocals) (g := F0 m pc ls St) (rest := rest) (As := As) (cells := 0) (slots := 0) (locs := locs) (e := e) (below := below) (meth := meth) ⟨hx, hb, rfl, hown, hts⟩ hE cw ⟨zblind, fun U hU hWm => ⟨rfl, zK_warm hWm hKK, by rw [hU]; exact hw⟩⟩ rfl hn hl.1 hst (by simpa using hW) dd ⟨Nat.le_refl _, Nat.le_refl _⟩
  intro T hT Xs
  obtain ⟨v, st0, t, T2, L, h0, X2, hL, e1, e2, ⟨⟨hv, hwt⟩, hz, hk⟩, st⟩ := hrun T hT Xs
  cases hv
  rw [h0] at hz hk
  obtain ⟨t2, a1, b1⟩ := k T2.heap (locs ++ L) ls (by rw [e1]; exact hwt)
    ⟨Nat.le_trans hS.1 (by rw [e1]; exact hz), fun q h1 h2 => by rw [e1, hk q (Nat.lt_of_lt_of_le h1 hS.1) h2]; exact hS.2.1 q h1 h2, fun q hq => by
      rcases List.mem_append.mp hq with h | h
      · exact hS.2.2 q h
      · exact hL q h⟩ hl T2 rfl X2
  exact ⟨t2, st t2 a1, b1⟩
theorem Z_callN (hC : Zok ad D ia C (d + 1) cc nL own ret) {M : ZM} {idx n : Nat} {As rest : List Value} {X1 : Option Value} {Y1 : ZS} (hE : Ev l ad D ia d M (As) s X1 Y1) (lk : zcN own idx M n) (hn : As.length = n) (hst : St = As.reverse ++ rest) (hW : (rest.map fun v => v.category).sum ≤ 8) (dd : decode cc pc = .ok (.invokestatic idx, 3)) (k : Z l ad D ia C X Y (pc + 3) V (X1.toList ++ rest) Y1) : Z l ad D ia C X Y pc V St s := by
  obtain ⟨p, e, R, s0, m, args, below, meth, c0⟩ := C
  obtain ⟨hx, hb, hml, hown, hts, hr, hlk, hR, hKK⟩ := hC
  intro H locs ls hw hS hl
  obtain ⟨hwd, hd, hm⟩ := lk
  subst hR
  have hR : (zrm d).frames + 1 ≤ (zrm (d + 1)).frames ∧ 8 + (M.2.2.1 + 11) + (zrm d).locals ≤ (zrm (d + 1)).locals := ⟨Nat.le_refl _, by simp only [zrm]; omega⟩
  have cw := va_cnB (own := own) (index := idx) (args := args) (s := s0) (R := zrm (d + 1)) (rm := zrm d) (mc := 0) (ms := 0) (ws := .code M.1 M.2.1 M.2.2.1 M.2.2.2 :: WL) n hts (zgood hwd.2.2.2 (fun _ h => h)) rfl rfl rfl (hKK.2.2 _ hwd.1) (hts _ hwd.2.2.1) hd hR
  have cw := And.intro cw (And.intro (hts _ hwd.2.1) True.intro)
  have hrun := va_runSN (Ts := WL) (nL := c0.maxLocals) (g := F0 m pc ls St) (rest := rest) (As := As) (cells := 0) (slots := 0) (locs := locs) (e := e) (below := below) (meth := meth) ⟨hx, hb, rfl, hown, hts⟩ hE cw ⟨zblind, fun U hU hWm => ⟨rfl, zK_warm hWm hKK, by rw [hU]; exact hw⟩⟩ rfl hn hl.1 hst (by simpa using hW) dd ⟨Nat.le_refl _, Nat.le_refl _⟩
  intro T hT Xs
  obtain ⟨v, st0, t, T2, L, h0, X2, hL, e1, e2, ⟨⟨hv, hwt⟩, hz, hk⟩, st⟩ := hrun T hT Xs
  cases hv
  rw [h0] at hz hk
  obtain ⟨t2, a1, b1⟩ := k T2.heap (locs ++ L) ls (by rw [e1]; exact hwt)
    ⟨Nat.le_trans hS.1 (by rw [e1]; exact hz), fun q h1 h2 => by rw [e1, hk q (Nat.lt_of_lt_of_le h1 hS.1) h2]; exact hS.2.1 q h1 h2, fun q hq => by
      rcases List.mem_append.mp hq with h | h
      · exact hS.2.2 q h
      · exact hL q h⟩ hl T2 rfl X2
  exact ⟨t2, st t2 a1, b1⟩
theorem Ev.start {M : ZM} {av : List Value} (hy : plainName M.1.cls = true) (hlen : (lg_sl av).length ≤ M.2.2.1) (body : ∀ C : ZC, Zok ad D ia C d M.2.1 M.2.2.1 M.1.cls M.2.2.2 → Z l ad D ia C X Y 0 (lv_args 0 av) [] s) : Ev l ad D ia d M av s X Y := by
  refine Met.ofW (cc := M.2.1) (maxL := M.2.2.1) (ret := M.2.2.2) hy rfl ?_
  intro p e s0 m args below meth c s1 B hml hv
  obtain ⟨rfl, hKK, hw⟩ := hv
  have hts := atoms_spec (ws := .code M.1 M.2.1 M.2.2.1 M.2.2.2 :: WL) B.pre
  have hZ := body (p, e, zrm d, s0, m, av.toArray, below, meth, c) ⟨B.exec, B.bytes, hml, findClass_of_methodNamed B.named, fun w h => hts w (List.mem_cons_of_mem _ h), B.returns, B.notSynchronized, rfl, hKK⟩
  have hl := lv_entry av (n := M.2.2.1) hlen
  rw [lg_entry_eq]
  exact hZ s0.heap [] _ hw va_S.rf (by rw [hml]; exact hl)
end ZL
end
