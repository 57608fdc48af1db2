section
-- ===== PART A: goes FIRST, ahead of the names: the tables' words, and 'selects' of the private methods out of them =====
/-- a private method of a class that the tables say can be made, by its rows of tables_1 -/
def lw_okq (q : MethodName × Nat) : Prop := (q.1.cls ≠ "java/lang/invoke/MethodHandle" ∧ q.1.cls ≠ "java/lang/invoke/VarHandle") ∧ Cond.instantiable q.1.cls q.2 ∈ tables_1 ∧ Cond.privateMethod q.1 ∈ tables_1 ∧ Cond.instanceMethod q.1 ∈ tables_1
theorem lw_p0 : lw_okq (⟨"SheepdogTrial$State", "isRankedBefore", "(II)Z"⟩, 7) := ⟨⟨by decide +kernel, by decide +kernel⟩, List.mem_of_getElem? (i := 34) (by decide +kernel), List.mem_of_getElem? (i := 325) (by decide +kernel), List.mem_of_getElem? (i := 326) (by decide +kernel)⟩
theorem lw_p1 : lw_okq (⟨"SheepdogTrial$Line", "putDigit", "(I)V"⟩, 2) := ⟨⟨by decide +kernel, by decide +kernel⟩, List.mem_of_getElem? (i := 211) (by decide +kernel), List.mem_of_getElem? (i := 371) (by decide +kernel), List.mem_of_getElem? (i := 372) (by decide +kernel)⟩
theorem lw_p2 : lw_okq (⟨"SheepdogTrial", "freshDraft", "()LSheepdogTrial$State;"⟩, 10) := ⟨⟨by decide +kernel, by decide +kernel⟩, List.mem_of_getElem? (i := 26) (by decide +kernel), List.mem_of_getElem? (i := 406) (by decide +kernel), List.mem_of_getElem? (i := 407) (by decide +kernel)⟩
theorem lw_p3 : lw_okq (⟨"SheepdogTrial", "settle", "(I)I"⟩, 10) := ⟨⟨by decide +kernel, by decide +kernel⟩, List.mem_of_getElem? (i := 26) (by decide +kernel), List.mem_of_getElem? (i := 420) (by decide +kernel), List.mem_of_getElem? (i := 421) (by decide +kernel)⟩
theorem lw_p4 : lw_okq (⟨"java/lang/Throwable", "fillInStackTrace", "(I)Ljava/lang/Throwable;"⟩, 6) := ⟨⟨by decide +kernel, by decide +kernel⟩, List.mem_of_getElem? (i := 469) (by decide +kernel), List.mem_of_getElem? (i := 467) (by decide +kernel), List.mem_of_getElem? (i := 468) (by decide +kernel)⟩
theorem lw_p5 : lw_okq (⟨"SheepdogTrial$State", "runGoingOn", "()LSheepdogTrial$Run;"⟩, 7) := ⟨⟨by decide +kernel, by decide +kernel⟩, List.mem_of_getElem? (i := 34) (by decide +kernel), List.mem_of_getElem? (i := 635) (by decide +kernel), List.mem_of_getElem? (i := 636) (by decide +kernel)⟩
theorem lw_p6 : lw_okq (⟨"SheepdogTrial$State", "endOverTime", "(LSheepdogTrial$Run;)I"⟩, 7) := ⟨⟨by decide +kernel, by decide +kernel⟩, List.mem_of_getElem? (i := 34) (by decide +kernel), List.mem_of_getElem? (i := 642) (by decide +kernel), List.mem_of_getElem? (i := 643) (by decide +kernel)⟩
theorem lw_p7 : lw_okq (⟨"SheepdogTrial$State", "leaveLine", "(LSheepdogTrial$Run;)I"⟩, 7) := ⟨⟨by decide +kernel, by decide +kernel⟩, List.mem_of_getElem? (i := 34) (by decide +kernel), List.mem_of_getElem? (i := 680) (by decide +kernel), List.mem_of_getElem? (i := 681) (by decide +kernel)⟩
theorem lw_p8 : lw_okq (⟨"SheepdogTrial$State", "completeLeg", "(LSheepdogTrial$Run;)I"⟩, 7) := ⟨⟨by decide +kernel, by decide +kernel⟩, List.mem_of_getElem? (i := 34) (by decide +kernel), List.mem_of_getElem? (i := 704) (by decide +kernel), List.mem_of_getElem? (i := 705) (by decide +kernel)⟩
theorem lw_p9 : lw_okq (⟨"SheepdogTrial$State", "countOpenGates", "(LSheepdogTrial$Run;)I"⟩, 7) := ⟨⟨by decide +kernel, by decide +kernel⟩, List.mem_of_getElem? (i := 34) (by decide +kernel), List.mem_of_getElem? (i := 708) (by decide +kernel), List.mem_of_getElem? (i := 709) (by decide +kernel)⟩
theorem lw_p10 : lw_okq (⟨"SheepdogTrial", "requireLeg", "(I)V"⟩, 10) := ⟨⟨by decide +kernel, by decide +kernel⟩, List.mem_of_getElem? (i := 26) (by decide +kernel), List.mem_of_getElem? (i := 741) (by decide +kernel), List.mem_of_getElem? (i := 742) (by decide +kernel)⟩
theorem lw_p11 : lw_okq (⟨"SheepdogTrial", "requireGate", "(I)V"⟩, 10) := ⟨⟨by decide +kernel, by decide +kernel⟩, List.mem_of_getElem? (i := 26) (by decide +kernel), List.mem_of_getElem? (i := 753) (by decide +kernel), List.mem_of_getElem? (i := 754) (by decide +kernel)⟩
theorem lw_p12 : lw_okq (⟨"SheepdogTrial", "requireRunning", "()V"⟩, 10) := ⟨⟨by decide +kernel, by decide +kernel⟩, List.mem_of_getElem? (i := 26) (by decide +kernel), List.mem_of_getElem? (i := 777) (by decide +kernel), List.mem_of_getElem? (i := 778) (by decide +kernel)⟩
theorem lw_p13 : lw_okq (⟨"SheepdogTrial", "runNumbered", "(I)LSheepdogTrial$Run;"⟩, 10) := ⟨⟨by decide +kernel, by decide +kernel⟩, List.mem_of_getElem? (i := 26) (by decide +kernel), List.mem_of_getElem? (i := 856) (by decide +kernel), List.mem_of_getElem? (i := 857) (by decide +kernel)⟩
theorem lw_p14 : lw_okq (⟨"SheepdogTrial", "requireRun", "(I)V"⟩, 10) := ⟨⟨by decide +kernel, by decide +kernel⟩, List.mem_of_getElem? (i := 26) (by decide +kernel), List.mem_of_getElem? (i := 860) (by decide +kernel), List.mem_of_getElem? (i := 861) (by decide +kernel)⟩
theorem lw_p15 : lw_okq (⟨"SheepdogTrial$Program", "parseCommand", "(I)Z"⟩, 6) := ⟨⟨by decide +kernel, by decide +kernel⟩, List.mem_of_getElem? (i := 227) (by decide +kernel), List.mem_of_getElem? (i := 1035) (by decide +kernel), List.mem_of_getElem? (i := 1036) (by decide +kernel)⟩
def lw_privs_1 : List (MethodName × Nat) := [(⟨"SheepdogTrial$State", "isRankedBefore", "(II)Z"⟩, 7), (⟨"SheepdogTrial$Line", "putDigit", "(I)V"⟩, 2), (⟨"SheepdogTrial", "freshDraft", "()LSheepdogTrial$State;"⟩, 10), (⟨"SheepdogTrial", "settle", "(I)I"⟩, 10), (⟨"java/lang/Throwable", "fillInStackTrace", "(I)Ljava/lang/Throwable;"⟩, 6), (⟨"SheepdogTrial$State", "runGoingOn", "()LSheepdogTrial$Run;"⟩, 7), (⟨"SheepdogTrial$State", "endOverTime", "(LSheepdogTrial$Run;)I"⟩, 7), (⟨"SheepdogTrial$State", "leaveLine", "(LSheepdogTrial$Run;)I"⟩, 7), (⟨"SheepdogTrial$State", "completeLeg", "(LSheepdogTrial$Run;)I"⟩, 7), (⟨"SheepdogTrial$State", "countOpenGates", "(LSheepdogTrial$Run;)I"⟩, 7), (⟨"SheepdogTrial", "requireLeg", "(I)V"⟩, 10), (⟨"SheepdogTrial", "requireGate", "(I)V"⟩, 10), (⟨"SheepdogTrial", "requireRunning", "()V"⟩, 10), (⟨"SheepdogTrial", "runNumbered", "(I)LSheepdogTrial$Run;"⟩, 10), (⟨"SheepdogTrial", "requireRun", "(I)V"⟩, 10), (⟨"SheepdogTrial$Program", "parseCommand", "(I)Z"⟩, 6)]
theorem lw_r1 : ∀ q ∈ lw_privs_1, lw_okq q := List.forall_mem_cons.mpr ⟨lw_p0, List.forall_mem_cons.mpr ⟨lw_p1, List.forall_mem_cons.mpr ⟨lw_p2, List.forall_mem_cons.mpr ⟨lw_p3, List.forall_mem_cons.mpr ⟨lw_p4, List.forall_mem_cons.mpr ⟨lw_p5, List.forall_mem_cons.mpr ⟨lw_p6, List.forall_mem_cons.mpr ⟨lw_p7, List.forall_mem_cons.mpr ⟨lw_p8, List.forall_mem_cons.mpr ⟨lw_p9, List.forall_mem_cons.mpr ⟨lw_p10, List.forall_mem_cons.mpr ⟨lw_p11, List.forall_mem_cons.mpr ⟨lw_p12, List.forall_mem_cons.mpr ⟨lw_p13, List.forall_mem_cons.mpr ⟨lw_p14, List.forall_mem_cons.mpr ⟨lw_p15, fun _ h => absurd h List.not_mem_nil⟩⟩⟩⟩⟩⟩⟩⟩⟩⟩⟩⟩⟩⟩⟩⟩
theorem lw_p16 : lw_okq (⟨"SheepdogTrial$Program", "matches", "(Ljava/lang/String;I)Z"⟩, 6) := ⟨⟨by decide +kernel, by decide +kernel⟩, List.mem_of_getElem? (i := 227) (by decide +kernel), List.mem_of_getElem? (i := 1051) (by decide +kernel), List.mem_of_getElem? (i := 1052) (by decide +kernel)⟩
theorem lw_p17 : lw_okq (⟨"SheepdogTrial$Program", "skipDigits", "(I)V"⟩, 6) := ⟨⟨by decide +kernel, by decide +kernel⟩, List.mem_of_getElem? (i := 227) (by decide +kernel), List.mem_of_getElem? (i := 1103) (by decide +kernel), List.mem_of_getElem? (i := 1104) (by decide +kernel)⟩
theorem lw_p18 : lw_okq (⟨"SheepdogTrial$Program", "valueOfDigits", "(II)I"⟩, 6) := ⟨⟨by decide +kernel, by decide +kernel⟩, List.mem_of_getElem? (i := 227) (by decide +kernel), List.mem_of_getElem? (i := 1109) (by decide +kernel), List.mem_of_getElem? (i := 1110) (by decide +kernel)⟩
theorem lw_p19 : lw_okq (⟨"SheepdogTrial$Program", "perform", "(LSheepdogTrial$State;I)I"⟩, 6) := ⟨⟨by decide +kernel, by decide +kernel⟩, List.mem_of_getElem? (i := 227) (by decide +kernel), List.mem_of_getElem? (i := 1123) (by decide +kernel), List.mem_of_getElem? (i := 1124) (by decide +kernel)⟩
theorem lw_p20 : lw_okq (⟨"SheepdogTrialModel", "starts", "()V"⟩, 21) := ⟨⟨by decide +kernel, by decide +kernel⟩, List.mem_of_getElem? (i := 1192) (by decide +kernel), List.mem_of_getElem? (i := 1270) (by decide +kernel), List.mem_of_getElem? (i := 1271) (by decide +kernel)⟩
theorem lw_p21 : lw_okq (⟨"SheepdogTrialModel", "startIt", "(II)I"⟩, 21) := ⟨⟨by decide +kernel, by decide +kernel⟩, List.mem_of_getElem? (i := 1192) (by decide +kernel), List.mem_of_getElem? (i := 1274) (by decide +kernel), List.mem_of_getElem? (i := 1275) (by decide +kernel)⟩
theorem lw_p22 : lw_okq (⟨"SheepdogTrialModel", "throwing", "(I)I"⟩, 21) := ⟨⟨by decide +kernel, by decide +kernel⟩, List.mem_of_getElem? (i := 1192) (by decide +kernel), List.mem_of_getElem? (i := 1285) (by decide +kernel), List.mem_of_getElem? (i := 1286) (by decide +kernel)⟩
theorem lw_p23 : lw_okq (⟨"SheepdogTrialModel", "isFixed", "()Z"⟩, 21) := ⟨⟨by decide +kernel, by decide +kernel⟩, List.mem_of_getElem? (i := 1192) (by decide +kernel), List.mem_of_getElem? (i := 1289) (by decide +kernel), List.mem_of_getElem? (i := 1290) (by decide +kernel)⟩
theorem lw_p24 : lw_okq (⟨"SheepdogTrialModel", "changed", "(I)I"⟩, 21) := ⟨⟨by decide +kernel, by decide +kernel⟩, List.mem_of_getElem? (i := 1192) (by decide +kernel), List.mem_of_getElem? (i := 1293) (by decide +kernel), List.mem_of_getElem? (i := 1294) (by decide +kernel)⟩
theorem lw_p25 : lw_okq (⟨"SheepdogTrialModel", "legIt", "(III)I"⟩, 21) := ⟨⟨by decide +kernel, by decide +kernel⟩, List.mem_of_getElem? (i := 1192) (by decide +kernel), List.mem_of_getElem? (i := 1301) (by decide +kernel), List.mem_of_getElem? (i := 1302) (by decide +kernel)⟩
theorem lw_p26 : lw_okq (⟨"SheepdogTrialModel", "gateIt", "(IIIII)I"⟩, 21) := ⟨⟨by decide +kernel, by decide +kernel⟩, List.mem_of_getElem? (i := 1192) (by decide +kernel), List.mem_of_getElem? (i := 1313) (by decide +kernel), List.mem_of_getElem? (i := 1314) (by decide +kernel)⟩
theorem lw_p27 : lw_okq (⟨"SheepdogTrialModel", "isLeg", "(I)Z"⟩, 21) := ⟨⟨by decide +kernel, by decide +kernel⟩, List.mem_of_getElem? (i := 1192) (by decide +kernel), List.mem_of_getElem? (i := 1317) (by decide +kernel), List.mem_of_getElem? (i := 1318) (by decide +kernel)⟩
theorem lw_p28 : lw_okq (⟨"SheepdogTrialModel", "setsIt", "(IIII)I"⟩, 21) := ⟨⟨by decide +kernel, by decide +kernel⟩, List.mem_of_getElem? (i := 1192) (by decide +kernel), List.mem_of_getElem? (i := 1328) (by decide +kernel), List.mem_of_getElem? (i := 1329) (by decide +kernel)⟩
theorem lw_p29 : lw_okq (⟨"SheepdogTrialModel", "runIt", "()I"⟩, 21) := ⟨⟨by decide +kernel, by decide +kernel⟩, List.mem_of_getElem? (i := 1192) (by decide +kernel), List.mem_of_getElem? (i := 1340) (by decide +kernel), List.mem_of_getElem? (i := 1341) (by decide +kernel)⟩
theorem lw_p30 : lw_okq (⟨"SheepdogTrialModel", "walkIt", "(III)I"⟩, 21) := ⟨⟨by decide +kernel, by decide +kernel⟩, List.mem_of_getElem? (i := 1192) (by decide +kernel), List.mem_of_getElem? (i := 1351) (by decide +kernel), List.mem_of_getElem? (i := 1352) (by decide +kernel)⟩
theorem lw_p31 : lw_okq (⟨"SheepdogTrialModel", "losesRest", "(I)I"⟩, 21) := ⟨⟨by decide +kernel, by decide +kernel⟩, List.mem_of_getElem? (i := 1192) (by decide +kernel), List.mem_of_getElem? (i := 1356) (by decide +kernel), List.mem_of_getElem? (i := 1357) (by decide +kernel)⟩
def lw_privs_2 : List (MethodName × Nat) := [(⟨"SheepdogTrial$Program", "matches", "(Ljava/lang/String;I)Z"⟩, 6), (⟨"SheepdogTrial$Program", "skipDigits", "(I)V"⟩, 6), (⟨"SheepdogTrial$Program", "valueOfDigits", "(II)I"⟩, 6), (⟨"SheepdogTrial$Program", "perform", "(LSheepdogTrial$State;I)I"⟩, 6), (⟨"SheepdogTrialModel", "starts", "()V"⟩, 21), (⟨"SheepdogTrialModel", "startIt", "(II)I"⟩, 21), (⟨"SheepdogTrialModel", "throwing", "(I)I"⟩, 21), (⟨"SheepdogTrialModel", "isFixed", "()Z"⟩, 21), (⟨"SheepdogTrialModel", "changed", "(I)I"⟩, 21), (⟨"SheepdogTrialModel", "legIt", "(III)I"⟩, 21), (⟨"SheepdogTrialModel", "gateIt", "(IIIII)I"⟩, 21), (⟨"SheepdogTrialModel", "isLeg", "(I)Z"⟩, 21), (⟨"SheepdogTrialModel", "setsIt", "(IIII)I"⟩, 21), (⟨"SheepdogTrialModel", "runIt", "()I"⟩, 21), (⟨"SheepdogTrialModel", "walkIt", "(III)I"⟩, 21), (⟨"SheepdogTrialModel", "losesRest", "(I)I"⟩, 21)]
theorem lw_r2 : ∀ q ∈ lw_privs_2, lw_okq q := List.forall_mem_cons.mpr ⟨lw_p16, List.forall_mem_cons.mpr ⟨lw_p17, List.forall_mem_cons.mpr ⟨lw_p18, List.forall_mem_cons.mpr ⟨lw_p19, List.forall_mem_cons.mpr ⟨lw_p20, List.forall_mem_cons.mpr ⟨lw_p21, List.forall_mem_cons.mpr ⟨lw_p22, List.forall_mem_cons.mpr ⟨lw_p23, List.forall_mem_cons.mpr ⟨lw_p24, List.forall_mem_cons.mpr ⟨lw_p25, List.forall_mem_cons.mpr ⟨lw_p26, List.forall_mem_cons.mpr ⟨lw_p27, List.forall_mem_cons.mpr ⟨lw_p28, List.forall_mem_cons.mpr ⟨lw_p29, List.forall_mem_cons.mpr ⟨lw_p30, List.forall_mem_cons.mpr ⟨lw_p31, fun _ h => absurd h List.not_mem_nil⟩⟩⟩⟩⟩⟩⟩⟩⟩⟩⟩⟩⟩⟩⟩⟩
theorem lw_p32 : lw_okq (⟨"SheepdogTrialModel", "loses", "(III)I"⟩, 21) := ⟨⟨by decide +kernel, by decide +kernel⟩, List.mem_of_getElem? (i := 1192) (by decide +kernel), List.mem_of_getElem? (i := 1360) (by decide +kernel), List.mem_of_getElem? (i := 1361) (by decide +kernel)⟩
theorem lw_p33 : lw_okq (⟨"SheepdogTrialModel", "endsRun", "()V"⟩, 21) := ⟨⟨by decide +kernel, by decide +kernel⟩, List.mem_of_getElem? (i := 1192) (by decide +kernel), List.mem_of_getElem? (i := 1365) (by decide +kernel), List.mem_of_getElem? (i := 1366) (by decide +kernel)⟩
theorem lw_p34 : lw_okq (⟨"SheepdogTrialModel", "gatesTo", "(II)I"⟩, 21) := ⟨⟨by decide +kernel, by decide +kernel⟩, List.mem_of_getElem? (i := 1192) (by decide +kernel), List.mem_of_getElem? (i := 1369) (by decide +kernel), List.mem_of_getElem? (i := 1370) (by decide +kernel)⟩
theorem lw_p35 : lw_okq (⟨"SheepdogTrialModel", "isPassed", "(I)Z"⟩, 21) := ⟨⟨by decide +kernel, by decide +kernel⟩, List.mem_of_getElem? (i := 1192) (by decide +kernel), List.mem_of_getElem? (i := 1373) (by decide +kernel), List.mem_of_getElem? (i := 1374) (by decide +kernel)⟩
theorem lw_p36 : lw_okq (⟨"SheepdogTrialModel", "meets", "(IIIII)Z"⟩, 21) := ⟨⟨by decide +kernel, by decide +kernel⟩, List.mem_of_getElem? (i := 1192) (by decide +kernel), List.mem_of_getElem? (i := 1377) (by decide +kernel), List.mem_of_getElem? (i := 1378) (by decide +kernel)⟩
theorem lw_p37 : lw_okq (⟨"SheepdogTrialModel", "isFar", "(II)Z"⟩, 21) := ⟨⟨by decide +kernel, by decide +kernel⟩, List.mem_of_getElem? (i := 1192) (by decide +kernel), List.mem_of_getElem? (i := 1391) (by decide +kernel), List.mem_of_getElem? (i := 1392) (by decide +kernel)⟩
theorem lw_p38 : lw_okq (⟨"SheepdogTrialModel", "completesLeg", "()I"⟩, 21) := ⟨⟨by decide +kernel, by decide +kernel⟩, List.mem_of_getElem? (i := 1192) (by decide +kernel), List.mem_of_getElem? (i := 1401) (by decide +kernel), List.mem_of_getElem? (i := 1402) (by decide +kernel)⟩
theorem lw_p39 : lw_okq (⟨"SheepdogTrialModel", "faultIt", "(I)I"⟩, 21) := ⟨⟨by decide +kernel, by decide +kernel⟩, List.mem_of_getElem? (i := 1192) (by decide +kernel), List.mem_of_getElem? (i := 1409) (by decide +kernel), List.mem_of_getElem? (i := 1410) (by decide +kernel)⟩
theorem lw_p40 : lw_okq (⟨"SheepdogTrialModel", "retireIt", "()I"⟩, 21) := ⟨⟨by decide +kernel, by decide +kernel⟩, List.mem_of_getElem? (i := 1192) (by decide +kernel), List.mem_of_getElem? (i := 1418) (by decide +kernel), List.mem_of_getElem? (i := 1419) (by decide +kernel)⟩
theorem lw_p41 : lw_okq (⟨"SheepdogTrialModel", "total", "(I)I"⟩, 21) := ⟨⟨by decide +kernel, by decide +kernel⟩, List.mem_of_getElem? (i := 1192) (by decide +kernel), List.mem_of_getElem? (i := 1426) (by decide +kernel), List.mem_of_getElem? (i := 1427) (by decide +kernel)⟩
theorem lw_p42 : lw_okq (⟨"SheepdogTrialModel", "isGate", "(I)Z"⟩, 21) := ⟨⟨by decide +kernel, by decide +kernel⟩, List.mem_of_getElem? (i := 1192) (by decide +kernel), List.mem_of_getElem? (i := 1446) (by decide +kernel), List.mem_of_getElem? (i := 1447) (by decide +kernel)⟩
theorem lw_p43 : lw_okq (⟨"SheepdogTrialModel", "ofGoing", "(I)I"⟩, 21) := ⟨⟨by decide +kernel, by decide +kernel⟩, List.mem_of_getElem? (i := 1192) (by decide +kernel), List.mem_of_getElem? (i := 1470) (by decide +kernel), List.mem_of_getElem? (i := 1471) (by decide +kernel)⟩
theorem lw_p44 : lw_okq (⟨"SheepdogTrialModel", "asks", "(II)Z"⟩, 21) := ⟨⟨by decide +kernel, by decide +kernel⟩, List.mem_of_getElem? (i := 1192) (by decide +kernel), List.mem_of_getElem? (i := 1490) (by decide +kernel), List.mem_of_getElem? (i := 1491) (by decide +kernel)⟩
theorem lw_p45 : lw_okq (⟨"SheepdogTrialModel", "ofRun", "(II)I"⟩, 21) := ⟨⟨by decide +kernel, by decide +kernel⟩, List.mem_of_getElem? (i := 1192) (by decide +kernel), List.mem_of_getElem? (i := 1510) (by decide +kernel), List.mem_of_getElem? (i := 1511) (by decide +kernel)⟩
theorem lw_p46 : lw_okq (⟨"SheepdogTrialModel", "isRun", "(I)Z"⟩, 21) := ⟨⟨by decide +kernel, by decide +kernel⟩, List.mem_of_getElem? (i := 1192) (by decide +kernel), List.mem_of_getElem? (i := 1514) (by decide +kernel), List.mem_of_getElem? (i := 1515) (by decide +kernel)⟩
theorem lw_p47 : lw_okq (⟨"SheepdogTrialModel", "hasRunPassed", "(II)Z"⟩, 21) := ⟨⟨by decide +kernel, by decide +kernel⟩, List.mem_of_getElem? (i := 1192) (by decide +kernel), List.mem_of_getElem? (i := 1526) (by decide +kernel), List.mem_of_getElem? (i := 1527) (by decide +kernel)⟩
def lw_privs_3 : List (MethodName × Nat) := [(⟨"SheepdogTrialModel", "loses", "(III)I"⟩, 21), (⟨"SheepdogTrialModel", "endsRun", "()V"⟩, 21), (⟨"SheepdogTrialModel", "gatesTo", "(II)I"⟩, 21), (⟨"SheepdogTrialModel", "isPassed", "(I)Z"⟩, 21), (⟨"SheepdogTrialModel", "meets", "(IIIII)Z"⟩, 21), (⟨"SheepdogTrialModel", "isFar", "(II)Z"⟩, 21), (⟨"SheepdogTrialModel", "completesLeg", "()I"⟩, 21), (⟨"SheepdogTrialModel", "faultIt", "(I)I"⟩, 21), (⟨"SheepdogTrialModel", "retireIt", "()I"⟩, 21), (⟨"SheepdogTrialModel", "total", "(I)I"⟩, 21), (⟨"SheepdogTrialModel", "isGate", "(I)Z"⟩, 21), (⟨"SheepdogTrialModel", "ofGoing", "(I)I"⟩, 21), (⟨"SheepdogTrialModel", "asks", "(II)Z"⟩, 21), (⟨"SheepdogTrialModel", "ofRun", "(II)I"⟩, 21), (⟨"SheepdogTrialModel", "isRun", "(I)Z"⟩, 21), (⟨"SheepdogTrialModel", "hasRunPassed", "(II)Z"⟩, 21)]
theorem lw_r3 : ∀ q ∈ lw_privs_3, lw_okq q := List.forall_mem_cons.mpr ⟨lw_p32, List.forall_mem_cons.mpr ⟨lw_p33, List.forall_mem_cons.mpr ⟨lw_p34, List.forall_mem_cons.mpr ⟨lw_p35, List.forall_mem_cons.mpr ⟨lw_p36, List.forall_mem_cons.mpr ⟨lw_p37, List.forall_mem_cons.mpr ⟨lw_p38, List.forall_mem_cons.mpr ⟨lw_p39, List.forall_mem_cons.mpr ⟨lw_p40, List.forall_mem_cons.mpr ⟨lw_p41, List.forall_mem_cons.mpr ⟨lw_p42, List.forall_mem_cons.mpr ⟨lw_p43, List.forall_mem_cons.mpr ⟨lw_p44, List.forall_mem_cons.mpr ⟨lw_p45, List.forall_mem_cons.mpr ⟨lw_p46, List.forall_mem_cons.mpr ⟨lw_p47, fun _ h => absurd h List.not_mem_nil⟩⟩⟩⟩⟩⟩⟩⟩⟩⟩⟩⟩⟩⟩⟩⟩
theorem lw_p48 : lw_okq (⟨"SheepdogTrialModel", "scoreOf", "(I)I"⟩, 21) := ⟨⟨by decide +kernel, by decide +kernel⟩, List.mem_of_getElem? (i := 1192) (by decide +kernel), List.mem_of_getElem? (i := 1538) (by decide +kernel), List.mem_of_getElem? (i := 1539) (by decide +kernel)⟩
theorem lw_p49 : lw_okq (⟨"SheepdogTrialModel", "runRanked", "(I)I"⟩, 21) := ⟨⟨by decide +kernel, by decide +kernel⟩, List.mem_of_getElem? (i := 1192) (by decide +kernel), List.mem_of_getElem? (i := 1567) (by decide +kernel), List.mem_of_getElem? (i := 1568) (by decide +kernel)⟩
theorem lw_p50 : lw_okq (⟨"SheepdogTrialModel", "rankOfRun", "(I)I"⟩, 21) := ⟨⟨by decide +kernel, by decide +kernel⟩, List.mem_of_getElem? (i := 1192) (by decide +kernel), List.mem_of_getElem? (i := 1571) (by decide +kernel), List.mem_of_getElem? (i := 1572) (by decide +kernel)⟩
theorem lw_p51 : lw_okq (⟨"SheepdogTrialModel", "isAhead", "(II)Z"⟩, 21) := ⟨⟨by decide +kernel, by decide +kernel⟩, List.mem_of_getElem? (i := 1192) (by decide +kernel), List.mem_of_getElem? (i := 1575) (by decide +kernel), List.mem_of_getElem? (i := 1576) (by decide +kernel)⟩
theorem lw_p52 : lw_okq (⟨"SheepdogTrialModel", "writesNumber", "(I)V"⟩, 21) := ⟨⟨by decide +kernel, by decide +kernel⟩, List.mem_of_getElem? (i := 1192) (by decide +kernel), List.mem_of_getElem? (i := 1603) (by decide +kernel), List.mem_of_getElem? (i := 1604) (by decide +kernel)⟩
theorem lw_p53 : lw_okq (⟨"SheepdogTrialModel", "sign", "(I)V"⟩, 21) := ⟨⟨by decide +kernel, by decide +kernel⟩, List.mem_of_getElem? (i := 1192) (by decide +kernel), List.mem_of_getElem? (i := 1607) (by decide +kernel), List.mem_of_getElem? (i := 1608) (by decide +kernel)⟩
theorem lw_p54 : lw_okq (⟨"SheepdogTrialModel", "readCommand", "()V"⟩, 21) := ⟨⟨by decide +kernel, by decide +kernel⟩, List.mem_of_getElem? (i := 1192) (by decide +kernel), List.mem_of_getElem? (i := 1627) (by decide +kernel), List.mem_of_getElem? (i := 1628) (by decide +kernel)⟩
theorem lw_p55 : lw_okq (⟨"SheepdogTrialModel", "likeness", "(I)I"⟩, 21) := ⟨⟨by decide +kernel, by decide +kernel⟩, List.mem_of_getElem? (i := 1192) (by decide +kernel), List.mem_of_getElem? (i := 1631) (by decide +kernel), List.mem_of_getElem? (i := 1632) (by decide +kernel)⟩
theorem lw_p56 : lw_okq (⟨"SheepdogTrialModel", "readArguments", "(II)V"⟩, 21) := ⟨⟨by decide +kernel, by decide +kernel⟩, List.mem_of_getElem? (i := 1192) (by decide +kernel), List.mem_of_getElem? (i := 1635) (by decide +kernel), List.mem_of_getElem? (i := 1636) (by decide +kernel)⟩
theorem lw_p57 : lw_okq (⟨"SheepdogTrialModel", "number", "()I"⟩, 21) := ⟨⟨by decide +kernel, by decide +kernel⟩, List.mem_of_getElem? (i := 1192) (by decide +kernel), List.mem_of_getElem? (i := 1639) (by decide +kernel), List.mem_of_getElem? (i := 1640) (by decide +kernel)⟩
theorem lw_p58 : lw_okq (⟨"SheepdogTrialModel", "digit", "()I"⟩, 21) := ⟨⟨by decide +kernel, by decide +kernel⟩, List.mem_of_getElem? (i := 1192) (by decide +kernel), List.mem_of_getElem? (i := 1643) (by decide +kernel), List.mem_of_getElem? (i := 1644) (by decide +kernel)⟩
theorem lw_p59 : lw_okq (⟨"SheepdogTrialModel", "here", "()I"⟩, 21) := ⟨⟨by decide +kernel, by decide +kernel⟩, List.mem_of_getElem? (i := 1192) (by decide +kernel), List.mem_of_getElem? (i := 1647) (by decide +kernel), List.mem_of_getElem? (i := 1648) (by decide +kernel)⟩
theorem lw_p60 : lw_okq (⟨"SheepdogTrialModel", "numberBehind", "(I)I"⟩, 21) := ⟨⟨by decide +kernel, by decide +kernel⟩, List.mem_of_getElem? (i := 1192) (by decide +kernel), List.mem_of_getElem? (i := 1653) (by decide +kernel), List.mem_of_getElem? (i := 1654) (by decide +kernel)⟩
theorem lw_p61 : lw_okq (⟨"SheepdogTrialModel", "expects", "(I)V"⟩, 21) := ⟨⟨by decide +kernel, by decide +kernel⟩, List.mem_of_getElem? (i := 1192) (by decide +kernel), List.mem_of_getElem? (i := 1657) (by decide +kernel), List.mem_of_getElem? (i := 1658) (by decide +kernel)⟩
theorem lw_p62 : lw_okq (⟨"SheepdogTrialModel", "does", "(I)V"⟩, 21) := ⟨⟨by decide +kernel, by decide +kernel⟩, List.mem_of_getElem? (i := 1192) (by decide +kernel), List.mem_of_getElem? (i := 1661) (by decide +kernel), List.mem_of_getElem? (i := 1662) (by decide +kernel)⟩
def lw_privs_4 : List (MethodName × Nat) := [(⟨"SheepdogTrialModel", "scoreOf", "(I)I"⟩, 21), (⟨"SheepdogTrialModel", "runRanked", "(I)I"⟩, 21), (⟨"SheepdogTrialModel", "rankOfRun", "(I)I"⟩, 21), (⟨"SheepdogTrialModel", "isAhead", "(II)Z"⟩, 21), (⟨"SheepdogTrialModel", "writesNumber", "(I)V"⟩, 21), (⟨"SheepdogTrialModel", "sign", "(I)V"⟩, 21), (⟨"SheepdogTrialModel", "readCommand", "()V"⟩, 21), (⟨"SheepdogTrialModel", "likeness", "(I)I"⟩, 21), (⟨"SheepdogTrialModel", "readArguments", "(II)V"⟩, 21), (⟨"SheepdogTrialModel", "number", "()I"⟩, 21), (⟨"SheepdogTrialModel", "digit", "()I"⟩, 21), (⟨"SheepdogTrialModel", "here", "()I"⟩, 21), (⟨"SheepdogTrialModel", "numberBehind", "(I)I"⟩, 21), (⟨"SheepdogTrialModel", "expects", "(I)V"⟩, 21), (⟨"SheepdogTrialModel", "does", "(I)V"⟩, 21)]
theorem lw_r4 : ∀ q ∈ lw_privs_4, lw_okq q := List.forall_mem_cons.mpr ⟨lw_p48, List.forall_mem_cons.mpr ⟨lw_p49, List.forall_mem_cons.mpr ⟨lw_p50, List.forall_mem_cons.mpr ⟨lw_p51, List.forall_mem_cons.mpr ⟨lw_p52, List.forall_mem_cons.mpr ⟨lw_p53, List.forall_mem_cons.mpr ⟨lw_p54, List.forall_mem_cons.mpr ⟨lw_p55, List.forall_mem_cons.mpr ⟨lw_p56, List.forall_mem_cons.mpr ⟨lw_p57, List.forall_mem_cons.mpr ⟨lw_p58, List.forall_mem_cons.mpr ⟨lw_p59, List.forall_mem_cons.mpr ⟨lw_p60, List.forall_mem_cons.mpr ⟨lw_p61, List.forall_mem_cons.mpr ⟨lw_p62, fun _ h => absurd h List.not_mem_nil⟩⟩⟩⟩⟩⟩⟩⟩⟩⟩⟩⟩⟩⟩⟩
def lw_privs : List (MethodName × Nat) := lw_privs_1 ++ (lw_privs_2 ++ (lw_privs_3 ++ (lw_privs_4)))
def lw_tbl : List Cond := k2_sels lw_privs ++ tables_1
theorem lw_privs_ok : ∀ q ∈ lw_privs, lw_okq q := by
  show ∀ q ∈ lw_privs_1 ++ (lw_privs_2 ++ (lw_privs_3 ++ (lw_privs_4))), lw_okq q
  exact List.forall_mem_append.mpr ⟨lw_r1, List.forall_mem_append.mpr ⟨lw_r2, List.forall_mem_append.mpr ⟨lw_r3, lw_r4⟩⟩⟩
/-- the streams that the claim lets the run draw from -/
abbrev lw_cs : List Choice := [Jvm.Choice.named "NaN.bits"]
theorem lw_bits : nanBits ∈ lw_cs := by first | decide | exact List.mem_cons_self | simp [lw_cs, nanBits]
end
section
/-! ===== BEGIN words of one list among another's, by their places ===== -/
theorem goodIn_r {big : List Cond} (ws : List Cond) (ps : List Nat) (hp : ws = ps.filterMap (fun i => big[i]?)) (h : ws.all goodWord = true) : GoodIn big ws := by
  intro w hw
  have h1 := List.all_eq_true.mp h w hw
  rw [hp] at hw
  obtain ⟨i, -, hi⟩ := List.mem_filterMap.mp hw
  have hm : w ∈ big := by first | exact List.mem_of_getElem? hi | exact List.getElem?_mem hi
  exact ⟨hm, good_of_word h1⟩
theorem goodIn_app {big a b : List Cond} (ha : GoodIn big a) (hb : GoodIn big b) : GoodIn big (a ++ b) := fun w h => (List.mem_append.mp h).elim (ha w) (hb w)
theorem goodIn_ca {big a b : List Cond} {c : Cond} (ha : GoodIn big (c :: a)) (hb : GoodIn big b) : GoodIn big (c :: (a ++ b)) := fun w h => (List.mem_cons.mp h).elim (fun e => ha w (List.mem_cons.mpr (Or.inl e))) (fun h => (List.mem_append.mp h).elim (fun h => ha w (List.mem_cons.mpr (Or.inr h))) (hb w))
theorem goodIn_sub {big ws : List Cond} (hm : ∀ w ∈ ws, w ∈ big) (h : ws.all goodWord = true) : GoodIn big ws := fun w hw => ⟨hm w hw, good_of_word (List.all_eq_true.mp h w hw)⟩
/-! ===== END ===== -/
/-! ===== BEGIN exceptions that leave a method, and their catching by the caller (launches without stack traces) ===== -/
section VXA
/-! The laws vx_back, vx_callV, vx_callS, vx_callSW, vx_throw0, vx_throwS follow proofs of the library, with one case more: JvmDerived/Free/Laws.lean (Back.of_free), Shelf42/LK1.lean (callV, callS), Shelf/KitTraced.lean (throwNew0V, throwNewS). -/
/-- where a method has thrown q: the class by its name, the cell, what was written, the world -/
def vx_T (XC : String → State → State → Prop) (st : State) (q : Addr) (t : State) (mc ms : Nat) (free : Addr → Prop) : Prop :=
  ∃ (E : String) (ce : Cell) (L : List Loc), XC E st t ∧ t.heap[q]? = some ce ∧ ce.vm = .none ∧ st.vm.findClass E = some ce.cls ∧ st.WarmedH t.vm ∧ st.sameButNew ({ t with vm := st.vm } : State) L mc ms ∧ ∀ z ∈ L, free z.base
def vx_Q (Qc : Array Value → State → Outcome → State → Prop) (XC : String → State → State → Prop) (mc ms : Nat) (free : Addr → Prop) : Array Value → State → Outcome → State → Prop := fun a st o t =>
  (Qc a st o t ∧ ∃ L, FrameEnd st o t L mc ms ∧ ∀ q ∈ L, free q.base) ∨ ∃ q, o = .threw q ∧ vx_T XC st q t mc ms free
/-- a callee that returns or throws -/
def vx_Met (l : Launch) (y : MethodName) (ws : List Cond) (rm : Room) (Pc : Array Value → State → Prop) (Qc : Array Value → State → Outcome → State → Prop) (XC : String → State → State → Prop) (mc ms : Nat) (free : Addr → Prop) : Prop :=
  MetFree l y (headSpec ws rm) Pc (fun _ _ _ _ _ => True) (vx_Q Qc XC mc ms free)
def vx_Post (XC : String → State → State → Prop) (mc ms : Nat) (free : Addr → Prop) : Pt → Array Value → Addr → Pt → Prop := fun A a q B =>
  ∃ (g : JFrame) (mk : MethodId) (t : State) (L : List Loc) (E : String) (ce : Cell), B.U.heap = t.heap ∧ B.U.vm = t.vm ∧ XC E (A.U.calling g mk a) t ∧ t.heap[q]? = some ce ∧ ce.vm = .none ∧ A.U.vm.findClass E = some ce.cls ∧ B.locs = A.locs ++ L ∧ (∀ z ∈ L, free z.base) ∧ B.cells = A.cells + mc ∧ B.slots = A.slots + ms
def vx_Back (l : Launch) (R : Room) (p : Program) (e : Env) (below : List Frame) (s : State) (sargs : Array Value) (y : MethodName) (len W9 : Nat)
    (Pre : Pt → Array Value → Prop) (Post : Pt → Array Value → Option Value → Pt → Prop) (PostX : Pt → Array Value → Addr → Pt → Prop) : Prop :=
  ∀ (m : MethodId) (meth : Method) (c : Code) (A : Pt) (g : JFrame) (ig : Instr) (mk : MethodId) (a : Array Value),
    Stand p l e R s m sargs below meth c A.U A.locs A.cells A.slots → g.method = m → g.locals.size = c.maxLocals → decode c.code g.pc = .ok (ig, len) →
    2 * g.monitorRoom + (g.stack.map fun v => v.category).sum ≤ W9 → A.U.methodNamed? y = some mk → Pre A a →
    (∃ (v : Option Value) (B : Pt), Stand p l e R s m sargs below meth c B.U B.locs B.cells B.slots ∧ Post A a v B ∧
      Steps p.tables e below (doInvoke e (A.U.setTop g) [] mk a).1 (B.U.setTop { g with pc := g.pc + len, stack := v.toList ++ g.stack })) ∨
    (∃ (q : Addr) (B : Pt), Stand p l e R s m sargs below meth c B.U B.locs B.cells B.slots ∧ PostX A a q B ∧
      Steps p.tables e below (doInvoke e (A.U.setTop g) [] mk a).1 ((B.U.setTop g).pushFrame (.throwing q)))
section Payer
variable {l : Launch} {R : Room} {p : Program} {e : Env} {below : List Frame} {s : State} {sargs : Array Value} {y : MethodName} {len W9 : Nat}
theorem vx_back {ws : List Cond} {rm : Room} {Pc : Array Value → State → Prop} {Qc : Array Value → State → Outcome → State → Prop} {XC : String → State → State → Prop} {mc ms : Nat} {free : Addr → Prop} {bytes : ByteArray} {maxL : Nat} {ret : Option FieldType}
    (hM : vx_Met l y ws rm Pc Qc XC mc ms free) (hblind : FrameBlind Pc) (hrc : rm.cells = mc) (hrs : rm.slots = ms)
    (hframes : rm.frames + 1 ≤ R.frames) (hlocals : W9 + (maxL + 11) + rm.locals ≤ R.locals)
    (hws : ∀ w ∈ ws, ∀ a' U, s.WarmedH U.vm → w.before a' U = true) (hcode : Cond.code y bytes maxL ret ∈ ws) (hinit : ∀ a' U, s.WarmedH U.vm → (Cond.initialized y.cls).before a' U = true) :
    vx_Back l R p e below s sargs y len W9 (PreOf R mc ms Pc) (PostOf Qc mc ms free) (vx_Post XC mc ms free) := by
  intro m meth c A g ig mk a X hg hsize hdg hW hn hp
  have h1 : (headSpec ws rm).pre.before a A.U = true := atoms_intro fun w hw => hws w hw _ _ X.warmed
  have h2 : (Cond.code y bytes maxL ret).before a A.U = true := hws _ hcode _ _ X.warmed
  have h3 : (Cond.initialized y.cls).before a A.U = true := hinit _ _ X.warmed
  have h4 : A.cells + (headSpec ws rm).room.cells ≤ R.cells := by rw [show (headSpec ws rm).room.cells = mc from hrc]; exact hp.1
  have h5 : A.slots + (headSpec ws rm).room.slots ≤ R.slots := by rw [show (headSpec ws rm).room.slots = ms from hrs]; exact hp.2.1
  have hPc : Pc a (A.U.calling g mk a) := hblind _ _ _ _ hp.2.2
  obtain ⟨U, Ls, c0, s0⟩ := A
  dsimp only [Pt.U, Pt.locs, Pt.cells, Pt.slots] at h1 h2 h3 h4 h5 X hn hPc ⊢
  obtain ⟨methY, cY, hmY, hcY, -, hlY, -, -, -, -⟩ := Cond.code_spec hn h2
  obtain ⟨kY, hkY, -⟩ := className_of_methodNamed hn
  have hinitY : kY.init = .initialized := Cond.initialized_spec (findClass_of_methodNamed hn) hkY h3
  have h : At U g.method c below := by rw [hg]; exact X.here
  have hlocals9 : W9 + (maxL + 11) + (headSpec ws rm).room.locals ≤ R.locals := hlocals
  have happ : (headSpec ws rm).appliesLoose y e.platform (U.calling g mk a) = true :=
    Spec.appliesLoose_calling (g := g) h hdg hn hkY hinitY
      (X.room_calling (g := g) (R' := (headSpec ws rm).room) hsize hmY hcY hframes (by rw [hlY]; omega) h4 h5) h1
  obtain ⟨mid, hmid⟩ := h.above
  have hfr : (U.setTop g).frames = (.java g :: mid) ++ below := by rw [State.frames_setTop' g h.top, hmid]; rfl
  obtain ⟨o, s₂, hsteps, -, hend, hq⟩ := Steps.callFree hM p X.admits X.cas X.clock (acts := []) hfr happ hPc trivial
  have hq' : vx_Q Qc XC mc ms free a (U.calling g mk a) o s₂ := hq
  rw [State.frames_setTop' g h.top] at hend
  obtain ⟨g₀, hg0⟩ := Option.isSome_iff_exists.mp h.top
  obtain ⟨r, hr⟩ := State.topJava?_eq_some.mp hg0
  have hr' : (({ U with heap := s₂.heap, slotsUsed := s₂.slotsUsed } : State).setVm s₂.vm).frames = .java g₀ :: r := hr
  rcases hq' with ⟨hqc, L, hfe, hL⟩ | ⟨q, rfl, E, ce, L, hx, hce, hcv, hcl, hW₂, hsm, hL⟩
  · obtain ⟨⟨v, rfl⟩, hW₂, e2, q2, q3, q4, q5, q6⟩ := id hfe
    have e3 : s₂ = ({ (U.calling g mk a).setFrames s₂.frames with heap := s₂.heap, slotsUsed := s₂.slotsUsed } : State).setVm s₂.vm := by
      have : s₂ = ({ s₂ with vm := (U.calling g mk a).vm } : State).setVm s₂.vm := rfl
      rw [e2] at this
      exact this
    obtain ⟨c₂, i₂, len₂, hc₂, hd₂, hf₂⟩ := hend
    have hW' : U.WarmedH s₂.vm := hW₂
    have hcc : c₂ = c := by
      have h1 : s₂.code? g.method = U.code? g.method := by
        rw [State.code?_eq, State.code?_eq, hW'.alike.method?]
      exact Option.some.inj (hc₂.symm.trans (h1.trans h.code))
    subst hcc
    have hlen : len₂ = len := by rw [hdg] at hd₂; cases hd₂; rfl
    subst hlen
    have hs₂ : s₂ = (({ U with heap := s₂.heap, slotsUsed := s₂.slotsUsed } : State).setVm s₂.vm).setTop { g with pc := g.pc + len₂, stack := v.toList ++ g.stack } := by
      refine e3.trans ?_
      rw [hf₂, State.calling_eq h.top, State.setFrames_setFrames, State.setTop_of_frames _ hr', hr]
      rfl
    have hsame : U.sameButNew ({ U with heap := s₂.heap, slotsUsed := s₂.slotsUsed } : State) L mc ms := by
      refine ⟨?_, q2, q3, q4, q5, q6⟩
      obtain ⟨t, ht, -⟩ := State.frames_cons hr
      show ({ U with heap := s₂.heap, slotsUsed := s₂.slotsUsed } : State) = { U.setFrames U.frames with heap := s₂.heap, slotsUsed := s₂.slotsUsed }
      rw [State.setFrames_self ht]
    subst hg
    refine Or.inl ⟨v, ⟨(({ U with heap := s₂.heap, slotsUsed := s₂.slotsUsed } : State).setVm s₂.vm), Ls ++ L, c0 + mc, s0 + ms⟩,
      ⟨X.admits, X.cas, X.clock, X.frames, X.room, X.hears, X.method, X.code, (X.here.setHeapUsed s₂.heap s₂.slotsUsed).setVm hW'.alike, X.tail, State.WarmedH.trans X.warmed hW', X.limits, X.bytes, X.same.trans (hsame.setVm s.vm)⟩,
      ⟨g, mk, s₂, L, rfl, rfl, hqc, rfl, hL, rfl, rfl⟩, ?_⟩
    show Steps p.tables e below _ ((({ U with heap := s₂.heap, slotsUsed := s₂.slotsUsed } : State).setVm s₂.vm).setTop { g with pc := g.pc + len₂, stack := v.toList ++ g.stack })
    rw [← hs₂]
    exact hsteps
  · obtain ⟨e2, q2, q3, q4, q5, q6⟩ := id hsm
    have e3 : s₂ = ({ (U.calling g mk a).setFrames s₂.frames with heap := s₂.heap, slotsUsed := s₂.slotsUsed } : State).setVm s₂.vm := by
      have : s₂ = ({ s₂ with vm := (U.calling g mk a).vm } : State).setVm s₂.vm := rfl
      rw [e2] at this
      exact this
    have hf₂ : s₂.frames = .throwing q :: .java g :: U.frames.tail := hend
    have hW' : U.WarmedH s₂.vm := hW₂
    have hs₂ : s₂ = ((({ U with heap := s₂.heap, slotsUsed := s₂.slotsUsed } : State).setVm s₂.vm).setTop g).pushFrame (.throwing q) := by
      refine e3.trans ?_
      rw [hf₂, State.calling_eq h.top, State.setFrames_setFrames, State.pushFrame, State.frames_setTop _ hr', State.setTop_of_frames _ hr', State.setFrames_setFrames, hr]
      rfl
    have hsame : U.sameButNew ({ U with heap := s₂.heap, slotsUsed := s₂.slotsUsed } : State) L mc ms := by
      refine ⟨?_, q2, q3, q4, q5, q6⟩
      obtain ⟨t, ht, -⟩ := State.frames_cons hr
      show ({ U with heap := s₂.heap, slotsUsed := s₂.slotsUsed } : State) = { U.setFrames U.frames with heap := s₂.heap, slotsUsed := s₂.slotsUsed }
      rw [State.setFrames_self ht]
    subst hg
    refine Or.inr ⟨q, ⟨(({ U with heap := s₂.heap, slotsUsed := s₂.slotsUsed } : State).setVm s₂.vm), Ls ++ L, c0 + mc, s0 + ms⟩,
      ⟨X.admits, X.cas, X.clock, X.frames, X.room, X.hears, X.method, X.code, (X.here.setHeapUsed s₂.heap s₂.slotsUsed).setVm hW'.alike, X.tail, State.WarmedH.trans X.warmed hW', X.limits, X.bytes, X.same.trans (hsame.setVm s.vm)⟩,
      ⟨g, mk, s₂, L, E, ce, rfl, rfl, hx, hce, hcv, hcl, rfl, hL, rfl, rfl⟩, ?_⟩
    show Steps p.tables e below _ (((({ U with heap := s₂.heap, slotsUsed := s₂.slotsUsed } : State).setVm s₂.vm).setTop g).pushFrame (.throwing q))
    rw [← hs₂]
    exact hsteps
end Payer
section Calls
variable {p : Program} {l : Launch} {e : Env} {R : Room} {s : State} {m : MethodId} {args : Array Value} {below : List Frame} {meth : Method} {c : Code} {T : State} {locs : List Loc} {cells slots : Nat}
theorem vx_callV (X : Stand p l e R s m args below meth c T locs cells slots) (hexec : p.tables.exec = Jvm.exec) {own C : String} {index : Nat} {y : MethodName} {bytes : ByteArray} {maxL : Nat} {ret : Option FieldType}
    (hown : s.vm.findClass own = some m.cls) (hlink : (Cond.methodLink own index y).before args s = true) (hinst : (Cond.instanceMethod y).before args s = true) (hsel : (Cond.selects C y y).before args s = true)
    (hcode : (Cond.code y bytes maxL ret).before args s = true) (hy : y.cls ≠ "java/lang/invoke/MethodHandle" ∧ y.cls ≠ "java/lang/invoke/VarHandle")
    {W9 : Nat} {Pre : Pt → Array Value → Prop} {Post : Pt → Array Value → Option Value → Pt → Prop} {PostX : Pt → Array Value → Addr → Pt → Prop} (hK : vx_Back l R p e below s args y 3 W9 Pre Post PostX)
    {b : Addr} {cellB : Cell} (hcell : T.heap[b]? = some cellB) (hobj : cellB.vm.isStatics = false) (hcls : s.vm.findClass C = some cellB.cls)
    {g : JFrame} (hg : g.method = m) (hsize : g.locals.size = c.maxLocals) {argsL rest : List Value} (hlen : ∀ sig, parseMethodDescriptor y.desc = some sig → argsL.length = sig.parameters.length)
    (hstack : g.stack = argsL.reverse ++ .ref b :: rest) (hW : 2 * g.monitorRoom + (rest.map fun v => v.category).sum ≤ W9) (hdg : decode c.code g.pc = .ok (.invokevirtual index, 3))
    (hpre : ∀ vm₁, s.WarmedH vm₁ → Pre ⟨T.setVm vm₁, locs, cells, slots⟩ (Value.ref b :: argsL).toArray) :
    (∃ (v : Option Value) (vm₁ : Vm) (B : Pt), s.WarmedH vm₁ ∧ Stand p l e R s m args below meth c B.U B.locs B.cells B.slots ∧ Post ⟨T.setVm vm₁, locs, cells, slots⟩ (Value.ref b :: argsL).toArray v B ∧
      ∀ target, Steps p.tables e below (B.U.setTop { g with pc := g.pc + 3, stack := v.toList ++ rest }) target → Steps p.tables e below (T.setTop g) target) ∨
    (∃ (q : Addr) (vm₁ : Vm) (B : Pt), s.WarmedH vm₁ ∧ Stand p l e R s m args below meth c B.U B.locs B.cells B.slots ∧ PostX ⟨T.setVm vm₁, locs, cells, slots⟩ (Value.ref b :: argsL).toArray q B ∧
      Steps p.tables e below (T.setTop g) ((B.U.setTop { g with stack := rest }).pushFrame (.throwing q))) := by
  obtain ⟨mk, methM, hnamed, hmethM, hstM, habM⟩ := Cond.instanceMethod_spec hinst
  obtain ⟨methM', cM, hmethM', -, -, -, -, -, -, hsigM⟩ := Cond.code_spec hnamed hcode
  cases hmethM.symm.trans hmethM'
  obtain ⟨c2, r2, m2, q1, q2, q3, q4, kP, hkP, hkPi⟩ := Cond.selects_spec hsel
  cases hcls.symm.trans q1
  cases (State.methodFound?_of_named hnamed hy).symm.trans q2
  cases hnamed.symm.trans q3
  have hselP : selectMethod e.platform s.vm cellB.cls mk = .method mk := by rw [Launch.admits_selectMethod X.admits]; exact q4
  obtain ⟨vm₁, X₁, hstep₁⟩ := X.invokevirtual hexec hown hlink hnamed hmethM hstM hkP hkPi hy (a := b) (cell := cellB) hcell
    (fun z h => by rw [h] at hobj; cases hobj) hselP hmethM habM hkP hkPi (g := g) hg (argsL := argsL) (rest := rest) (hlen _ hsigM) hstack hdg
  rcases hK m meth c ⟨T.setVm vm₁, locs, cells, slots⟩ { g with stack := rest } (.invokevirtual index) mk (Value.ref b :: argsL).toArray X₁ hg hsize hdg hW (X₁.named hnamed) (hpre vm₁ X₁.warmed) with ⟨v, B, X', hpost, hsteps⟩ | ⟨q, B, X', hpost, hsteps⟩
  · exact Or.inl ⟨v, vm₁, B, X₁.warmed, X', hpost, fun target h => hstep₁ _ fun acts => by rw [doInvoke_state]; exact hsteps.trans h⟩
  · exact Or.inr ⟨q, vm₁, B, X₁.warmed, X', hpost, hstep₁ _ fun acts => by rw [doInvoke_state]; exact hsteps⟩
theorem vx_callS (X : Stand p l e R s m args below meth c T locs cells slots) (hexec : p.tables.exec = Jvm.exec) {own : String} {index : Nat} {y : MethodName} {bytes : ByteArray} {maxL : Nat} {ret : Option FieldType}
    (hown : s.vm.findClass own = some m.cls) (hlink : (Cond.methodLink own index y).before args s = true) (hstat : (Cond.static y).before args s = true) (hinit : (Cond.initialized y.cls).before args s = true)
    (hcode : (Cond.code y bytes maxL ret).before args s = true) (hy : y.cls ≠ "java/lang/invoke/MethodHandle" ∧ y.cls ≠ "java/lang/invoke/VarHandle")
    {W9 : Nat} {Pre : Pt → Array Value → Prop} {Post : Pt → Array Value → Option Value → Pt → Prop} {PostX : Pt → Array Value → Addr → Pt → Prop} (hK : vx_Back l R p e below s args y 3 W9 Pre Post PostX)
    {g : JFrame} (hg : g.method = m) (hsize : g.locals.size = c.maxLocals) {argsL rest : List Value} (hlen : ∀ sig, parseMethodDescriptor y.desc = some sig → argsL.length = sig.parameters.length)
    (hstack : g.stack = argsL.reverse ++ rest) (hW : 2 * g.monitorRoom + (rest.map fun v => v.category).sum ≤ W9) (hdg : decode c.code g.pc = .ok (.invokestatic index, 3))
    (hpre : ∀ vm₁, s.WarmedH vm₁ → Pre ⟨T.setVm vm₁, locs, cells, slots⟩ argsL.toArray) :
    (∃ (v : Option Value) (vm₁ : Vm) (B : Pt), s.WarmedH vm₁ ∧ Stand p l e R s m args below meth c B.U B.locs B.cells B.slots ∧ Post ⟨T.setVm vm₁, locs, cells, slots⟩ argsL.toArray v B ∧
      ∀ target, Steps p.tables e below (B.U.setTop { g with pc := g.pc + 3, stack := v.toList ++ rest }) target → Steps p.tables e below (T.setTop g) target) ∨
    (∃ (q : Addr) (vm₁ : Vm) (B : Pt), s.WarmedH vm₁ ∧ Stand p l e R s m args below meth c B.U B.locs B.cells B.slots ∧ PostX ⟨T.setVm vm₁, locs, cells, slots⟩ argsL.toArray q B ∧
      Steps p.tables e below (T.setTop g) ((B.U.setTop { g with stack := rest }).pushFrame (.throwing q))) := by
  obtain ⟨mk, hnamed⟩ := Cond.code_named hcode
  obtain ⟨methM, cM, hmethM, -, -, -, -, -, -, hsigM⟩ := Cond.code_spec hnamed hcode
  have hstatic : methM.isStatic = true := Cond.static_spec hnamed hmethM hstat
  obtain ⟨kP, hkP, -⟩ := className_of_methodNamed hnamed
  have hinitP : kP.init = .initialized := Cond.initialized_spec (findClass_of_methodNamed hnamed) hkP hinit
  obtain ⟨vm₁, X₁, hstep₁⟩ := X.invokestatic hexec hown hlink hnamed hmethM hstatic hkP hinitP hy (g := g) hg (argsL := argsL) (rest := rest) (hlen _ hsigM) hstack hdg
  rcases hK m meth c ⟨T.setVm vm₁, locs, cells, slots⟩ { g with stack := rest } (.invokestatic index) mk argsL.toArray X₁ hg hsize hdg hW (X₁.named hnamed) (hpre vm₁ X₁.warmed) with ⟨v, B, X', hpost, hsteps⟩ | ⟨q, B, X', hpost, hsteps⟩
  · exact Or.inl ⟨v, vm₁, B, X₁.warmed, X', hpost, fun target h => hstep₁ _ fun acts => by rw [doInvoke_state]; exact hsteps.trans h⟩
  · exact Or.inr ⟨q, vm₁, B, X₁.warmed, X', hpost, hstep₁ _ fun acts => by rw [doInvoke_state]; exact hsteps⟩
end Calls
theorem vx_cls {s : State} {T : State} {vm₁ : Vm} {E : String} {k : ClassId} (hW : s.WarmedH vm₁) (h : (T.setVm vm₁).vm.findClass E = some k) : s.vm.findClass E = some k := by
  have h1 : vm₁.findClass E = some k := h
  rw [hW.alike.findClass] at h1
  exact h1
/-- the method's frame g, with q thrown over it -/
def vx_W (p : Program) (l : Launch) (e : Env) (R : Room) (s : State) (m : MethodId) (args : Array Value) (below : List Frame) (meth : Method) (c : Code) (H : Heap) (locs : List Loc) (cells slots : Nat) (Q : State → Prop) (g : JFrame) (q : Addr) : Prop :=
  ∀ T : State, T.heap = H → Stand p l e R s m args below meth c T locs cells slots → ∃ t, Steps p.tables e below ((T.setTop g).pushFrame (.throwing q)) t ∧ Q t
def vx_Run (p : Program) (l : Launch) (e : Env) (R : Room) (s : State) (m : MethodId) (args : Array Value) (below : List Frame) (meth : Method) (c : Code) (H : Heap) (locs : List Loc) (cells slots mc ms : Nat) (g : JFrame) (rest : List Value) (Qa : State → Outcome → State → Prop) (XC : String → State → State → Prop) (free : Addr → Prop) : Prop :=
  ∀ T : State, T.heap = H → Stand p l e R s m args below meth c T locs cells slots →
    (∃ (v : Option Value) (st₀ t T' : State) (L : List Loc), st₀.heap = H ∧ Stand p l e R s m args below meth c T' (locs ++ L) (cells + mc) (slots + ms) ∧ (∀ q ∈ L, free q.base) ∧ T'.heap = t.heap ∧ T'.vm = t.vm ∧ Qa st₀ (.returned v) t ∧
      Goes p e below T g T' { g with pc := g.pc + 3, stack := v.toList ++ rest }) ∨
    (∃ (q : Addr) (st₀ t T' : State) (L : List Loc) (E : String) (ce : Cell), st₀.heap = H ∧ Stand p l e R s m args below meth c T' (locs ++ L) (cells + mc) (slots + ms) ∧ (∀ z ∈ L, free z.base) ∧ T'.heap = t.heap ∧ T'.vm = t.vm ∧ XC E st₀ t ∧ t.heap[q]? = some ce ∧ ce.vm = .none ∧ s.vm.findClass E = some ce.cls ∧
      Steps p.tables e below (T.setTop g) ((T'.setTop { g with stack := rest }).pushFrame (.throwing q)))
def vx_X {S : Type} (px : S → Prop) (B : String → S → State → Prop) (A : Nat → Prop) : String → State → State → Prop := fun E st t => ∃ u : S, px u ∧ B E u t ∧ va_F A st t
section Runs
variable {p : Program} {l : Launch} {e : Env} {R : Room} {s : State} {m : MethodId} {args : Array Value} {below : List Frame} {meth : Method} {c : Code} {H : Heap} {locs : List Loc} {cells slots : Nat}
variable {y : MethodName} {bytes cc : ByteArray} {maxL nL mc ms n index : Nat} {ret : Option FieldType} {ws : List Cond} {rm : Room} {Pc : Array Value → State → Prop} {Qc : Array Value → State → Outcome → State → Prop} {XC : String → State → State → Prop} {free : Addr → Prop} {Ts : List Cond} {own C : String} {b : Addr} {As rest : List Value} {g : JFrame}
theorem vx_callBack (cb : CallB R s args own index y bytes maxL ret ws rm mc ms n) (hM : vx_Met l y ws rm Pc Qc XC mc ms free) (hbl : FrameBlind Pc) : vx_Back l R p e below s args y 3 8 (PreOf R mc ms Pc) (PostOf Qc mc ms free) (vx_Post XC mc ms free) := by
  obtain ⟨hrc, hrs, hfr, hlo, hws, hcw, -, hini, -⟩ := cb
  exact vx_back (bytes := bytes) (maxL := maxL) (ret := ret) hM hbl hrc hrs hfr hlo hws hcw (fun a' U hW => word_at hW (Or.inl (by first | rfl | simp [Cond.onTables, Cond.keeps, Cond.steady])) hini)
theorem vx_runV (S : CallFix p m c cc nL s args Ts own) (hM : vx_Met l y ws rm Pc Qc XC mc ms free) (cw : CallW R s args own C index y bytes maxL ret ws rm mc ms n) (hp : PreV s H C b Pc As)
    (hg : g.method = m) (hn : As.length = n) (hsize : g.locals.size = nL) (hstack : g.stack = As.reverse ++ .ref b :: rest) (hW : 2 * g.monitorRoom + (rest.map fun v => v.category).sum ≤ 8) (hdg : decode cc g.pc = .ok (.invokevirtual index, 3)) (hf : cells + mc ≤ R.cells ∧ slots + ms ≤ R.slots) :
    vx_Run p l e R s m args below meth c H locs cells slots mc ms g rest (Qc (Value.ref b :: As).toArray) XC free := by
  have hK : vx_Back l R p e below s args y 3 8 (PreOf R mc ms Pc) (PostOf Qc mc ms free) (vx_Post XC mc ms free) := vx_callBack cw.1 hM hp.1
  obtain ⟨⟨-, -, -, -, -, -, hcode, -, hy, hlen, hl⟩, hin, hse⟩ := cw
  obtain ⟨hx, hb, hml, ho, -⟩ := S
  obtain ⟨-, ⟨cellB, hcB, hoB, hclB⟩, hPc⟩ := hp
  intro T hT X
  rcases vx_callV X hx (C := C) (bytes := bytes) (maxL := maxL) (ret := ret) ho hl hin hse hcode hy hK (by rw [hT]; exact hcB) hoB hclB hg (hsize.trans hml.symm) (argsL := As) (rest := rest) (fun sig h => hn.trans (hlen sig h)) hstack hW (by rw [hb]; exact hdg)
    (fun vm₁ hW₁ => ⟨hf.1, hf.2, hPc (T.setVm vm₁) hT hW₁⟩) with ⟨v, vm₁, ⟨U', l2, c2, s2⟩, hW₁, X', ⟨g', mk, t, L, e1, e2, hq, h1, hL, h2, h3⟩, st⟩ | ⟨q, vm₁, ⟨U', l2, c2, s2⟩, hW₁, X', ⟨g', mk, t, L, E, ce, e1, e2, hq, hce, hcv, hcl, h1, hL, h2, h3⟩, st⟩
  · dsimp only [Pt.U, Pt.locs, Pt.cells, Pt.slots] at X' e1 e2 h1 h2 h3 st
    subst h1; subst h2; subst h3
    exact Or.inl ⟨v, (T.setVm vm₁).calling g' mk (Value.ref b :: As).toArray, t, U', L, hT, X', hL, e1, e2, hq, st⟩
  · dsimp only [Pt.U, Pt.locs, Pt.cells, Pt.slots] at X' e1 e2 h1 h2 h3 st hcl
    subst h1; subst h2; subst h3
    exact Or.inr ⟨q, (T.setVm vm₁).calling g' mk (Value.ref b :: As).toArray, t, U', L, E, ce, hT, X', hL, e1, e2, hq, hce, hcv, vx_cls hW₁ hcl, st⟩
theorem vx_runS (S : CallFix p m c cc nL s args Ts own) (hM : vx_Met l y ws rm Pc Qc XC mc ms free) (cw : CallB R s args own index y bytes maxL ret ws rm mc ms n ∧ (Cond.static y).before args s = true) (hp : PreS s H Pc As)
    (hg : g.method = m) (hn : As.length = n) (hsize : g.locals.size = nL) (hstack : g.stack = As.reverse ++ rest) (hW : 2 * g.monitorRoom + (rest.map fun v => v.category).sum ≤ 8) (hdg : decode cc g.pc = .ok (.invokestatic index, 3)) (hf : cells + mc ≤ R.cells ∧ slots + ms ≤ R.slots) :
    vx_Run p l e R s m args below meth c H locs cells slots mc ms g rest (Qc As.toArray) XC free := by
  have hK : vx_Back l R p e below s args y 3 8 (PreOf R mc ms Pc) (PostOf Qc mc ms free) (vx_Post XC mc ms free) := vx_callBack cw.1 hM hp.1
  obtain ⟨⟨-, -, -, -, -, -, hcode, hini, hy, hlen, hl⟩, hstt⟩ := cw
  obtain ⟨hx, hb, hml, ho, -⟩ := S
  intro T hT X
  rcases vx_callS X hx (bytes := bytes) (maxL := maxL) (ret := ret) ho hl hstt hini hcode hy hK hg (hsize.trans hml.symm) (argsL := As) (rest := rest) (fun sig h => hn.trans (hlen sig h)) hstack hW (by rw [hb]; exact hdg)
    (fun vm₁ hW₁ => ⟨hf.1, hf.2, hp.2 (T.setVm vm₁) hT hW₁⟩) with ⟨v, vm₁, ⟨U', l2, c2, s2⟩, hW₁, X', ⟨g', mk, t, L, e1, e2, hq, h1, hL, h2, h3⟩, st⟩ | ⟨q, vm₁, ⟨U', l2, c2, s2⟩, hW₁, X', ⟨g', mk, t, L, E, ce, e1, e2, hq, hce, hcv, hcl, h1, hL, h2, h3⟩, st⟩
  · dsimp only [Pt.U, Pt.locs, Pt.cells, Pt.slots] at X' e1 e2 h1 h2 h3 st
    subst h1; subst h2; subst h3
    exact Or.inl ⟨v, (T.setVm vm₁).calling g' mk As.toArray, t, U', L, hT, X', hL, e1, e2, hq, st⟩
  · dsimp only [Pt.U, Pt.locs, Pt.cells, Pt.slots] at X' e1 e2 h1 h2 h3 st hcl
    subst h1; subst h2; subst h3
    exact Or.inr ⟨q, (T.setVm vm₁).calling g' mk As.toArray, t, U', L, E, ce, hT, X', hL, e1, e2, hq, hce, hcv, vx_cls hW₁ hcl, st⟩
end Runs
section Rows
variable {p : Program} {l : Launch} {e : Env} {R : Room} {s : State} {m : MethodId} {args : Array Value} {below : List Frame} {meth : Method} {c : Code} {H : Heap} {locs : List Loc} {cells slots : Nat} {Q : State → Prop}
variable {mc ms : Nat} {free : Addr → Prop} {A0 A1 : Nat → Prop} {H0 : Heap} {a : Array Value} {pc : Nat} {ls : Array Slot} {st0 rest : List Value}
theorem vx_keep {st₀ t T' : State} {L : List Loc} (h0 : st₀.heap = H) (e1 : T'.heap = t.heap) (hS : va_S A0 H0 H locs) (hA : ∀ q, q < H.size → A1 q → A0 q) (hf : ∀ q, free q → A0 q) (hL : ∀ q ∈ L, free q.base) (hF : va_F A1 st₀ t) :
    H.size ≤ T'.heap.size ∧ (∀ q : Nat, q < H.size → ¬ A1 q → T'.heap[q]? = H[q]?) ∧ va_S A0 H0 T'.heap (locs ++ L) := by
  obtain ⟨hz, hk⟩ := hF
  rw [h0] at hz hk
  exact ⟨by rw [e1]; exact hz, fun q h1 h2 => by rw [e1]; exact hk q h1 h2,
    ⟨Nat.le_trans hS.1 (by rw [e1]; exact hz), fun q h1 h2 => by rw [e1, hk q (Nat.lt_of_lt_of_le h1 hS.1) (fun z => h2 (hA q (Nat.lt_of_lt_of_le h1 hS.1) z))]; exact hS.2.1 q h1 h2, fun q hq => by
      rcases List.mem_append.mp hq with h | h
      · exact hS.2.2 q h
      · exact hf _ (hL q h)⟩⟩
theorem vx_calli {S SX : Type} {post : Int32 → S → Prop} {px : SX → Prop} {B : S → State → Prop} {BX : String → SX → State → Prop} {AX : Nat → Prop} (hr : vx_Run p l e R s m args below meth c H locs cells slots mc ms (F0 m pc ls st0) rest (va_Qi post B A1 a) (vx_X px BX AX) free) (hS : va_S A0 H0 H locs) (hA : ∀ q, q < H.size → A1 q → A0 q) (hf : ∀ q, free q → A0 q) (hAX : ∀ q, q < H.size → AX q → A0 q)
    (kx : ∀ (E : String) (ce : Cell) (q9 : Addr) (u : SX) (t : State) (H1 : Heap) (locs1 : List Loc), t.heap = H1 → s.vm.Alike t.vm → px u → BX E u t → H.size ≤ H1.size → (∀ q : Nat, q < H.size → ¬ AX q → H1[q]? = H[q]?) → va_S A0 H0 H1 locs1 → H1[q9]? = some ce → ce.vm = .none → s.vm.findClass E = some ce.cls → vx_W p l e R s m args below meth c H1 locs1 (cells + mc) (slots + ms) Q (F0 m pc ls rest) q9)
    (kk : ∀ (r : Int32) (u : S) (t : State) (H1 : Heap) (locs1 : List Loc), t.heap = H1 → s.vm.Alike t.vm → post r u → B u t → H.size ≤ H1.size → (∀ q : Nat, q < H.size → ¬ A1 q → H1[q]? = H[q]?) → va_S A0 H0 H1 locs1 → W p l e R s m args below meth c H1 locs1 (cells + mc) (slots + ms) Q (F0 m (pc + 3) ls (.int r :: rest))) : W p l e R s m args below meth c H locs cells slots Q (F0 m pc ls st0) := by
  intro T hT X
  rcases hr T hT X with ⟨v, st₀, t, T', L, h0, X', hL, e1, e2, ⟨⟨r, u, hv, hp, hb⟩, hF⟩, st⟩ | ⟨q, st₀, t, T', L, E, ce, h0, X', hL, e1, e2, ⟨u, hp, hb, hF⟩, hce, hcv, hcl, st⟩
  · cases hv
    obtain ⟨k1, k2, k3⟩ := vx_keep h0 e1 hS hA hf hL hF
    obtain ⟨t2, a1, b1⟩ := kk r u t T'.heap (locs ++ L) e1.symm (by rw [← e2]; exact X'.warmed.alike) hp hb k1 k2 k3 T' rfl X'
    exact ⟨t2, st t2 a1, b1⟩
  · obtain ⟨k1, k2, k3⟩ := vx_keep h0 e1 hS hAX hf hL hF
    obtain ⟨t2, a1, b1⟩ := kx E ce q u t T'.heap (locs ++ L) e1.symm (by rw [← e2]; exact X'.warmed.alike) hp hb k1 k2 k3 (by rw [e1]; exact hce) hcv hcl T' rfl X'
    exact ⟨t2, st.trans a1, b1⟩
theorem vx_calll {S SX : Type} {post : Int64 → S → Prop} {px : SX → Prop} {B : S → State → Prop} {BX : String → SX → State → Prop} {AX : Nat → Prop} (hr : vx_Run p l e R s m args below meth c H locs cells slots mc ms (F0 m pc ls st0) rest (va_Ql post B A1 a) (vx_X px BX AX) free) (hS : va_S A0 H0 H locs) (hA : ∀ q, q < H.size → A1 q → A0 q) (hf : ∀ q, free q → A0 q) (hAX : ∀ q, q < H.size → AX q → A0 q)
    (kx : ∀ (E : String) (ce : Cell) (q9 : Addr) (u : SX) (t : State) (H1 : Heap) (locs1 : List Loc), t.heap = H1 → s.vm.Alike t.vm → px u → BX E u t → H.size ≤ H1.size → (∀ q : Nat, q < H.size → ¬ AX q → H1[q]? = H[q]?) → va_S A0 H0 H1 locs1 → H1[q9]? = some ce → ce.vm = .none → s.vm.findClass E = some ce.cls → vx_W p l e R s m args below meth c H1 locs1 (cells + mc) (slots + ms) Q (F0 m pc ls rest) q9)
    (kk : ∀ (r : Int64) (u : S) (t : State) (H1 : Heap) (locs1 : List Loc), t.heap = H1 → s.vm.Alike t.vm → post r u → B u t → H.size ≤ H1.size → (∀ q : Nat, q < H.size → ¬ A1 q → H1[q]? = H[q]?) → va_S A0 H0 H1 locs1 → W p l e R s m args below meth c H1 locs1 (cells + mc) (slots + ms) Q (F0 m (pc + 3) ls (.long r :: rest))) : W p l e R s m args below meth c H locs cells slots Q (F0 m pc ls st0) := by
  intro T hT X
  rcases hr T hT X with ⟨v, st₀, t, T', L, h0, X', hL, e1, e2, ⟨⟨r, u, hv, hp, hb⟩, hF⟩, st⟩ | ⟨q, st₀, t, T', L, E, ce, h0, X', hL, e1, e2, ⟨u, hp, hb, hF⟩, hce, hcv, hcl, st⟩
  · cases hv
    obtain ⟨k1, k2, k3⟩ := vx_keep h0 e1 hS hA hf hL hF
    obtain ⟨t2, a1, b1⟩ := kk r u t T'.heap (locs ++ L) e1.symm (by rw [← e2]; exact X'.warmed.alike) hp hb k1 k2 k3 T' rfl X'
    exact ⟨t2, st t2 a1, b1⟩
  · obtain ⟨k1, k2, k3⟩ := vx_keep h0 e1 hS hAX hf hL hF
    obtain ⟨t2, a1, b1⟩ := kx E ce q u t T'.heap (locs ++ L) e1.symm (by rw [← e2]; exact X'.warmed.alike) hp hb k1 k2 k3 (by rw [e1]; exact hce) hcv hcl T' rfl X'
    exact ⟨t2, st.trans a1, b1⟩
theorem vx_callf {S SX : Type} {post : UInt32 → S → Prop} {px : SX → Prop} {B : S → State → Prop} {BX : String → SX → State → Prop} {AX : Nat → Prop} (hr : vx_Run p l e R s m args below meth c H locs cells slots mc ms (F0 m pc ls st0) rest (va_Qf post B A1 a) (vx_X px BX AX) free) (hS : va_S A0 H0 H locs) (hA : ∀ q, q < H.size → A1 q → A0 q) (hf : ∀ q, free q → A0 q) (hAX : ∀ q, q < H.size → AX q → A0 q)
    (kx : ∀ (E : String) (ce : Cell) (q9 : Addr) (u : SX) (t : State) (H1 : Heap) (locs1 : List Loc), t.heap = H1 → s.vm.Alike t.vm → px u → BX E u t → H.size ≤ H1.size → (∀ q : Nat, q < H.size → ¬ AX q → H1[q]? = H[q]?) → va_S A0 H0 H1 locs1 → H1[q9]? = some ce → ce.vm = .none → s.vm.findClass E = some ce.cls → vx_W p l e R s m args below meth c H1 locs1 (cells + mc) (slots + ms) Q (F0 m pc ls rest) q9)
    (kk : ∀ (r : UInt32) (u : S) (t : State) (H1 : Heap) (locs1 : List Loc), t.heap = H1 → s.vm.Alike t.vm → post r u → B u t → H.size ≤ H1.size → (∀ q : Nat, q < H.size → ¬ A1 q → H1[q]? = H[q]?) → va_S A0 H0 H1 locs1 → W p l e R s m args below meth c H1 locs1 (cells + mc) (slots + ms) Q (F0 m (pc + 3) ls (.float r :: rest))) : W p l e R s m args below meth c H locs cells slots Q (F0 m pc ls st0) := by
  intro T hT X
  rcases hr T hT X with ⟨v, st₀, t, T', L, h0, X', hL, e1, e2, ⟨⟨r, u, hv, hp, hb⟩, hF⟩, st⟩ | ⟨q, st₀, t, T', L, E, ce, h0, X', hL, e1, e2, ⟨u, hp, hb, hF⟩, hce, hcv, hcl, st⟩
  · cases hv
    obtain ⟨k1, k2, k3⟩ := vx_keep h0 e1 hS hA hf hL hF
    obtain ⟨t2, a1, b1⟩ := kk r u t T'.heap (locs ++ L) e1.symm (by rw [← e2]; exact X'.warmed.alike) hp hb k1 k2 k3 T' rfl X'
    exact ⟨t2, st t2 a1, b1⟩
  · obtain ⟨k1, k2, k3⟩ := vx_keep h0 e1 hS hAX hf hL hF
    obtain ⟨t2, a1, b1⟩ := kx E ce q u t T'.heap (locs ++ L) e1.symm (by rw [← e2]; exact X'.warmed.alike) hp hb k1 k2 k3 (by rw [e1]; exact hce) hcv hcl T' rfl X'
    exact ⟨t2, st.trans a1, b1⟩
theorem vx_calld {S SX : Type} {post : UInt64 → S → Prop} {px : SX → Prop} {B : S → State → Prop} {BX : String → SX → State → Prop} {AX : Nat → Prop} (hr : vx_Run p l e R s m args below meth c H locs cells slots mc ms (F0 m pc ls st0) rest (va_Qd post B A1 a) (vx_X px BX AX) free) (hS : va_S A0 H0 H locs) (hA : ∀ q, q < H.size → A1 q → A0 q) (hf : ∀ q, free q → A0 q) (hAX : ∀ q, q < H.size → AX q → A0 q)
    (kx : ∀ (E : String) (ce : Cell) (q9 : Addr) (u : SX) (t : State) (H1 : Heap) (locs1 : List Loc), t.heap = H1 → s.vm.Alike t.vm → px u → BX E u t → H.size ≤ H1.size → (∀ q : Nat, q < H.size → ¬ AX q → H1[q]? = H[q]?) → va_S A0 H0 H1 locs1 → H1[q9]? = some ce → ce.vm = .none → s.vm.findClass E = some ce.cls → vx_W p l e R s m args below meth c H1 locs1 (cells + mc) (slots + ms) Q (F0 m pc ls rest) q9)
    (kk : ∀ (r : UInt64) (u : S) (t : State) (H1 : Heap) (locs1 : List Loc), t.heap = H1 → s.vm.Alike t.vm → post r u → B u t → H.size ≤ H1.size → (∀ q : Nat, q < H.size → ¬ A1 q → H1[q]? = H[q]?) → va_S A0 H0 H1 locs1 → W p l e R s m args below meth c H1 locs1 (cells + mc) (slots + ms) Q (F0 m (pc + 3) ls (.double r :: rest))) : W p l e R s m args below meth c H locs cells slots Q (F0 m pc ls st0) := by
  intro T hT X
  rcases hr T hT X with ⟨v, st₀, t, T', L, h0, X', hL, e1, e2, ⟨⟨r, u, hv, hp, hb⟩, hF⟩, st⟩ | ⟨q, st₀, t, T', L, E, ce, h0, X', hL, e1, e2, ⟨u, hp, hb, hF⟩, hce, hcv, hcl, st⟩
  · cases hv
    obtain ⟨k1, k2, k3⟩ := vx_keep h0 e1 hS hA hf hL hF
    obtain ⟨t2, a1, b1⟩ := kk r u t T'.heap (locs ++ L) e1.symm (by rw [← e2]; exact X'.warmed.alike) hp hb k1 k2 k3 T' rfl X'
    exact ⟨t2, st t2 a1, b1⟩
  · obtain ⟨k1, k2, k3⟩ := vx_keep h0 e1 hS hAX hf hL hF
    obtain ⟨t2, a1, b1⟩ := kx E ce q u t T'.heap (locs ++ L) e1.symm (by rw [← e2]; exact X'.warmed.alike) hp hb k1 k2 k3 (by rw [e1]; exact hce) hcv hcl T' rfl X'
    exact ⟨t2, st.trans a1, b1⟩
theorem vx_callv {S SX : Type} {post : S → Prop} {px : SX → Prop} {B : S → State → Prop} {BX : String → SX → State → Prop} {AX : Nat → Prop} (hr : vx_Run p l e R s m args below meth c H locs cells slots mc ms (F0 m pc ls st0) rest (va_Qv post B A1 a) (vx_X px BX AX) free) (hS : va_S A0 H0 H locs) (hA : ∀ q, q < H.size → A1 q → A0 q) (hf : ∀ q, free q → A0 q) (hAX : ∀ q, q < H.size → AX q → A0 q)
    (kx : ∀ (E : String) (ce : Cell) (q9 : Addr) (u : SX) (t : State) (H1 : Heap) (locs1 : List Loc), t.heap = H1 → s.vm.Alike t.vm → px u → BX E u t → H.size ≤ H1.size → (∀ q : Nat, q < H.size → ¬ AX q → H1[q]? = H[q]?) → va_S A0 H0 H1 locs1 → H1[q9]? = some ce → ce.vm = .none → s.vm.findClass E = some ce.cls → vx_W p l e R s m args below meth c H1 locs1 (cells + mc) (slots + ms) Q (F0 m pc ls rest) q9)
    (kk : ∀ (u : S) (t : State) (H1 : Heap) (locs1 : List Loc), t.heap = H1 → s.vm.Alike t.vm → post u → B u t → H.size ≤ H1.size → (∀ q : Nat, q < H.size → ¬ A1 q → H1[q]? = H[q]?) → va_S A0 H0 H1 locs1 → W p l e R s m args below meth c H1 locs1 (cells + mc) (slots + ms) Q (F0 m (pc + 3) ls (rest))) : W p l e R s m args below meth c H locs cells slots Q (F0 m pc ls st0) := by
  intro T hT X
  rcases hr T hT X with ⟨v, st₀, t, T', L, h0, X', hL, e1, e2, ⟨⟨u, hv, hp, hb⟩, hF⟩, st⟩ | ⟨q, st₀, t, T', L, E, ce, h0, X', hL, e1, e2, ⟨u, hp, hb, hF⟩, hce, hcv, hcl, st⟩
  · cases hv
    obtain ⟨k1, k2, k3⟩ := vx_keep h0 e1 hS hA hf hL hF
    obtain ⟨t2, a1, b1⟩ := kk u t T'.heap (locs ++ L) e1.symm (by rw [← e2]; exact X'.warmed.alike) hp hb k1 k2 k3 T' rfl X'
    exact ⟨t2, st t2 a1, b1⟩
  · obtain ⟨k1, k2, k3⟩ := vx_keep h0 e1 hS hAX hf hL hF
    obtain ⟨t2, a1, b1⟩ := kx E ce q u t T'.heap (locs ++ L) e1.symm (by rw [← e2]; exact X'.warmed.alike) hp hb k1 k2 k3 (by rw [e1]; exact hce) hcv hcl T' rfl X'
    exact ⟨t2, st.trans a1, b1⟩
/-- caught by the row x of this method's table; the rows ahead don't take it -/
theorem vx_catch {own name : String} {E : String} {ce : Cell} {q : Addr} (hown : s.vm.findClass own = some m.cls) (pre : List ExceptionTableEntry) (x : ExceptionTableEntry) (suf : List ExceptionTableEntry) (hsplit : c.exceptionTable.toList = pre ++ x :: suf)
    (hpass : ∀ z ∈ pre, covers z pc = false ∨ (z.catchType ≠ 0 ∧ ∃ nm : String, (Cond.classLink own z.catchType nm).before args s = true ∧ va_Nc E nm s)) (hx : covers x pc = true) (h0 : x.catchType ≠ 0)
    (hlink : (Cond.classLink own x.catchType name).before args s = true) (hcast : (Cond.castable E name).before args s = true) (hcell : H[q]? = some ce) (hv : ce.vm = .none) (hcl : s.vm.findClass E = some ce.cls)
    (kk : W p l e R s m args below meth c H locs cells slots Q (F0 m x.handlerPc ls [.ref q])) : vx_W p l e R s m args below meth c H locs cells slots Q (F0 m pc ls rest) q := by
  intro T hT X
  have hpl : e.platform.magicAccessors = ({} : Platform).magicAccessors := by rw [X.admits.platform]
  obtain ⟨c3, c4, hc3, hc4, hasg⟩ := Cond.castable_spec hcast
  cases Option.some.inj (hc3.symm.trans hcl)
  obtain ⟨c5, hc5, hcl5⟩ := Cond.classLink_spec hown hlink e.platform hpl
  cases Option.some.inj (hc4.symm.trans hc5)
  obtain ⟨vm', X', st⟩ := X.thenCaughtThrough q (g := F0 m pc ls rest) rfl (Steps.refl _) (by rw [hT]; exact hcell) (by rw [hv]; rfl) (by obtain ⟨k9, h9, -⟩ := Vm.findClass_spec hcl; exact ⟨k9, h9⟩) pre x suf hsplit
    (fun z hz => by
      rcases hpass z hz with h | ⟨hz0, nm, hl1, hn1⟩
      · exact Or.inl h
      · obtain ⟨c6, hc6, hcl6⟩ := Cond.classLink_spec hown hl1 e.platform hpl
        obtain ⟨a8, b8, h1, h2, h3⟩ := hn1
        cases Option.some.inj (h1.symm.trans hcl)
        cases Option.some.inj (h2.symm.trans hc6)
        exact Or.inr ⟨hz0, _, hcl6, h3⟩) hx (Or.inr ⟨h0, c4, hcl5, hasg⟩)
  obtain ⟨t, a1, b1⟩ := kk (T.setVm vm') hT X'
  exact ⟨t, st.trans a1, b1⟩
end Rows
section Ends
variable {p : Program} {l : Launch} {e : Env} {R : Room} {s : State} {m : MethodId} {args : Array Value} {below : List Frame} {meth : Method} {c : Code} {H : Heap} {locs : List Loc} {cells slots : Nat} {Q : State → Prop}
variable {mc ms : Nat} {free : Addr → Prop} {A0 A1 : Nat → Prop} {H0 : Heap} {a : Array Value} {ls : Array Slot} {st0 rest : List Value}
variable {Qc : Array Value → State → Outcome → State → Prop} {XC : String → State → State → Prop}
/-- what a body that may throw owes at its end -/
def vx_MQ (below : List Frame) (Qc : Array Value → State → Outcome → State → Prop) (XC : String → State → State → Prop) (a : Array Value) (s : State) (mc ms : Nat) (free : Addr → Prop) : State → Prop := fun t =>
  ∃ o, t.status = .running ∧ Ended t below o ∧ vx_Q Qc XC mc ms free a s o t
theorem vx_ret {g : JFrame} {mc ms : Nat} (k : W p l e R s m args below meth c H locs cells slots (MQ below Qc args s mc ms free) g) : W p l e R s m args below meth c H locs cells slots (vx_MQ below Qc XC args s mc ms free) g := by
  intro T hT X
  obtain ⟨t, a1, o, b1, b2, b3, b4⟩ := k T hT X
  exact ⟨t, a1, o, b1, b2, Or.inl ⟨b3, b4⟩⟩
/-- not caught here: it goes on to the caller -/
theorem vx_widen {g : JFrame} {q : Addr} {k n : Nat} (h1 : cells ≤ k) (h2 : slots ≤ n) (kk : vx_W p l e R s m args below meth c H locs k n Q g q) : vx_W p l e R s m args below meth c H locs cells slots Q g q := fun T hT X => kk T hT (stand_widen X h1 h2)
theorem vx_out {pc : Nat} {E : String} {ce : Cell} {q : Addr} {mc ms : Nat} (hout : ∀ x ∈ c.exceptionTable.toList, covers x pc = false) (hlocks : meth.locks = false) (hcell : H[q]? = some ce) (hv : ce.vm = .none) (hcl : s.vm.findClass E = some ce.cls)
    (hx : ∀ t : State, t.heap = H → s.vm.Alike t.vm → XC E s t) (hf : ∀ z ∈ locs, free z.base) (hc : cells ≤ mc) (hs : slots ≤ ms) :
    vx_W p l e R s m args below meth c H locs cells slots (vx_MQ below Qc XC args s mc ms free) (F0 m pc ls rest) q := by
  intro T hT X
  obtain ⟨st1, hrun, hend, hW, hsm⟩ := X.leaveThrown q (g := F0 m pc ls rest) rfl rfl rfl hout hlocks
  have hcell9 : (T.setFrames (.throwing q :: below)).heap[q]? = some ce := by
    show T.heap[q]? = some ce
    rw [hT]; exact hcell
  exact ⟨_, st1, .threw q, hrun, hend, Or.inr ⟨q, rfl, E, ce, locs, hx _ hT hW.alike, hcell9, hv, hcl, hW, hsm.mono hc hs, hf⟩⟩
theorem vx_frame {U : State} {k n : Nat} (h : s.sameButNew ({ U with vm := s.vm } : State) locs k n) : s.heap.size ≤ U.heap.size ∧ ∀ q : Nat, q < s.heap.size → (∀ z ∈ locs, z.base ≠ q) → U.heap[q]? = s.heap[q]? := by
  obtain ⟨-, h2, -, -, -, h6⟩ := h
  refine ⟨h2, fun q hq hz => ?_⟩
  obtain ⟨c9, e1, e2, e3, e4⟩ := h6 q _ (Array.getElem?_eq_getElem hq)
  have hs : c9.slots = (s.heap[q]).slots := Array.ext_getElem? fun i => e4 i fun hm => hz _ hm rfl
  have h9 : c9 = s.heap[q] := by
    rw [hs] at e2
    exact e2
  have e5 : U.heap[q]? = some c9 := e1
  rw [e5, h9, Array.getElem?_eq_getElem hq]
/-- the words of a throw but the four that speak of the heap -/
def vx_no (w : Cond) : Bool := decide (w ≠ .isRef (.static Bundle.tN "UNASSIGNED_STACK" Bundle.steD)) && decide (w ≠ .isRef (.static Bundle.tN "SUPPRESSED_SENTINEL" Bundle.listD)) && decide (w ≠ .laysStatic Bundle.tN "UNASSIGNED_STACK" Bundle.steD) && decide (w ≠ .laysStatic Bundle.tN "SUPPRESSED_SENTINEL" Bundle.listD)
def vx_at0 (own : String) (ic : Nat) (X : String) (names : List String) : List Cond := (Bundle.ownAtoms0 own ic X names).filter vx_no
def vx_atS (own : String) (ic : Nat) (X : String) (names : List String) : List Cond := (Bundle.ownAtoms own ic X names).filter vx_no
/-- a word that the tables alone decide, or a good one -/
def vx_ot (w : Cond) : Bool := w.onTables || goodWord w
theorem vx_ot_at {args a' : Array Value} {s U : State} {w : Cond} (hW : s.WarmedH U.vm) (hvm : s.vm = U.vm) (hg : vx_ot w = true) (h : w.before args s = true) : w.before a' U = true := by
  simp only [vx_ot, Bool.or_eq_true] at hg
  rcases hg with hg | hg
  · exact va_tabs hg hvm h
  · exact word_at hW (good_of_word hg) h
/-- a list's words: the good ones out of the method's own list, the others by premises of their own -/
theorem vx_hat {args : Array Value} {s : State} {L B : List Cond} (h1 : ∀ w ∈ L.filter goodWord, w.before args s = true) (h2 : ∀ w ∈ L.filter (fun w => !goodWord w), w ∈ B) (h3 : ∀ w ∈ B, w.before args s = true) : ∀ w ∈ L, w.before args s = true := by
  intro w hw
  by_cases g : goodWord w = true
  · exact h1 w (List.mem_filter.mpr ⟨hw, g⟩)
  · refine h3 w (h2 w (List.mem_filter.mpr ⟨hw, ?_⟩))
    show (!goodWord w) = true
    cases hgw : goodWord w
    · rfl
    · exact absurd hgw g
theorem vx_c {args : Array Value} {s : State} {w : Cond} {B : List Cond} (h : w.before args s = true) (t : ∀ w ∈ B, w.before args s = true) : ∀ w' ∈ w :: B, w'.before args s = true := fun w' h' => (List.mem_cons.mp h').elim (fun e => by rw [e]; exact h) (t w')
theorem vx_n {args : Array Value} {s : State} : ∀ w ∈ ([] : List Cond), w.before args s = true := fun _ h => nomatch h
theorem vx_own {args : Array Value} {s : State} {L : List Cond} (h1 : ∀ w ∈ L.filter vx_no, w.before args s = true)
    (hU : (Cond.isRef (.static Bundle.tN "UNASSIGNED_STACK" Bundle.steD)).before args s = true) (hN : (Cond.isRef (.static Bundle.tN "SUPPRESSED_SENTINEL" Bundle.listD)).before args s = true)
    (lU : (Cond.laysStatic Bundle.tN "UNASSIGNED_STACK" Bundle.steD).before args s = true) (lN : (Cond.laysStatic Bundle.tN "SUPPRESSED_SENTINEL" Bundle.listD).before args s = true) : ∀ w ∈ L, w.before args s = true := by
  intro w hw
  by_cases e1 : w = .isRef (.static Bundle.tN "UNASSIGNED_STACK" Bundle.steD)
  · rw [e1]; exact hU
  · by_cases e2 : w = .isRef (.static Bundle.tN "SUPPRESSED_SENTINEL" Bundle.listD)
    · rw [e2]; exact hN
    · by_cases e3 : w = .laysStatic Bundle.tN "UNASSIGNED_STACK" Bundle.steD
      · rw [e3]; exact lU
      · by_cases e4 : w = .laysStatic Bundle.tN "SUPPRESSED_SENTINEL" Bundle.listD
        · rw [e4]; exact lN
        · exact h1 w (List.mem_filter.mpr ⟨hw, by unfold vx_no; rw [decide_eq_true e1, decide_eq_true e2, decide_eq_true e3, decide_eq_true e4]; rfl⟩)
/-- where a static field lies, its class's statics cell in H -/
def vx_L (C n d : String) (A : Nat → Prop) (U : State) (H : Heap) : Prop := ∃ (c : ClassId) (k : Class) (i : Nat) (f : Field) (a : Nat) (cell : Cell), U.vm.findClass C = some c ∧ U.fieldFound? C n d = some (c, k, i, f) ∧ f.isStatic = true ∧ k.statics = some a ∧ H[a]? = some cell ∧ cell.vm.isStatics = true ∧ cell.cls = c ∧ f.slot < cell.slots.size ∧ k.staticTypes[f.slot]? = some f.type ∧ ¬ A a
theorem vx_L.moved {C n d : String} {A : Nat → Prop} {u U : State} {H : Heap} (hvm : u.vm.Alike U.vm) (h : vx_L C n d A u H) : vx_L C n d A U H := by
  obtain ⟨c, k, i, f, a, cell, h1, h2, h3, h4, h5, h6, h7, h8, h9, h10⟩ := h
  obtain ⟨k', hi', he⟩ := State.fieldFound?_setVm hvm h2
  exact ⟨c, k', i, f, a, cell, by rw [hvm.findClass]; exact h1, hi', h3, by rw [he]; exact h4, h5, h6, h7, h8, by rw [he]; exact h9, h10⟩
theorem vx_L.kept {C n d : String} {A : Nat → Prop} {U : State} {H H1 : Heap} (h : vx_L C n d A U H) (hq : ∀ a : Nat, a < H.size → ¬ A a → H1[a]? = H[a]?) : vx_L C n d A U H1 := by
  obtain ⟨c, k, i, f, a, cell, h1, h2, h3, h4, h5, h6, h7, h8, h9, h10⟩ := h
  exact ⟨c, k, i, f, a, cell, h1, h2, h3, h4, by rw [hq a (Array.getElem?_eq_some_iff.mp h5).1 h10]; exact h5, h6, h7, h8, h9, h10⟩
theorem vx_L.narrow {C n d : String} {A B : Nat → Prop} {U : State} {H : Heap} (h : vx_L C n d A U H) (hAB : ∀ q, B q → A q) : vx_L C n d B U H := by
  obtain ⟨c, k, i, f, a, cell, h1, h2, h3, h4, h5, h6, h7, h8, h9, h10⟩ := h
  exact ⟨c, k, i, f, a, cell, h1, h2, h3, h4, h5, h6, h7, h8, h9, fun z => h10 (hAB _ z)⟩
theorem vx_L.word {C n d : String} {A : Nat → Prop} {s : State} {args : Array Value} (h : vx_L C n d A s s.heap) : (Cond.laysStatic C n d).before args s = true := by
  obtain ⟨c, k, i, f, a, cell, h1, h2, h3, h4, h5, h6, h7, h8, h9, -⟩ := h
  show (Cond.laysStatic C n d).holds args s none s [] = true
  exact Cond.laysStatic_of h1 h2 h3 h4 h5 h6 h7 h8 h9
/-- .. and what it holds: null or some reference -/
def vx_Zq (C n d : String) (A : Nat → Prop) (U : State) (H : Heap) : Prop := va_Zq C n d A U H ∧ vx_L C n d A U H
theorem vx_Zq.moved {C n d : String} {A : Nat → Prop} {u U : State} {H : Heap} (hvm : u.vm.Alike U.vm) (h : vx_Zq C n d A u H) : vx_Zq C n d A U H := ⟨va_Zq.moved hvm h.1, vx_L.moved hvm h.2⟩
theorem vx_Zq.kept {C n d : String} {A : Nat → Prop} {U : State} {H H1 : Heap} (h : vx_Zq C n d A U H) (hq : ∀ a : Nat, a < H.size → ¬ A a → H1[a]? = H[a]?) : vx_Zq C n d A U H1 := ⟨va_Zq.kept h.1 hq, vx_L.kept h.2 hq⟩
theorem vx_Zq.narrow {C n d : String} {A B : Nat → Prop} {U : State} {H : Heap} (h : vx_Zq C n d A U H) (hAB : ∀ q, B q → A q) : vx_Zq C n d B U H := ⟨va_Zq.narrow h.1 hAB, vx_L.narrow h.2 hAB⟩
theorem vx_Zqof {args : Array Value} {s : State} {C n d : String} {A : Nat → Prop} (hl : (Cond.laysStatic C n d).before args s = true) (hini : (Cond.initialized C).before args s = true) (h : (Cond.isRef (.static C n d)).before args s = true) (hA : ∀ a : Nat, a < s.heap.size → ¬ A a) : vx_Zq C n d A s s.heap := by
  refine ⟨va_Zqof hl hini h hA, ?_⟩
  obtain ⟨c, k, i, f, a, cell, h1, h2, h3, h4, h5, h6, h7, h8, h9⟩ := Cond.laysStatic_spec hl
  exact ⟨c, k, i, f, a, cell, h1, h2, h3, h4, h5, h6, h7, h8, h9, hA a (Array.getElem?_eq_some_iff.mp h5).1⟩
theorem vx_isRef {C n d : String} {v : Value} {A : Nat → Prop} {s : State} {args : Array Value} (h : va_Z C n d v A s s.heap) (hv : v.isRef = true) : (Cond.isRef (.static C n d)).before args s = true := by
  obtain ⟨cf, kf, fi, f, a, cell, h1, h2, h3, h4, h5, h6, h7, -⟩ := h
  have he : (Term.static C n d).eval args s none [] s = some v := by
    simp [Term.eval, State.fieldNamed?, h1, h2, h4, h5, h6, h7]
  simp only [Cond.before, Cond.holds, Cond.value, he]
  cases v <;> simp_all [Value.isRef]
theorem vx_isRefq {C n d : String} {A : Nat → Prop} {s : State} {args : Array Value} (h : va_Zq C n d A s s.heap) : (Cond.isRef (.static C n d)).before args s = true := by
  rcases h with h | ⟨t, h⟩
  · exact vx_isRef h rfl
  · exact vx_isRef h rfl
/-- the same frame, seen from here: as if the method were called anew in this heap -/
theorem vx_rebase {T : State} (X : Stand p l e R s m args below meth c T locs cells slots) {R' : Room} (hf : R'.frames ≤ R.frames) (hl : R'.locals ≤ R.locals) (hc : cells + R'.cells ≤ R.cells) (hs : slots + R'.slots ≤ R.slots) :
    Stand p l e R' ((T.setVm s.vm).setFrames (.invoking m args :: below)) m args below meth c T [] 0 0 := by
  have htop : (T.setVm s.vm).topJava?.isSome := X.here.top
  have hF : ((T.setVm s.vm).setFrames (.invoking m args :: below)).frames = .invoking m args :: below := State.frames_setFrames _ (State.cur_lt_of_top htop)
  obtain ⟨g₀, hg0⟩ := Option.isSome_iff_exists.mp htop
  obtain ⟨r, hr⟩ := State.topJava?_eq_some.mp hg0
  have hl9 : e.platform.stackLimits (T.setVm s.vm).me = e.platform.stackLimits s.me := X.limits
  have hb9 : (T.setVm s.vm).me.stackBytes = s.me.stackBytes := X.bytes
  refine ⟨X.admits, X.cas, X.clock, hF, ?_, X.hears, X.method, X.code, X.here, X.tail, X.warmed, ?_, ?_, ?_⟩
  · have h := X.room
    have hU : ((T.setVm s.vm).setFrames (.invoking m args :: below)).localsInUse = s.localsInUse := by
      rw [State.localsInUse_invoking hF (meth := meth) (c := c) X.method X.code, State.localsInUse_invoking X.frames X.method X.code]
    simp only [State.hasRoom, Bool.and_eq_true, decide_eq_true_eq] at h ⊢
    obtain ⟨⟨⟨⟨h1, h2, h3, h4, h5, h6⟩, h7⟩, h8⟩, h9⟩ := h
    rw [X.frames, List.length_cons] at h2 h3
    have q1 := X.heapSize
    have q2 := X.used
    simp only [hF, hU, List.length_cons, State.stackLimits_setFrames, State.stackBytes_setFrames, hl9, hb9]
    refine ⟨⟨⟨⟨by omega, by omega, by omega, by omega, by omega, h6⟩, ?_⟩, ?_⟩, X.book⟩
    · show T.heap.size + R'.cells ≤ e.platform.maxCells
      omega
    · show T.slotsUsed + R'.slots ≤ e.platform.maxSlots
      omega
  · rw [State.stackLimits_setFrames]; rfl
  · rw [State.stackBytes_setFrames]; rfl
  · refine ⟨?_, Nat.le_refl _, Nat.le_refl _, ?_, ?_, fun a c9 h9 => ⟨c9, h9, rfl, rfl, fun _ _ => rfl⟩⟩
    · obtain ⟨t, ht, -⟩ := State.frames_cons hr
      show T.setVm s.vm = { ((T.setVm s.vm).setFrames (.invoking m args :: below)).setFrames (T.setVm s.vm).frames with heap := T.heap, slotsUsed := T.slotsUsed }
      rw [State.setFrames_setFrames, State.setFrames_self ht]
      rfl
    · show T.slotsUsed = T.slotsUsed + ((T.heap.toList.drop T.heap.size).map (·.slots.size)).sum
      rw [List.drop_eq_nil_of_le (Nat.le_of_eq Array.length_toList)]
      rfl
    · show ((T.heap.toList.drop T.heap.size).map (·.slots.size)).sum ≤ 0
      rw [List.drop_eq_nil_of_le (Nat.le_of_eq Array.length_toList)]
      exact Nat.le_refl _
/-- 'throw new E()': new; dup; invokespecial; athrow -/
theorem vx_throw0 {cc : ByteArray} {pc : Nat} (hexec : p.tables.exec = Jvm.exec) (hb : c.code = cc) (hl : l.stackTraces = false) {own cls : String} {names : List String} {ik ic mc ms : Nat} {A : Nat → Prop}
    (hown : s.vm.findClass own = some m.cls) (hcls : Bundle.fit cls = true) (hnames : ∀ n ∈ names, Bundle.fit n = true)
    (hk : (Cond.classLink own ik cls).before args s = true) (hini : (Cond.initialized cls).before args s = true) (hat : ∀ w ∈ vx_at0 own ic cls names, w.before args s = true)
    (hgood : ∀ w ∈ Cond.classLink own ik cls :: Cond.initialized cls :: vx_at0 own ic cls names, vx_ot w = true)
    (hU : vx_Zq Bundle.tN "UNASSIGNED_STACK" Bundle.steD A s s.heap) (hN : vx_Zq Bundle.tN "SUPPRESSED_SENTINEL" Bundle.listD A s s.heap) (hS : va_S A s.heap H locs) (hsize : ls.size = c.maxLocals)
    (d0 : decode cc pc = .ok (.new ik, 3)) (d3 : decode cc (pc + 3) = .ok (.dup, 1)) (d4 : decode cc (pc + 4) = .ok (.invokespecial ic, 3)) (d7 : decode cc (pc + 7) = .ok (.athrow, 1))
    (hout : ∀ x ∈ c.exceptionTable.toList, covers x (pc + 7) = false)
    (hRframes : names.length + 3 < R.frames) (hRlocals : (rest.map fun v => v.category).sum + (13 * (names.length + 1) + 42) ≤ R.locals) (hRcells : cells + 1 ≤ R.cells) (hRslots : slots + 6 ≤ R.slots) (hlocks : meth.locks = false)
    (hx : ∀ t : State, s.vm.Alike t.vm → H.size ≤ t.heap.size → (∀ q : Nat, q < H.size → t.heap[q]? = H[q]?) → XC cls s t)
    (hf : ∀ z ∈ locs, free z.base) (hc : cells + 1 ≤ mc) (hs : slots + 6 ≤ ms) :
    W p l e R s m args below meth c H locs cells slots (vx_MQ below Qc XC args s mc ms free) (F0 m pc ls rest) := by
  intro T hT X
  have htr : e.platform.stackTraces = false := (show e.platform.stackTraces = l.stackTraces by rw [X.admits.platform]).trans hl
  have Y := vx_rebase X (R' := { frames := R.frames, locals := R.locals, cells := 1, slots := 6 }) (Nat.le_refl _) (Nat.le_refl _) hRcells hRslots
  obtain ⟨s', hA⟩ : ∃ z, z = (T.setVm s.vm).setFrames (.invoking m args :: below) := ⟨_, rfl⟩
  rw [← hA] at Y
  have hvm : s'.vm = s.vm := by rw [hA]; rfl
  have hhp : s'.heap = H := by rw [hA]; exact hT
  have hW0 : s.WarmedH s'.vm := by rw [hvm]; exact State.WarmedH.refl s
  have hat' : ∀ w ∈ vx_at0 own ic cls names, w.before args s' = true := fun w hw => vx_ot_at hW0 hvm.symm (hgood w (List.mem_cons_of_mem _ (List.mem_cons_of_mem _ hw))) (hat w hw)
  have hk' : (Cond.classLink own ik cls).before args s' = true := vx_ot_at hW0 hvm.symm (hgood _ List.mem_cons_self) hk
  have hini' : (Cond.initialized cls).before args s' = true := vx_ot_at hW0 hvm.symm (hgood _ (List.mem_cons_of_mem _ List.mem_cons_self)) hini
  have hU' : vx_Zq Bundle.tN "UNASSIGNED_STACK" Bundle.steD A s' s'.heap := by rw [hhp]; exact vx_Zq.moved hW0.alike (hU.kept hS.2.1)
  have hN' : vx_Zq Bundle.tN "SUPPRESSED_SENTINEL" Bundle.listD A s' s'.heap := by rw [hhp]; exact vx_Zq.moved hW0.alike (hN.kept hS.2.1)
  have h : ∀ w ∈ Bundle.ownAtoms0 own ic cls names, w.before args s' = true := vx_own hat' (vx_isRefq hU'.1) (vx_isRefq hN'.1) hU'.2.word hN'.2.word
  have hown' : s'.vm.findClass own = some m.cls := by rw [hvm]; exact hown
  have hins : (Cond.instantiable cls 6).before args s' = true := h _ (by simp [Bundle.ownAtoms0])
  obtain ⟨vm₁, cX, kX, hfX, hkX, -, -, X₁, st1⟩ := Y.newCold hexec (own := own) (C := cls) (index := ik) (n := 6) hown' hk' hins hini'
    (g := F0 m pc ls rest) rfl (by rw [hb]; exact d0) (Nat.le_refl _) (Nat.le_refl _)
  generalize hT1 : (T.setVm vm₁).pushCell { cls := cX, slots := kX.instanceTypes.map defaultValue, vm := .none } = T1 at X₁ st1
  have hcat : (Value.ref T.heap.size).category = 1 := rfl
  have hcellA : T1.heap[T.heap.size]? = some (freshCell cX kX) := by rw [← hT1]; exact State.heap_pushCell_size _ _
  have d3' : decode c.code (pc + 3) = .ok (.dup, 1) := by rw [hb]; exact d3
  obtain ⟨U, hsteps, hrun, hend, hW, hsame, ce, hce, hO⟩ := X₁.ctorThrow0 hexec htr (own := own) (cls := cls) (names := names) (ic := ic) hown' hcls hnames h (fun x hx => nomatch hx) hfX hkX hcellA (by rw [hhp, hT]; exact Nat.le_refl _)
    (g := { method := m, pc := pc + 4, locals := ls, stack := .ref T.heap.size :: .ref T.heap.size :: rest, locked := none }) rfl hsize rfl rfl (rest := rest) rfl
    (by rw [hb]; exact d4) (by rw [hb]; exact d7) hout hRframes (by simp only [List.map_cons, List.sum_cons, hcat]; omega) hlocks
  obtain ⟨f1, f2⟩ := vx_frame hsame
  rw [hhp] at f1 f2
  have hWs : s.WarmedH U.vm := State.WarmedH.trans hW0 hW
  have hcl : s.vm.findClass cls = some ce.cls := by
    have h9 := hO.cls
    rw [hvm] at h9
    exact h9
  have hall : s.sameButNew ({ U with vm := s.vm } : State) locs mc ms := by
    subst hA
    obtain ⟨e1, e2⟩ := hsame
    rw [State.setFrames_setFrames] at e1
    have h2 : (T.setVm s.vm).sameButNew ({ U with vm := s.vm } : State) [] (0 + 1) (0 + 6) := ⟨e1, e2⟩
    have h3 := X.same.trans h2
    rw [List.append_nil] at h3
    exact h3.mono hc hs
  refine ⟨U, ?_, .threw T.heap.size, hrun, hend, Or.inr ⟨T.heap.size, rfl, cls, ce, locs, hx U hWs.alike f1 (fun q hq => f2 q hq (fun z hz => nomatch hz)), hce, hO.vm, hcl, hWs, hall, hf⟩⟩
  refine st1 _ ?_
  show Steps p.tables e below (T1.setTop { method := m, pc := pc + 3, locals := ls, stack := .ref T.heap.size :: rest, locked := none }) _
  jvm_step X₁.here [X₁.here.top, hexec, d3', Value.category]
  exact hsteps
/-- 'throw new E("text")': new; dup; ldc; invokespecial; athrow -/
theorem vx_throwS {cc : ByteArray} {pc : Nat} (hexec : p.tables.exec = Jvm.exec) (hb : c.code = cc) (hl : l.stackTraces = false) {own cls text : String} {names : List String} {ik is ic mc ms sa : Nat} {A : Nat → Prop}
    (hown : s.vm.findClass own = some m.cls) (hcls : Bundle.fit cls = true) (hnames : ∀ n ∈ names, Bundle.fit n = true)
    (hk : (Cond.classLink own ik cls).before args s = true) (hini : (Cond.initialized cls).before args s = true) (hstr : vk_R own is text sa s) (hat : ∀ w ∈ vx_atS own ic cls names, w.before args s = true)
    (hgood : ∀ w ∈ Cond.classLink own ik cls :: Cond.initialized cls :: vx_atS own ic cls names, vx_ot w = true)
    (hU : vx_Zq Bundle.tN "UNASSIGNED_STACK" Bundle.steD A s s.heap) (hN : vx_Zq Bundle.tN "SUPPRESSED_SENTINEL" Bundle.listD A s s.heap) (hS : va_S A s.heap H locs) (hsize : ls.size = c.maxLocals)
    (d0 : decode cc pc = .ok (.new ik, 3)) (d3 : decode cc (pc + 3) = .ok (.dup, 1)) (d4 : decode cc (pc + 4) = .ok (.ldc is, 2)) (d6 : decode cc (pc + 6) = .ok (.invokespecial ic, 3)) (d9 : decode cc (pc + 9) = .ok (.athrow, 1))
    (hout : ∀ x ∈ c.exceptionTable.toList, covers x (pc + 9) = false)
    (hRframes : names.length + 3 < R.frames) (hRlocals : (rest.map fun v => v.category).sum + (13 * (names.length + 1) + 43) ≤ R.locals) (hRcells : cells + 1 ≤ R.cells) (hRslots : slots + 6 ≤ R.slots) (hlocks : meth.locks = false)
    (hx : ∀ t : State, s.vm.Alike t.vm → H.size ≤ t.heap.size → (∀ q : Nat, q < H.size → t.heap[q]? = H[q]?) → XC cls s t)
    (hf : ∀ z ∈ locs, free z.base) (hc : cells + 1 ≤ mc) (hs : slots + 6 ≤ ms) :
    W p l e R s m args below meth c H locs cells slots (vx_MQ below Qc XC args s mc ms free) (F0 m pc ls rest) := by
  intro T hT X
  have htr : e.platform.stackTraces = false := (show e.platform.stackTraces = l.stackTraces by rw [X.admits.platform]).trans hl
  have Y := vx_rebase X (R' := { frames := R.frames, locals := R.locals, cells := 1, slots := 6 }) (Nat.le_refl _) (Nat.le_refl _) hRcells hRslots
  obtain ⟨s', hA⟩ : ∃ z, z = (T.setVm s.vm).setFrames (.invoking m args :: below) := ⟨_, rfl⟩
  rw [← hA] at Y
  have hvm : s'.vm = s.vm := by rw [hA]; rfl
  have hhp : s'.heap = H := by rw [hA]; exact hT
  have hW0 : s.WarmedH s'.vm := by rw [hvm]; exact State.WarmedH.refl s
  have hat' : ∀ w ∈ vx_atS own ic cls names, w.before args s' = true := fun w hw => vx_ot_at hW0 hvm.symm (hgood w (List.mem_cons_of_mem _ (List.mem_cons_of_mem _ hw))) (hat w hw)
  have hk' : (Cond.classLink own ik cls).before args s' = true := vx_ot_at hW0 hvm.symm (hgood _ List.mem_cons_self) hk
  have hini' : (Cond.initialized cls).before args s' = true := vx_ot_at hW0 hvm.symm (hgood _ (List.mem_cons_of_mem _ List.mem_cons_self)) hini
  have hU' : vx_Zq Bundle.tN "UNASSIGNED_STACK" Bundle.steD A s' s'.heap := by rw [hhp]; exact vx_Zq.moved hW0.alike (hU.kept hS.2.1)
  have hN' : vx_Zq Bundle.tN "SUPPRESSED_SENTINEL" Bundle.listD A s' s'.heap := by rw [hhp]; exact vx_Zq.moved hW0.alike (hN.kept hS.2.1)
  have h : ∀ w ∈ Bundle.ownAtoms own ic cls names, w.before args s' = true := vx_own hat' (vx_isRefq hU'.1) (vx_isRefq hN'.1) hU'.2.word hN'.2.word
  have hown' : s'.vm.findClass own = some m.cls := by rw [hvm]; exact hown
  have hins : (Cond.instantiable cls 6).before args s' = true := h _ (by simp [Bundle.ownAtoms])
  obtain ⟨vm₁, cX, kX, hfX, hkX, -, -, X₁, st1⟩ := Y.newCold hexec (own := own) (C := cls) (index := ik) (n := 6) hown' hk' hins hini'
    (g := F0 m pc ls rest) rfl (by rw [hb]; exact d0) (Nat.le_refl _) (Nat.le_refl _)
  generalize hT1 : (T.setVm vm₁).pushCell { cls := cX, slots := kX.instanceTypes.map defaultValue, vm := .none } = T1 at X₁ st1
  have hcat : (Value.ref T.heap.size).category = 1 := rfl
  have hcellA : T1.heap[T.heap.size]? = some (freshCell cX kX) := by rw [← hT1]; exact State.heap_pushCell_size _ _
  have d3' : decode c.code (pc + 3) = .ok (.dup, 1) := by rw [hb]; exact d3
  have d4' : decode c.code (pc + 4) = .ok (.ldc is, 2) := by rw [hb]; exact d4
  have hstr' : vk_R own is text sa s' := vk_R.warm hW0 hstr
  obtain ⟨U, hsteps, hrun, hend, hW, hsame, ce, hce, hO⟩ := X₁.ctorThrowS hexec htr (own := own) (cls := cls) (names := names) (ic := ic) hown' hcls hnames h (fun x hx => nomatch hx) hfX hkX hcellA (by rw [hhp, hT]; exact Nat.le_refl _) (msg := .ref sa) rfl
    (g := { method := m, pc := pc + 6, locals := ls, stack := .ref sa :: .ref T.heap.size :: .ref T.heap.size :: rest, locked := none }) rfl hsize rfl rfl (rest := rest) rfl
    (by rw [hb]; exact d6) (by rw [hb]; exact d9) hout hRframes (by simp only [List.map_cons, List.sum_cons, hcat]; omega) hlocks
  obtain ⟨f1, f2⟩ := vx_frame hsame
  rw [hhp] at f1 f2
  have hWs : s.WarmedH U.vm := State.WarmedH.trans hW0 hW
  have hcl : s.vm.findClass cls = some ce.cls := by
    have h9 := hO.cls
    rw [hvm] at h9
    exact h9
  have hall : s.sameButNew ({ U with vm := s.vm } : State) locs mc ms := by
    subst hA
    obtain ⟨e1, e2⟩ := hsame
    rw [State.setFrames_setFrames] at e1
    have h2 : (T.setVm s.vm).sameButNew ({ U with vm := s.vm } : State) [] (0 + 1) (0 + 6) := ⟨e1, e2⟩
    have h3 := X.same.trans h2
    rw [List.append_nil] at h3
    exact h3.mono hc hs
  refine ⟨U, ?_, .threw T.heap.size, hrun, hend, Or.inr ⟨T.heap.size, rfl, cls, ce, locs, hx U hWs.alike f1 (fun q hq => f2 q hq (fun z hz => nomatch hz)), hce, hO.vm, hcl, hWs, hall, hf⟩⟩
  refine st1 _ ?_
  show Steps p.tables e below (T1.setTop { method := m, pc := pc + 3, locals := ls, stack := .ref T.heap.size :: rest, locked := none }) _
  jvm_step X₁.here [X₁.here.top, hexec, d3', Value.category]
  exact X₁.ldcString hexec (own := own) (text := text) (index := is) (a := sa) hown' hstr'.1 hstr'.2
    (g := { method := m, pc := pc + 4, locals := ls, stack := .ref T.heap.size :: .ref T.heap.size :: rest, locked := none }) rfl d4' _ hsteps
/-- 'throw new E("text")', the text by a wide index -/
theorem vx_throwSW {cc : ByteArray} {pc : Nat} (hexec : p.tables.exec = Jvm.exec) (hb : c.code = cc) (hl : l.stackTraces = false) {own cls text : String} {names : List String} {ik is ic mc ms sa : Nat} {A : Nat → Prop}
    (hown : s.vm.findClass own = some m.cls) (hcls : Bundle.fit cls = true) (hnames : ∀ n ∈ names, Bundle.fit n = true)
    (hk : (Cond.classLink own ik cls).before args s = true) (hini : (Cond.initialized cls).before args s = true) (hstr : vk_R own is text sa s) (hat : ∀ w ∈ vx_atS own ic cls names, w.before args s = true)
    (hgood : ∀ w ∈ Cond.classLink own ik cls :: Cond.initialized cls :: vx_atS own ic cls names, vx_ot w = true)
    (hU : vx_Zq Bundle.tN "UNASSIGNED_STACK" Bundle.steD A s s.heap) (hN : vx_Zq Bundle.tN "SUPPRESSED_SENTINEL" Bundle.listD A s s.heap) (hS : va_S A s.heap H locs) (hsize : ls.size = c.maxLocals)
    (d0 : decode cc pc = .ok (.new ik, 3)) (d3 : decode cc (pc + 3) = .ok (.dup, 1)) (d4 : decode cc (pc + 4) = .ok (.ldc_w is, 3)) (d7 : decode cc (pc + 7) = .ok (.invokespecial ic, 3)) (d10 : decode cc (pc + 10) = .ok (.athrow, 1))
    (hout : ∀ x ∈ c.exceptionTable.toList, covers x (pc + 10) = false)
    (hRframes : names.length + 3 < R.frames) (hRlocals : (rest.map fun v => v.category).sum + (13 * (names.length + 1) + 43) ≤ R.locals) (hRcells : cells + 1 ≤ R.cells) (hRslots : slots + 6 ≤ R.slots) (hlocks : meth.locks = false)
    (hx : ∀ t : State, s.vm.Alike t.vm → H.size ≤ t.heap.size → (∀ q : Nat, q < H.size → t.heap[q]? = H[q]?) → XC cls s t)
    (hf : ∀ z ∈ locs, free z.base) (hc : cells + 1 ≤ mc) (hs : slots + 6 ≤ ms) :
    W p l e R s m args below meth c H locs cells slots (vx_MQ below Qc XC args s mc ms free) (F0 m pc ls rest) := by
  intro T hT X
  have htr : e.platform.stackTraces = false := (show e.platform.stackTraces = l.stackTraces by rw [X.admits.platform]).trans hl
  have Y := vx_rebase X (R' := { frames := R.frames, locals := R.locals, cells := 1, slots := 6 }) (Nat.le_refl _) (Nat.le_refl _) hRcells hRslots
  obtain ⟨s', hA⟩ : ∃ z, z = (T.setVm s.vm).setFrames (.invoking m args :: below) := ⟨_, rfl⟩
  rw [← hA] at Y
  have hvm : s'.vm = s.vm := by rw [hA]; rfl
  have hhp : s'.heap = H := by rw [hA]; exact hT
  have hW0 : s.WarmedH s'.vm := by rw [hvm]; exact State.WarmedH.refl s
  have hat' : ∀ w ∈ vx_atS own ic cls names, w.before args s' = true := fun w hw => vx_ot_at hW0 hvm.symm (hgood w (List.mem_cons_of_mem _ (List.mem_cons_of_mem _ hw))) (hat w hw)
  have hk' : (Cond.classLink own ik cls).before args s' = true := vx_ot_at hW0 hvm.symm (hgood _ List.mem_cons_self) hk
  have hini' : (Cond.initialized cls).before args s' = true := vx_ot_at hW0 hvm.symm (hgood _ (List.mem_cons_of_mem _ List.mem_cons_self)) hini
  have hU' : vx_Zq Bundle.tN "UNASSIGNED_STACK" Bundle.steD A s' s'.heap := by rw [hhp]; exact vx_Zq.moved hW0.alike (hU.kept hS.2.1)
  have hN' : vx_Zq Bundle.tN "SUPPRESSED_SENTINEL" Bundle.listD A s' s'.heap := by rw [hhp]; exact vx_Zq.moved hW0.alike (hN.kept hS.2.1)
  have h : ∀ w ∈ Bundle.ownAtoms own ic cls names, w.before args s' = true := vx_own hat' (vx_isRefq hU'.1) (vx_isRefq hN'.1) hU'.2.word hN'.2.word
  have hown' : s'.vm.findClass own = some m.cls := by rw [hvm]; exact hown
  have hins : (Cond.instantiable cls 6).before args s' = true := h _ (by simp [Bundle.ownAtoms])
  obtain ⟨vm₁, cX, kX, hfX, hkX, -, -, X₁, st1⟩ := Y.newCold hexec (own := own) (C := cls) (index := ik) (n := 6) hown' hk' hins hini'
    (g := F0 m pc ls rest) rfl (by rw [hb]; exact d0) (Nat.le_refl _) (Nat.le_refl _)
  generalize hT1 : (T.setVm vm₁).pushCell { cls := cX, slots := kX.instanceTypes.map defaultValue, vm := .none } = T1 at X₁ st1
  have hcat : (Value.ref T.heap.size).category = 1 := rfl
  have hcellA : T1.heap[T.heap.size]? = some (freshCell cX kX) := by rw [← hT1]; exact State.heap_pushCell_size _ _
  have d3' : decode c.code (pc + 3) = .ok (.dup, 1) := by rw [hb]; exact d3
  have d4' : decode c.code (pc + 4) = .ok (.ldc_w is, 3) := by rw [hb]; exact d4
  have hstr' : vk_R own is text sa s' := vk_R.warm hW0 hstr
  obtain ⟨U, hsteps, hrun, hend, hW, hsame, ce, hce, hO⟩ := X₁.ctorThrowS hexec htr (own := own) (cls := cls) (names := names) (ic := ic) hown' hcls hnames h (fun x hx => nomatch hx) hfX hkX hcellA (by rw [hhp, hT]; exact Nat.le_refl _) (msg := .ref sa) rfl
    (g := { method := m, pc := pc + 7, locals := ls, stack := .ref sa :: .ref T.heap.size :: .ref T.heap.size :: rest, locked := none }) rfl hsize rfl rfl (rest := rest) rfl
    (by rw [hb]; exact d7) (by rw [hb]; exact d10) hout hRframes (by simp only [List.map_cons, List.sum_cons, hcat]; omega) hlocks
  obtain ⟨f1, f2⟩ := vx_frame hsame
  rw [hhp] at f1 f2
  have hWs : s.WarmedH U.vm := State.WarmedH.trans hW0 hW
  have hcl : s.vm.findClass cls = some ce.cls := by
    have h9 := hO.cls
    rw [hvm] at h9
    exact h9
  have hall : s.sameButNew ({ U with vm := s.vm } : State) locs mc ms := by
    subst hA
    obtain ⟨e1, e2⟩ := hsame
    rw [State.setFrames_setFrames] at e1
    have h2 : (T.setVm s.vm).sameButNew ({ U with vm := s.vm } : State) [] (0 + 1) (0 + 6) := ⟨e1, e2⟩
    have h3 := X.same.trans h2
    rw [List.append_nil] at h3
    exact h3.mono hc hs
  refine ⟨U, ?_, .threw T.heap.size, hrun, hend, Or.inr ⟨T.heap.size, rfl, cls, ce, locs, hx U hWs.alike f1 (fun q hq => f2 q hq (fun z hz => nomatch hz)), hce, hO.vm, hcl, hWs, hall, hf⟩⟩
  refine st1 _ ?_
  show Steps p.tables e below (T1.setTop { method := m, pc := pc + 3, locals := ls, stack := .ref T.heap.size :: rest, locked := none }) _
  jvm_step X₁.here [X₁.here.top, hexec, d3', Value.category]
  exact X₁.ldcStringW hexec (own := own) (text := text) (index := is) (a := sa) hown' hstr'.1 hstr'.2
    (g := { method := m, pc := pc + 4, locals := ls, stack := .ref T.heap.size :: .ref T.heap.size :: rest, locked := none }) rfl d4' _ hsteps
end Ends
section Bodies
variable {l : Launch}
theorem vx_ofW {y : MethodName} {ws ws' : List Cond} {rm : Room} {Pc : Array Value → State → Prop} {Qc : Array Value → State → Outcome → State → Prop} {XC : String → State → State → Prop} {mc ms : Nat} {free : Addr → Prop} {cc : ByteArray} {maxL : Nat} {ret : Option FieldType}
    (hy : plainName y.cls = true) (hw : ws = Cond.code y cc maxL ret :: ws')
    (body : ∀ p e s m args below meth c s₁, BodyLoose p l y (headSpec ws rm) cc maxL ret e s m args below meth c s₁ → c.maxLocals = maxL → (∀ x ∈ c.exceptionTable.toList, False) → Pc args s →
      W p l e (headSpec ws rm).room s m args below meth c s.heap [] 0 0 (vx_MQ below Qc XC args s mc ms free) (entryFrame m args maxL)) : vx_Met l y ws rm Pc Qc XC mc ms free := by
  refine MetFree.of_bodyS (code := cc) (maxLocals := maxL) (ret := ret) hy ?_ ?_
  · intro args s m h hn
    obtain ⟨meth, c, h1, h2, h3, h4, h5, h6, -, -⟩ := Cond.code_spec hn (atoms_spec (ws := ws) h _ (by rw [hw]; exact List.mem_cons_self))
    exact ⟨meth, c, h1, h2, h3, h4, h5, h6⟩
  · intro p e s m args below meth c s₁ B hml hP _
    have hh0 : s₁.heap = s.heap := by rw [B.state]; rfl
    have ht : ∀ x ∈ c.exceptionTable.toList, False := by
      obtain ⟨meth9, c9, h1, h2, -, -, -, -, h7, -⟩ := Cond.code_spec B.named (atoms_spec (ws := ws) B.pre _ (by rw [hw]; exact List.mem_cons_self))
      cases Option.some.inj (h1.symm.trans B.method)
      cases Option.some.inj (h2.symm.trans (Stand.of_body B).code)
      intro x hx
      rw [Array.isEmpty_iff.mp h7] at hx
      cases hx
    obtain ⟨t, a1, o, b1, b2, b3⟩ := body p e s m args below meth c s₁ B hml ht hP s₁ hh0 (Stand.of_body B)
    exact ⟨t, o, a1, b1, b2, b3⟩
/-- the table of a body with handlers -/
theorem vx_table {p : Program} {x y : MethodName} {S : Spec} {cc bytes : ByteArray} {maxL maxL' : Nat} {ret ret' : Option FieldType} {e : Env} {s s₁ : State} {m : MethodId} {args : Array Value} {below : List Frame} {meth : Method} {c : Code} {hh : List (Nat × Nat × Nat × Nat)}
    (B : BodyLoose p l y S cc maxL ret e s m args below meth c s₁) (h : (Cond.codeWith y bytes maxL' ret' hh).before args s = true) : c.exceptionTable.toList = tableOf hh := by
  obtain ⟨m9, meth9, c9, hn9, h1, h2, -, -, h6, -⟩ := Cond.codeWith_spec h
  cases Option.some.inj (hn9.symm.trans B.named)
  cases Option.some.inj (h1.symm.trans B.method)
  cases Option.some.inj (h2.symm.trans (Stand.of_body B).code)
  rw [← h6, table_eq]
end Bodies
end VXA
/-! ===== END ===== -/
/-! ===== BEGIN a static call of a method with an exception table ===== -/
section VXS
variable {p : Program} {l : Launch} {e : Env} {R : Room} {s : State} {m : MethodId} {args : Array Value} {below : List Frame} {meth : Method} {c : Code} {T : State} {H : Heap} {locs : List Loc} {cells slots : Nat}
abbrev vx_CSW (R : Room) (s : State) (args : Array Value) (own : String) (index : Nat) (y : MethodName) (bytes : ByteArray) (maxL : Nat) (ret : Option FieldType) (hh : List (Nat × Nat × Nat × Nat)) (ws : List Cond) (rm : Room) (mc ms n : Nat) : Prop :=
  (rm.cells = mc ∧ rm.slots = ms ∧ rm.frames + 1 ≤ R.frames ∧ 8 + (maxL + 11) + rm.locals ≤ R.locals ∧ (∀ w ∈ ws, ∀ (a' : Array Value) (U : State), s.WarmedH U.vm → w.before a' U = true) ∧ Cond.codeWith y bytes maxL ret hh ∈ ws) ∧
  (Cond.codeWith y bytes maxL ret hh).before args s = true ∧ (Cond.initialized y.cls).before args s = true ∧ (y.cls ≠ "java/lang/invoke/MethodHandle" ∧ y.cls ≠ "java/lang/invoke/VarHandle") ∧
  (∀ sig, parseMethodDescriptor y.desc = some sig → n = sig.parameters.length) ∧ (Cond.methodLink own index y).before args s = true ∧ (Cond.static y).before args s = true
theorem vx_cwSW {own : String} {index maxL mc ms : Nat} {y : MethodName} {bytes : ByteArray} {ret : Option FieldType} {hh : List (Nat × Nat × Nat × Nat)} {Ts ws ws' : List Cond} {rm : Room} (n : Nat) (ht : ∀ w ∈ Ts, w.before args s = true) (hT : GoodIn Ts (va_wsS own index y ws)) (hw : ws = Cond.codeWith y bytes maxL ret hh :: ws') (hrc : rm.cells = mc) (hrs : rm.slots = ms)
    (hd : y.cls ≠ "java/lang/invoke/MethodHandle" ∧ y.cls ≠ "java/lang/invoke/VarHandle" ∧ (parseMethodDescriptor y.desc).map (fun d => d.parameters.length) = some n) (hR : rm.frames + 1 ≤ R.frames ∧ 8 + (maxL + 11) + rm.locals ≤ R.locals) :
    vx_CSW R s args own index y bytes maxL ret hh ws rm mc ms n := by
  have ok : ∀ w ∈ va_wsS own index y ws, w.before args s = true := fun w h => ht w (hT w h).1
  have hG : GoodIn Ts ws := fun w h => hT w (by unfold va_wsS; exact List.mem_append_right _ h)
  have hc : Cond.codeWith y bytes maxL ret hh ∈ ws := by rw [hw]; exact List.mem_cons_self
  refine ⟨⟨hrc, hrs, hR.1, hR.2, pay_in ht hG, hc⟩, ht _ (hG _ hc).1, ok _ (by simp [va_wsS]), ⟨hd.1, hd.2.1⟩, fun sig h => ?_, ok _ (by simp [va_wsS]), ok _ (by simp [va_wsS])⟩
  have h2 := hd.2.2
  rw [h] at h2
  exact (Option.some.inj h2).symm
theorem vx_callSW (X : Stand p l e R s m args below meth c T locs cells slots) (hexec : p.tables.exec = Jvm.exec) {own : String} {index : Nat} {y : MethodName} {bytes : ByteArray} {maxL : Nat} {ret : Option FieldType} {hh : List (Nat × Nat × Nat × Nat)}
    (hown : s.vm.findClass own = some m.cls) (hlink : (Cond.methodLink own index y).before args s = true) (hstat : (Cond.static y).before args s = true) (hinit : (Cond.initialized y.cls).before args s = true)
    (hcode : (Cond.codeWith y bytes maxL ret hh).before args s = true) (hy : y.cls ≠ "java/lang/invoke/MethodHandle" ∧ y.cls ≠ "java/lang/invoke/VarHandle")
    {W9 : Nat} {Pre : Pt → Array Value → Prop} {Post : Pt → Array Value → Option Value → Pt → Prop} (hK : Back l R p e below s args y 3 W9 Pre Post)
    {g : JFrame} (hg : g.method = m) (hsize : g.locals.size = c.maxLocals) {argsL rest : List Value} (hlen : ∀ sig, parseMethodDescriptor y.desc = some sig → argsL.length = sig.parameters.length)
    (hstack : g.stack = argsL.reverse ++ rest) (hW : 2 * g.monitorRoom + (rest.map fun v => v.category).sum ≤ W9) (hdg : decode c.code g.pc = .ok (.invokestatic index, 3))
    (hpre : ∀ vm₁, s.WarmedH vm₁ → Pre ⟨T.setVm vm₁, locs, cells, slots⟩ argsL.toArray) :
    ∃ (v : Option Value) (vm₁ : Vm) (B : Pt), s.WarmedH vm₁ ∧ Stand p l e R s m args below meth c B.U B.locs B.cells B.slots ∧ Post ⟨T.setVm vm₁, locs, cells, slots⟩ argsL.toArray v B ∧
      ∀ target, Steps p.tables e below (B.U.setTop { g with pc := g.pc + 3, stack := v.toList ++ rest }) target → Steps p.tables e below (T.setTop g) target := by
  obtain ⟨mk, methM, cM, hnamed, hmethM, -, -, -, -, -, -, hsigM⟩ := Cond.codeWith_spec hcode
  have hstatic : methM.isStatic = true := Cond.static_spec hnamed hmethM hstat
  obtain ⟨kP, hkP, -⟩ := className_of_methodNamed hnamed
  have hinitP : kP.init = .initialized := Cond.initialized_spec (findClass_of_methodNamed hnamed) hkP hinit
  obtain ⟨vm₁, X₁, hstep₁⟩ := X.invokestatic hexec hown hlink hnamed hmethM hstatic hkP hinitP hy (g := g) hg (argsL := argsL) (rest := rest) (hlen _ hsigM) hstack hdg
  obtain ⟨v, B, X', hpost, hsteps⟩ := hK m meth c ⟨T.setVm vm₁, locs, cells, slots⟩ { g with stack := rest } (.invokestatic index) mk argsL.toArray X₁ hg hsize hdg hW (X₁.named hnamed) (hpre vm₁ X₁.warmed)
  exact ⟨v, vm₁, B, X₁.warmed, X', hpost, fun target h => hstep₁ _ fun acts => by rw [doInvoke_state]; exact hsteps.trans h⟩
theorem vx_runSW {y : MethodName} {bytes cc : ByteArray} {maxL nL mc ms n index : Nat} {ret : Option FieldType} {hh : List (Nat × Nat × Nat × Nat)} {ws : List Cond} {rm : Room} {Pc : Array Value → State → Prop} {Qc : Array Value → State → Outcome → State → Prop} {free : Addr → Prop} {Ts : List Cond} {own : String} {As rest : List Value} {g : JFrame}
    (S : CallFix p m c cc nL s args Ts own) (hM : Met l y ws rm Pc Qc mc ms free) (cw : vx_CSW R s args own index y bytes maxL ret hh ws rm mc ms n) (hp : PreS s H Pc As)
    (hg : g.method = m) (hn : As.length = n) (hsize : g.locals.size = nL) (hstack : g.stack = As.reverse ++ rest) (hW : 2 * g.monitorRoom + (rest.map fun v => v.category).sum ≤ 8) (hdg : decode cc g.pc = .ok (.invokestatic index, 3)) (hf : cells + mc ≤ R.cells ∧ slots + ms ≤ R.slots) :
    va_Run p l e R s m args below meth c H locs cells slots mc ms g rest (Qc As.toArray) (free) := by
  obtain ⟨⟨hrc, hrs, hfr, hlo, hws, hcw⟩, hcode, hini, hy, hlen, hl, hstt⟩ := cw
  have hK : Back l R p e below s args y 3 8 (PreOf R mc ms Pc) (PostOf Qc mc ms free) := va_backW (hh := hh) (bytes := bytes) (maxL := maxL) (ret := ret) hM hp.1 hrc hrs hfr hlo hws hcw (fun a' U hW => word_at hW (Or.inl (by first | rfl | simp [Cond.onTables, Cond.keeps, Cond.steady])) hini)
  obtain ⟨hx, hb, hml, ho, -⟩ := S
  intro T hT X
  obtain ⟨v, vm₁, ⟨U', l2, c2, s2⟩, hW₁, X', ⟨g', mk, t, L, e1, e2, hq, h1, hL, h2, h3⟩, st⟩ := vx_callSW X hx (hh := hh) (bytes := bytes) (maxL := maxL) (ret := ret) ho hl hstt hini hcode hy hK hg (hsize.trans hml.symm) (argsL := As) (rest := rest) (fun sig h => hn.trans (hlen sig h)) hstack hW (by rw [hb]; exact hdg)
    (fun vm₁ hW₁ => ⟨hf.1, hf.2, hp.2 (T.setVm vm₁) hT hW₁⟩)
  dsimp only [Pt.U, Pt.locs, Pt.cells, Pt.slots] at X' e1 e2 h1 h2 h3 st
  subst h1; subst h2; subst h3
  exact ⟨v, (T.setVm vm₁).calling g' mk As.toArray, t, U', L, hT, X', hL, e1, e2, hq, st⟩
/-- not caught here, past rows that name other classes: it goes on to the caller -/
theorem vx_outP {p : Program} {l : Launch} {e : Env} {R : Room} {s : State} {m : MethodId} {args : Array Value} {below : List Frame} {meth : Method} {c : Code} {H : Heap} {locs : List Loc} {cells slots : Nat} {free : Addr → Prop} {ls : Array Slot} {rest : List Value} {Qc : Array Value → State → Outcome → State → Prop} {XC : String → State → State → Prop}
    {pc : Nat} {own E : String} {ce : Cell} {q : Addr} {mc ms : Nat} (hown : s.vm.findClass own = some m.cls) (hlocks : meth.locks = false)
    (hpass : ∀ z ∈ c.exceptionTable.toList, covers z pc = false ∨ (z.catchType ≠ 0 ∧ ∃ nm : String, (Cond.classLink own z.catchType nm).before args s = true ∧ va_Nc E nm s)) (hcell : H[q]? = some ce) (hv : ce.vm = .none) (hcl : s.vm.findClass E = some ce.cls)
    (hx : ∀ t : State, t.heap = H → s.vm.Alike t.vm → XC E s t) (hf : ∀ z ∈ locs, free z.base) (hc : cells ≤ mc) (hs : slots ≤ ms) :
    vx_W p l e R s m args below meth c H locs cells slots (vx_MQ below Qc XC args s mc ms free) (F0 m pc ls rest) q := by
  intro T hT X
  have hpl : e.platform.magicAccessors = ({} : Platform).magicAccessors := by rw [X.admits.platform]
  obtain ⟨vm', hW', X', st⟩ := X.outThrough hlocks q (g := F0 m pc ls rest) rfl rfl rfl (cell := ce) (by rw [hT]; exact hcell) (by rw [hv]; rfl)
    (by obtain ⟨k9, h9, -⟩ := Vm.findClass_spec hcl; exact ⟨k9, h9⟩) (fun z hz => by
      rcases hpass z hz with h | ⟨hz0, nm, hl1, hn1⟩
      · exact Or.inl h
      · obtain ⟨c6, hc6, hcl6⟩ := Cond.classLink_spec hown hl1 e.platform hpl
        obtain ⟨a8, b8, h1, h2, h3⟩ := hn1
        cases Option.some.inj (h1.symm.trans hcl)
        cases Option.some.inj (h2.symm.trans hc6)
        exact Or.inr ⟨hz0, _, hcl6, h3⟩)
  obtain ⟨g₀, hfr⟩ := X'.frames_eq
  have hcell9 : ((T.setVm vm').setFrames (.throwing q :: below)).heap[q]? = some ce := by
    show T.heap[q]? = some ce
    rw [hT]; exact hcell
  have hend : Ended ((T.setVm vm').setFrames (.throwing q :: below)) below (.threw q) := State.frames_setFrames _ (State.cur_lt_of_frames hfr)
  refine ⟨(T.setVm vm').setFrames (.throwing q :: below), ?_, .threw q, X'.here.running, hend, Or.inr ⟨q, rfl, E, ce, locs, hx _ hT (X'.ends _).1.alike, hcell9, hv, hcl, (X'.ends _).1, (X'.ends _).2.mono hc hs, hf⟩⟩
  rw [X.pushThrowing_eq]
  exact st
/-- a thing of a world lies in the heap -/
theorem vx_lt {D : va_G} {cl : List vw_C} {ws : va_W} {H1 : Heap} (h : va_P D cl ws H1) {k : Nat} {q : Nat × va_E} (hk : ws[k]? = some q) : q.1 < H1.size := (h k q hk).lt
end VXS
/-! ===== END ===== -/
/-! ===== BEGIN methods with a table of their own: called by a name, returning or throwing ===== -/
section VXH
/-! vx_backW, vx_callVX, vx_callSX, vx_callVW, vx_runVW, vx_runVX, vx_runSX, vx_ofWH follow the same proofs as their sisters above (Free/Laws.lean, Shelf42/LK1.lean); vx_outP calls Shelf42/NT130.lean (outThrough). -/
section
variable {l : Launch} {R : Room} {p : Program} {e : Env} {below : List Frame} {s : State} {sargs : Array Value} {y : MethodName} {len W9 : Nat}
theorem vx_backW {ws : List Cond} {rm : Room} {Pc : Array Value → State → Prop} {Qc : Array Value → State → Outcome → State → Prop} {XC : String → State → State → Prop} {mc ms : Nat} {free : Addr → Prop} {bytes : ByteArray} {maxL : Nat} {ret : Option FieldType} {hh : List (Nat × Nat × Nat × Nat)}
    (hM : vx_Met l y ws rm Pc Qc XC mc ms free) (hblind : FrameBlind Pc) (hrc : rm.cells = mc) (hrs : rm.slots = ms)
    (hframes : rm.frames + 1 ≤ R.frames) (hlocals : W9 + (maxL + 11) + rm.locals ≤ R.locals)
    (hws : ∀ w ∈ ws, ∀ a' U, s.WarmedH U.vm → w.before a' U = true) (hcode : Cond.codeWith y bytes maxL ret hh ∈ ws) (hinit : ∀ a' U, s.WarmedH U.vm → (Cond.initialized y.cls).before a' U = true) :
    vx_Back l R p e below s sargs y len W9 (PreOf R mc ms Pc) (PostOf Qc mc ms free) (vx_Post XC mc ms free) := by
  intro m meth c A g ig mk a X hg hsize hdg hW hn hp
  have h1 : (headSpec ws rm).pre.before a A.U = true := atoms_intro fun w hw => hws w hw _ _ X.warmed
  have h2 : (Cond.codeWith y bytes maxL ret hh).before a A.U = true := hws _ hcode _ _ X.warmed
  have h3 : (Cond.initialized y.cls).before a A.U = true := hinit _ _ X.warmed
  have h4 : A.cells + (headSpec ws rm).room.cells ≤ R.cells := by rw [show (headSpec ws rm).room.cells = mc from hrc]; exact hp.1
  have h5 : A.slots + (headSpec ws rm).room.slots ≤ R.slots := by rw [show (headSpec ws rm).room.slots = ms from hrs]; exact hp.2.1
  have hPc : Pc a (A.U.calling g mk a) := hblind _ _ _ _ hp.2.2
  obtain ⟨U, Ls, c0, s0⟩ := A
  dsimp only [Pt.U, Pt.locs, Pt.cells, Pt.slots] at h1 h2 h3 h4 h5 X hn hPc ⊢
  obtain ⟨m9, methY, cY, hn9, hmY, hcY, -, hlY, -⟩ := Cond.codeWith_spec h2
  cases Option.some.inj (hn9.symm.trans hn)
  obtain ⟨kY, hkY, -⟩ := className_of_methodNamed hn
  have hinitY : kY.init = .initialized := Cond.initialized_spec (findClass_of_methodNamed hn) hkY h3
  have h : At U g.method c below := by rw [hg]; exact X.here
  have hlocals9 : W9 + (maxL + 11) + (headSpec ws rm).room.locals ≤ R.locals := hlocals
  have happ : (headSpec ws rm).appliesLoose y e.platform (U.calling g mk a) = true :=
    Spec.appliesLoose_calling (g := g) h hdg hn hkY hinitY
      (X.room_calling (g := g) (R' := (headSpec ws rm).room) hsize hmY hcY hframes (by rw [hlY]; omega) h4 h5) h1
  obtain ⟨mid, hmid⟩ := h.above
  have hfr : (U.setTop g).frames = (.java g :: mid) ++ below := by rw [State.frames_setTop' g h.top, hmid]; rfl
  obtain ⟨o, s₂, hsteps, -, hend, hq⟩ := Steps.callFree hM p X.admits X.cas X.clock (acts := []) hfr happ hPc trivial
  have hq' : vx_Q Qc XC mc ms free a (U.calling g mk a) o s₂ := hq
  rw [State.frames_setTop' g h.top] at hend
  obtain ⟨g₀, hg0⟩ := Option.isSome_iff_exists.mp h.top
  obtain ⟨r, hr⟩ := State.topJava?_eq_some.mp hg0
  have hr' : (({ U with heap := s₂.heap, slotsUsed := s₂.slotsUsed } : State).setVm s₂.vm).frames = .java g₀ :: r := hr
  rcases hq' with ⟨hqc, L, hfe, hL⟩ | ⟨q, rfl, E, ce, L, hx, hce, hcv, hcl, hW₂, hsm, hL⟩
  · obtain ⟨⟨v, rfl⟩, hW₂, e2, q2, q3, q4, q5, q6⟩ := id hfe
    have e3 : s₂ = ({ (U.calling g mk a).setFrames s₂.frames with heap := s₂.heap, slotsUsed := s₂.slotsUsed } : State).setVm s₂.vm := by
      have : s₂ = ({ s₂ with vm := (U.calling g mk a).vm } : State).setVm s₂.vm := rfl
      rw [e2] at this
      exact this
    obtain ⟨c₂, i₂, len₂, hc₂, hd₂, hf₂⟩ := hend
    have hW' : U.WarmedH s₂.vm := hW₂
    have hcc : c₂ = c := by
      have h1 : s₂.code? g.method = U.code? g.method := by
        rw [State.code?_eq, State.code?_eq, hW'.alike.method?]
      exact Option.some.inj (hc₂.symm.trans (h1.trans h.code))
    subst hcc
    have hlen : len₂ = len := by rw [hdg] at hd₂; cases hd₂; rfl
    subst hlen
    have hs₂ : s₂ = (({ U with heap := s₂.heap, slotsUsed := s₂.slotsUsed } : State).setVm s₂.vm).setTop { g with pc := g.pc + len₂, stack := v.toList ++ g.stack } := by
      refine e3.trans ?_
      rw [hf₂, State.calling_eq h.top, State.setFrames_setFrames, State.setTop_of_frames _ hr', hr]
      rfl
    have hsame : U.sameButNew ({ U with heap := s₂.heap, slotsUsed := s₂.slotsUsed } : State) L mc ms := by
      refine ⟨?_, q2, q3, q4, q5, q6⟩
      obtain ⟨t, ht, -⟩ := State.frames_cons hr
      show ({ U with heap := s₂.heap, slotsUsed := s₂.slotsUsed } : State) = { U.setFrames U.frames with heap := s₂.heap, slotsUsed := s₂.slotsUsed }
      rw [State.setFrames_self ht]
    subst hg
    refine Or.inl ⟨v, ⟨(({ U with heap := s₂.heap, slotsUsed := s₂.slotsUsed } : State).setVm s₂.vm), Ls ++ L, c0 + mc, s0 + ms⟩,
      ⟨X.admits, X.cas, X.clock, X.frames, X.room, X.hears, X.method, X.code, (X.here.setHeapUsed s₂.heap s₂.slotsUsed).setVm hW'.alike, X.tail, State.WarmedH.trans X.warmed hW', X.limits, X.bytes, X.same.trans (hsame.setVm s.vm)⟩,
      ⟨g, mk, s₂, L, rfl, rfl, hqc, rfl, hL, rfl, rfl⟩, ?_⟩
    show Steps p.tables e below _ ((({ U with heap := s₂.heap, slotsUsed := s₂.slotsUsed } : State).setVm s₂.vm).setTop { g with pc := g.pc + len₂, stack := v.toList ++ g.stack })
    rw [← hs₂]
    exact hsteps
  · obtain ⟨e2, q2, q3, q4, q5, q6⟩ := id hsm
    have e3 : s₂ = ({ (U.calling g mk a).setFrames s₂.frames with heap := s₂.heap, slotsUsed := s₂.slotsUsed } : State).setVm s₂.vm := by
      have : s₂ = ({ s₂ with vm := (U.calling g mk a).vm } : State).setVm s₂.vm := rfl
      rw [e2] at this
      exact this
    have hf₂ : s₂.frames = .throwing q :: .java g :: U.frames.tail := hend
    have hW' : U.WarmedH s₂.vm := hW₂
    have hs₂ : s₂ = ((({ U with heap := s₂.heap, slotsUsed := s₂.slotsUsed } : State).setVm s₂.vm).setTop g).pushFrame (.throwing q) := by
      refine e3.trans ?_
      rw [hf₂, State.calling_eq h.top, State.setFrames_setFrames, State.pushFrame, State.frames_setTop _ hr', State.setTop_of_frames _ hr', State.setFrames_setFrames, hr]
      rfl
    have hsame : U.sameButNew ({ U with heap := s₂.heap, slotsUsed := s₂.slotsUsed } : State) L mc ms := by
      refine ⟨?_, q2, q3, q4, q5, q6⟩
      obtain ⟨t, ht, -⟩ := State.frames_cons hr
      show ({ U with heap := s₂.heap, slotsUsed := s₂.slotsUsed } : State) = { U.setFrames U.frames with heap := s₂.heap, slotsUsed := s₂.slotsUsed }
      rw [State.setFrames_self ht]
    subst hg
    refine Or.inr ⟨q, ⟨(({ U with heap := s₂.heap, slotsUsed := s₂.slotsUsed } : State).setVm s₂.vm), Ls ++ L, c0 + mc, s0 + ms⟩,
      ⟨X.admits, X.cas, X.clock, X.frames, X.room, X.hears, X.method, X.code, (X.here.setHeapUsed s₂.heap s₂.slotsUsed).setVm hW'.alike, X.tail, State.WarmedH.trans X.warmed hW', X.limits, X.bytes, X.same.trans (hsame.setVm s.vm)⟩,
      ⟨g, mk, s₂, L, E, ce, rfl, rfl, hx, hce, hcv, hcl, rfl, hL, rfl, rfl⟩, ?_⟩
    show Steps p.tables e below _ (((({ U with heap := s₂.heap, slotsUsed := s₂.slotsUsed } : State).setVm s₂.vm).setTop g).pushFrame (.throwing q))
    rw [← hs₂]
    exact hsteps
end
variable {p : Program} {l : Launch} {e : Env} {R : Room} {s : State} {m : MethodId} {args : Array Value} {below : List Frame} {meth : Method} {c : Code} {T : State} {H : Heap} {locs : List Loc} {cells slots : Nat}
theorem vx_callVX (X : Stand p l e R s m args below meth c T locs cells slots) (hexec : p.tables.exec = Jvm.exec) {own C : String} {index : Nat} {y : MethodName} {bytes : ByteArray} {maxL : Nat} {ret : Option FieldType} {hh : List (Nat × Nat × Nat × Nat)}
    (hown : s.vm.findClass own = some m.cls) (hlink : (Cond.methodLink own index y).before args s = true) (hinst : (Cond.instanceMethod y).before args s = true) (hsel : (Cond.selects C y y).before args s = true)
    (hcode : (Cond.codeWith y bytes maxL ret hh).before args s = true) (hy : y.cls ≠ "java/lang/invoke/MethodHandle" ∧ y.cls ≠ "java/lang/invoke/VarHandle")
    {W9 : Nat} {Pre : Pt → Array Value → Prop} {Post : Pt → Array Value → Option Value → Pt → Prop} {PostX : Pt → Array Value → Addr → Pt → Prop} (hK : vx_Back l R p e below s args y 3 W9 Pre Post PostX)
    {b : Addr} {cellB : Cell} (hcell : T.heap[b]? = some cellB) (hobj : cellB.vm.isStatics = false) (hcls : s.vm.findClass C = some cellB.cls)
    {g : JFrame} (hg : g.method = m) (hsize : g.locals.size = c.maxLocals) {argsL rest : List Value} (hlen : ∀ sig, parseMethodDescriptor y.desc = some sig → argsL.length = sig.parameters.length)
    (hstack : g.stack = argsL.reverse ++ .ref b :: rest) (hW : 2 * g.monitorRoom + (rest.map fun v => v.category).sum ≤ W9) (hdg : decode c.code g.pc = .ok (.invokevirtual index, 3))
    (hpre : ∀ vm₁, s.WarmedH vm₁ → Pre ⟨T.setVm vm₁, locs, cells, slots⟩ (Value.ref b :: argsL).toArray) :
    (∃ (v : Option Value) (vm₁ : Vm) (B : Pt), s.WarmedH vm₁ ∧ Stand p l e R s m args below meth c B.U B.locs B.cells B.slots ∧ Post ⟨T.setVm vm₁, locs, cells, slots⟩ (Value.ref b :: argsL).toArray v B ∧
      ∀ target, Steps p.tables e below (B.U.setTop { g with pc := g.pc + 3, stack := v.toList ++ rest }) target → Steps p.tables e below (T.setTop g) target) ∨
    (∃ (q : Addr) (vm₁ : Vm) (B : Pt), s.WarmedH vm₁ ∧ Stand p l e R s m args below meth c B.U B.locs B.cells B.slots ∧ PostX ⟨T.setVm vm₁, locs, cells, slots⟩ (Value.ref b :: argsL).toArray q B ∧
      Steps p.tables e below (T.setTop g) ((B.U.setTop { g with stack := rest }).pushFrame (.throwing q))) := by
  obtain ⟨mk, methM, hnamed, hmethM, hstM, habM⟩ := Cond.instanceMethod_spec hinst
  obtain ⟨m8, methM', cM, hn8, hmethM', -, -, -, -, -, -, hsigM⟩ := Cond.codeWith_spec hcode
  cases Option.some.inj (hn8.symm.trans hnamed)
  cases hmethM.symm.trans hmethM'
  obtain ⟨c2, r2, m2, q1, q2, q3, q4, kP, hkP, hkPi⟩ := Cond.selects_spec hsel
  cases hcls.symm.trans q1
  cases (State.methodFound?_of_named hnamed hy).symm.trans q2
  cases hnamed.symm.trans q3
  have hselP : selectMethod e.platform s.vm cellB.cls mk = .method mk := by rw [Launch.admits_selectMethod X.admits]; exact q4
  obtain ⟨vm₁, X₁, hstep₁⟩ := X.invokevirtual hexec hown hlink hnamed hmethM hstM hkP hkPi hy (a := b) (cell := cellB) hcell
    (fun z h => by rw [h] at hobj; cases hobj) hselP hmethM habM hkP hkPi (g := g) hg (argsL := argsL) (rest := rest) (hlen _ hsigM) hstack hdg
  rcases hK m meth c ⟨T.setVm vm₁, locs, cells, slots⟩ { g with stack := rest } (.invokevirtual index) mk (Value.ref b :: argsL).toArray X₁ hg hsize hdg hW (X₁.named hnamed) (hpre vm₁ X₁.warmed) with ⟨v, B, X', hpost, hsteps⟩ | ⟨q, B, X', hpost, hsteps⟩
  · exact Or.inl ⟨v, vm₁, B, X₁.warmed, X', hpost, fun target h => hstep₁ _ fun acts => by rw [doInvoke_state]; exact hsteps.trans h⟩
  · exact Or.inr ⟨q, vm₁, B, X₁.warmed, X', hpost, hstep₁ _ fun acts => by rw [doInvoke_state]; exact hsteps⟩
theorem vx_callSX (X : Stand p l e R s m args below meth c T locs cells slots) (hexec : p.tables.exec = Jvm.exec) {own : String} {index : Nat} {y : MethodName} {bytes : ByteArray} {maxL : Nat} {ret : Option FieldType} {hh : List (Nat × Nat × Nat × Nat)}
    (hown : s.vm.findClass own = some m.cls) (hlink : (Cond.methodLink own index y).before args s = true) (hstat : (Cond.static y).before args s = true) (hinit : (Cond.initialized y.cls).before args s = true)
    (hcode : (Cond.codeWith y bytes maxL ret hh).before args s = true) (hy : y.cls ≠ "java/lang/invoke/MethodHandle" ∧ y.cls ≠ "java/lang/invoke/VarHandle")
    {W9 : Nat} {Pre : Pt → Array Value → Prop} {Post : Pt → Array Value → Option Value → Pt → Prop} {PostX : Pt → Array Value → Addr → Pt → Prop} (hK : vx_Back l R p e below s args y 3 W9 Pre Post PostX)
    {g : JFrame} (hg : g.method = m) (hsize : g.locals.size = c.maxLocals) {argsL rest : List Value} (hlen : ∀ sig, parseMethodDescriptor y.desc = some sig → argsL.length = sig.parameters.length)
    (hstack : g.stack = argsL.reverse ++ rest) (hW : 2 * g.monitorRoom + (rest.map fun v => v.category).sum ≤ W9) (hdg : decode c.code g.pc = .ok (.invokestatic index, 3))
    (hpre : ∀ vm₁, s.WarmedH vm₁ → Pre ⟨T.setVm vm₁, locs, cells, slots⟩ argsL.toArray) :
    (∃ (v : Option Value) (vm₁ : Vm) (B : Pt), s.WarmedH vm₁ ∧ Stand p l e R s m args below meth c B.U B.locs B.cells B.slots ∧ Post ⟨T.setVm vm₁, locs, cells, slots⟩ argsL.toArray v B ∧
      ∀ target, Steps p.tables e below (B.U.setTop { g with pc := g.pc + 3, stack := v.toList ++ rest }) target → Steps p.tables e below (T.setTop g) target) ∨
    (∃ (q : Addr) (vm₁ : Vm) (B : Pt), s.WarmedH vm₁ ∧ Stand p l e R s m args below meth c B.U B.locs B.cells B.slots ∧ PostX ⟨T.setVm vm₁, locs, cells, slots⟩ argsL.toArray q B ∧
      Steps p.tables e below (T.setTop g) ((B.U.setTop { g with stack := rest }).pushFrame (.throwing q))) := by
  obtain ⟨mk, methM, cM, hnamed, hmethM, -, -, -, -, -, -, hsigM⟩ := Cond.codeWith_spec hcode
  have hstatic : methM.isStatic = true := Cond.static_spec hnamed hmethM hstat
  obtain ⟨kP, hkP, -⟩ := className_of_methodNamed hnamed
  have hinitP : kP.init = .initialized := Cond.initialized_spec (findClass_of_methodNamed hnamed) hkP hinit
  obtain ⟨vm₁, X₁, hstep₁⟩ := X.invokestatic hexec hown hlink hnamed hmethM hstatic hkP hinitP hy (g := g) hg (argsL := argsL) (rest := rest) (hlen _ hsigM) hstack hdg
  rcases hK m meth c ⟨T.setVm vm₁, locs, cells, slots⟩ { g with stack := rest } (.invokestatic index) mk argsL.toArray X₁ hg hsize hdg hW (X₁.named hnamed) (hpre vm₁ X₁.warmed) with ⟨v, B, X', hpost, hsteps⟩ | ⟨q, B, X', hpost, hsteps⟩
  · exact Or.inl ⟨v, vm₁, B, X₁.warmed, X', hpost, fun target h => hstep₁ _ fun acts => by rw [doInvoke_state]; exact hsteps.trans h⟩
  · exact Or.inr ⟨q, vm₁, B, X₁.warmed, X', hpost, hstep₁ _ fun acts => by rw [doInvoke_state]; exact hsteps⟩
theorem vx_callVW (X : Stand p l e R s m args below meth c T locs cells slots) (hexec : p.tables.exec = Jvm.exec) {own C : String} {index : Nat} {y : MethodName} {bytes : ByteArray} {maxL : Nat} {ret : Option FieldType} {hh : List (Nat × Nat × Nat × Nat)}
    (hown : s.vm.findClass own = some m.cls) (hlink : (Cond.methodLink own index y).before args s = true) (hinst : (Cond.instanceMethod y).before args s = true) (hsel : (Cond.selects C y y).before args s = true)
    (hcode : (Cond.codeWith y bytes maxL ret hh).before args s = true) (hy : y.cls ≠ "java/lang/invoke/MethodHandle" ∧ y.cls ≠ "java/lang/invoke/VarHandle")
    {W9 : Nat} {Pre : Pt → Array Value → Prop} {Post : Pt → Array Value → Option Value → Pt → Prop} (hK : Back l R p e below s args y 3 W9 Pre Post)
    {b : Addr} {cellB : Cell} (hcell : T.heap[b]? = some cellB) (hobj : cellB.vm.isStatics = false) (hcls : s.vm.findClass C = some cellB.cls)
    {g : JFrame} (hg : g.method = m) (hsize : g.locals.size = c.maxLocals) {argsL rest : List Value} (hlen : ∀ sig, parseMethodDescriptor y.desc = some sig → argsL.length = sig.parameters.length)
    (hstack : g.stack = argsL.reverse ++ .ref b :: rest) (hW : 2 * g.monitorRoom + (rest.map fun v => v.category).sum ≤ W9) (hdg : decode c.code g.pc = .ok (.invokevirtual index, 3))
    (hpre : ∀ vm₁, s.WarmedH vm₁ → Pre ⟨T.setVm vm₁, locs, cells, slots⟩ (Value.ref b :: argsL).toArray) :
    ∃ (v : Option Value) (vm₁ : Vm) (B : Pt), s.WarmedH vm₁ ∧ Stand p l e R s m args below meth c B.U B.locs B.cells B.slots ∧ Post ⟨T.setVm vm₁, locs, cells, slots⟩ (Value.ref b :: argsL).toArray v B ∧
      ∀ target, Steps p.tables e below (B.U.setTop { g with pc := g.pc + 3, stack := v.toList ++ rest }) target → Steps p.tables e below (T.setTop g) target := by
  obtain ⟨mk, methM, hnamed, hmethM, hstM, habM⟩ := Cond.instanceMethod_spec hinst
  obtain ⟨m8, methM', cM, hn8, hmethM', -, -, -, -, -, -, hsigM⟩ := Cond.codeWith_spec hcode
  cases Option.some.inj (hn8.symm.trans hnamed)
  cases hmethM.symm.trans hmethM'
  obtain ⟨c2, r2, m2, q1, q2, q3, q4, kP, hkP, hkPi⟩ := Cond.selects_spec hsel
  cases hcls.symm.trans q1
  cases (State.methodFound?_of_named hnamed hy).symm.trans q2
  cases hnamed.symm.trans q3
  have hselP : selectMethod e.platform s.vm cellB.cls mk = .method mk := by rw [Launch.admits_selectMethod X.admits]; exact q4
  obtain ⟨vm₁, X₁, hstep₁⟩ := X.invokevirtual hexec hown hlink hnamed hmethM hstM hkP hkPi hy (a := b) (cell := cellB) hcell
    (fun z h => by rw [h] at hobj; cases hobj) hselP hmethM habM hkP hkPi (g := g) hg (argsL := argsL) (rest := rest) (hlen _ hsigM) hstack hdg
  obtain ⟨v, B, X', hpost, hsteps⟩ := hK m meth c ⟨T.setVm vm₁, locs, cells, slots⟩ { g with stack := rest } (.invokevirtual index) mk (Value.ref b :: argsL).toArray X₁ hg hsize hdg hW (X₁.named hnamed) (hpre vm₁ X₁.warmed)
  exact ⟨v, vm₁, B, X₁.warmed, X', hpost, fun target h => hstep₁ _ fun acts => by rw [doInvoke_state]; exact hsteps.trans h⟩
abbrev vx_CVW (R : Room) (s : State) (args : Array Value) (own C : String) (index : Nat) (y : MethodName) (bytes : ByteArray) (maxL : Nat) (ret : Option FieldType) (hh : List (Nat × Nat × Nat × Nat)) (ws : List Cond) (rm : Room) (mc ms n : Nat) : Prop :=
  (rm.cells = mc ∧ rm.slots = ms ∧ rm.frames + 1 ≤ R.frames ∧ 8 + (maxL + 11) + rm.locals ≤ R.locals ∧ (∀ w ∈ ws, ∀ (a' : Array Value) (U : State), s.WarmedH U.vm → w.before a' U = true) ∧ Cond.codeWith y bytes maxL ret hh ∈ ws) ∧
  (Cond.codeWith y bytes maxL ret hh).before args s = true ∧ (Cond.initialized y.cls).before args s = true ∧ (y.cls ≠ "java/lang/invoke/MethodHandle" ∧ y.cls ≠ "java/lang/invoke/VarHandle") ∧
  (∀ sig, parseMethodDescriptor y.desc = some sig → n = sig.parameters.length) ∧ (Cond.methodLink own index y).before args s = true ∧ (Cond.instanceMethod y).before args s = true ∧ (Cond.selects C y y).before args s = true
theorem vx_cwVW {own C : String} {index maxL mc ms : Nat} {y : MethodName} {bytes : ByteArray} {ret : Option FieldType} {hh : List (Nat × Nat × Nat × Nat)} {Ts ws ws' : List Cond} {rm : Room} (n : Nat) (ht : ∀ w ∈ Ts, w.before args s = true) (hT : GoodIn Ts (wsV own index C y ws)) (hw : ws = Cond.codeWith y bytes maxL ret hh :: ws') (hrc : rm.cells = mc) (hrs : rm.slots = ms)
    (hd : y.cls = C ∧ y.cls ≠ "java/lang/invoke/MethodHandle" ∧ y.cls ≠ "java/lang/invoke/VarHandle" ∧ (parseMethodDescriptor y.desc).map (fun d => d.parameters.length) = some n) (hR : rm.frames + 1 ≤ R.frames ∧ 8 + (maxL + 11) + rm.locals ≤ R.locals) :
    vx_CVW R s args own C index y bytes maxL ret hh ws rm mc ms n := by
  obtain ⟨hC, hd⟩ := hd
  subst hC
  have ok : ∀ w ∈ wsV own index y.cls y ws, w.before args s = true := fun w h => ht w (hT w h).1
  have hG : GoodIn Ts ws := fun w h => hT w (by unfold wsV; exact List.mem_append_right _ h)
  have hc : Cond.codeWith y bytes maxL ret hh ∈ ws := by rw [hw]; exact List.mem_cons_self
  refine ⟨⟨hrc, hrs, hR.1, hR.2, pay_in ht hG, hc⟩, ht _ (hG _ hc).1, ok _ (by simp [wsV]), ⟨hd.1, hd.2.1⟩, fun sig h => ?_, ok _ (by simp [wsV]), ok _ (by simp [wsV]), ok _ (by simp [wsV])⟩
  have h2 := hd.2.2
  rw [h] at h2
  exact (Option.some.inj h2).symm
theorem vx_runVW {y : MethodName} {bytes cc : ByteArray} {maxL nL mc ms n index : Nat} {ret : Option FieldType} {hh : List (Nat × Nat × Nat × Nat)} {ws : List Cond} {rm : Room} {Pc : Array Value → State → Prop} {Qc : Array Value → State → Outcome → State → Prop} {free : Addr → Prop} {Ts : List Cond} {own C : String} {b : Addr} {As rest : List Value} {g : JFrame}
    (S : CallFix p m c cc nL s args Ts own) (hM : Met l y ws rm Pc Qc mc ms free) (cw : vx_CVW R s args own C index y bytes maxL ret hh ws rm mc ms n) (hp : PreV s H C b Pc As)
    (hg : g.method = m) (hn : As.length = n) (hsize : g.locals.size = nL) (hstack : g.stack = As.reverse ++ .ref b :: rest) (hW : 2 * g.monitorRoom + (rest.map fun v => v.category).sum ≤ 8) (hdg : decode cc g.pc = .ok (.invokevirtual index, 3)) (hf : cells + mc ≤ R.cells ∧ slots + ms ≤ R.slots) :
    va_Run p l e R s m args below meth c H locs cells slots mc ms g rest (Qc (Value.ref b :: As).toArray) free := by
  obtain ⟨⟨hrc, hrs, hfr, hlo, hws, hcw⟩, hcode, hini, hy, hlen, hl, hin, hse⟩ := cw
  have hK : Back l R p e below s args y 3 8 (PreOf R mc ms Pc) (PostOf Qc mc ms free) := va_backW (hh := hh) (bytes := bytes) (maxL := maxL) (ret := ret) hM hp.1 hrc hrs hfr hlo hws hcw (fun a' U hW => word_at hW (Or.inl (by first | rfl | simp [Cond.onTables, Cond.keeps, Cond.steady])) hini)
  obtain ⟨hx, hb, hml, ho, -⟩ := S
  obtain ⟨-, ⟨cellB, hcB, hoB, hclB⟩, hPc⟩ := hp
  intro T hT X
  obtain ⟨v, vm₁, ⟨U', l2, c2, s2⟩, hW₁, X', ⟨g', mk, t, L, e1, e2, hq, h1, hL, h2, h3⟩, st⟩ := vx_callVW X hx (C := C) (hh := hh) (bytes := bytes) (maxL := maxL) (ret := ret) ho hl hin hse hcode hy hK (by rw [hT]; exact hcB) hoB hclB hg (hsize.trans hml.symm) (argsL := As) (rest := rest) (fun sig h => hn.trans (hlen sig h)) hstack hW (by rw [hb]; exact hdg)
    (fun vm₁ hW₁ => ⟨hf.1, hf.2, hPc (T.setVm vm₁) hT hW₁⟩)
  dsimp only [Pt.U, Pt.locs, Pt.cells, Pt.slots] at X' e1 e2 h1 h2 h3 st
  subst h1; subst h2; subst h3
  exact ⟨v, (T.setVm vm₁).calling g' mk (Value.ref b :: As).toArray, t, U', L, hT, X', hL, e1, e2, hq, st⟩
section
variable {y : MethodName} {bytes cc : ByteArray} {maxL nL mc ms n index : Nat} {ret : Option FieldType} {ws : List Cond} {rm : Room} {Pc : Array Value → State → Prop} {Qc : Array Value → State → Outcome → State → Prop} {XC : String → State → State → Prop} {free : Addr → Prop} {Ts : List Cond} {own C : String} {b : Addr} {As rest : List Value} {g : JFrame}
theorem vx_runVX {hh : List (Nat × Nat × Nat × Nat)} (S : CallFix p m c cc nL s args Ts own) (hM : vx_Met l y ws rm Pc Qc XC mc ms free) (cw : vx_CVW R s args own C index y bytes maxL ret hh ws rm mc ms n) (hp : PreV s H C b Pc As)
    (hg : g.method = m) (hn : As.length = n) (hsize : g.locals.size = nL) (hstack : g.stack = As.reverse ++ .ref b :: rest) (hW : 2 * g.monitorRoom + (rest.map fun v => v.category).sum ≤ 8) (hdg : decode cc g.pc = .ok (.invokevirtual index, 3)) (hf : cells + mc ≤ R.cells ∧ slots + ms ≤ R.slots) :
    vx_Run p l e R s m args below meth c H locs cells slots mc ms g rest (Qc (Value.ref b :: As).toArray) XC free := by
  obtain ⟨⟨hrc, hrs, hfr, hlo, hws, hcw⟩, hcode, hini, hy, hlen, hl, hin, hse⟩ := cw
  have hK : vx_Back l R p e below s args y 3 8 (PreOf R mc ms Pc) (PostOf Qc mc ms free) (vx_Post XC mc ms free) := vx_backW (hh := hh) (bytes := bytes) (maxL := maxL) (ret := ret) hM hp.1 hrc hrs hfr hlo hws hcw (fun a' U hW => word_at hW (Or.inl (by first | rfl | simp [Cond.onTables, Cond.keeps, Cond.steady])) hini)
  obtain ⟨hx, hb, hml, ho, -⟩ := S
  obtain ⟨-, ⟨cellB, hcB, hoB, hclB⟩, hPc⟩ := hp
  intro T hT X
  rcases vx_callVX X hx (C := C) (hh := hh) (bytes := bytes) (maxL := maxL) (ret := ret) ho hl hin hse hcode hy hK (by rw [hT]; exact hcB) hoB hclB hg (hsize.trans hml.symm) (argsL := As) (rest := rest) (fun sig h => hn.trans (hlen sig h)) hstack hW (by rw [hb]; exact hdg)
    (fun vm₁ hW₁ => ⟨hf.1, hf.2, hPc (T.setVm vm₁) hT hW₁⟩) with ⟨v, vm₁, ⟨U', l2, c2, s2⟩, hW₁, X', ⟨g', mk, t, L, e1, e2, hq, h1, hL, h2, h3⟩, st⟩ | ⟨q, vm₁, ⟨U', l2, c2, s2⟩, hW₁, X', ⟨g', mk, t, L, E, ce, e1, e2, hq, hce, hcv, hcl, h1, hL, h2, h3⟩, st⟩
  · dsimp only [Pt.U, Pt.locs, Pt.cells, Pt.slots] at X' e1 e2 h1 h2 h3 st
    subst h1; subst h2; subst h3
    exact Or.inl ⟨v, (T.setVm vm₁).calling g' mk (Value.ref b :: As).toArray, t, U', L, hT, X', hL, e1, e2, hq, st⟩
  · dsimp only [Pt.U, Pt.locs, Pt.cells, Pt.slots] at X' e1 e2 h1 h2 h3 st hcl
    subst h1; subst h2; subst h3
    exact Or.inr ⟨q, (T.setVm vm₁).calling g' mk (Value.ref b :: As).toArray, t, U', L, E, ce, hT, X', hL, e1, e2, hq, hce, hcv, vx_cls hW₁ hcl, st⟩
theorem vx_runSX {hh : List (Nat × Nat × Nat × Nat)} (S : CallFix p m c cc nL s args Ts own) (hM : vx_Met l y ws rm Pc Qc XC mc ms free) (cw : vx_CSW R s args own index y bytes maxL ret hh ws rm mc ms n) (hp : PreS s H Pc As)
    (hg : g.method = m) (hn : As.length = n) (hsize : g.locals.size = nL) (hstack : g.stack = As.reverse ++ rest) (hW : 2 * g.monitorRoom + (rest.map fun v => v.category).sum ≤ 8) (hdg : decode cc g.pc = .ok (.invokestatic index, 3)) (hf : cells + mc ≤ R.cells ∧ slots + ms ≤ R.slots) :
    vx_Run p l e R s m args below meth c H locs cells slots mc ms g rest (Qc As.toArray) XC free := by
  obtain ⟨⟨hrc, hrs, hfr, hlo, hws, hcw⟩, hcode, hini, hy, hlen, hl, hstt⟩ := cw
  have hK : vx_Back l R p e below s args y 3 8 (PreOf R mc ms Pc) (PostOf Qc mc ms free) (vx_Post XC mc ms free) := vx_backW (hh := hh) (bytes := bytes) (maxL := maxL) (ret := ret) hM hp.1 hrc hrs hfr hlo hws hcw (fun a' U hW => word_at hW (Or.inl (by first | rfl | simp [Cond.onTables, Cond.keeps, Cond.steady])) hini)
  obtain ⟨hx, hb, hml, ho, -⟩ := S
  intro T hT X
  rcases vx_callSX X hx (hh := hh) (bytes := bytes) (maxL := maxL) (ret := ret) ho hl hstt hini hcode hy hK hg (hsize.trans hml.symm) (argsL := As) (rest := rest) (fun sig h => hn.trans (hlen sig h)) hstack hW (by rw [hb]; exact hdg)
    (fun vm₁ hW₁ => ⟨hf.1, hf.2, hp.2 (T.setVm vm₁) hT hW₁⟩) with ⟨v, vm₁, ⟨U', l2, c2, s2⟩, hW₁, X', ⟨g', mk, t, L, e1, e2, hq, h1, hL, h2, h3⟩, st⟩ | ⟨q, vm₁, ⟨U', l2, c2, s2⟩, hW₁, X', ⟨g', mk, t, L, E, ce, e1, e2, hq, hce, hcv, hcl, h1, hL, h2, h3⟩, st⟩
  · dsimp only [Pt.U, Pt.locs, Pt.cells, Pt.slots] at X' e1 e2 h1 h2 h3 st
    subst h1; subst h2; subst h3
    exact Or.inl ⟨v, (T.setVm vm₁).calling g' mk As.toArray, t, U', L, hT, X', hL, e1, e2, hq, st⟩
  · dsimp only [Pt.U, Pt.locs, Pt.cells, Pt.slots] at X' e1 e2 h1 h2 h3 st hcl
    subst h1; subst h2; subst h3
    exact Or.inr ⟨q, (T.setVm vm₁).calling g' mk As.toArray, t, U', L, E, ce, hT, X', hL, e1, e2, hq, hce, hcv, vx_cls hW₁ hcl, st⟩
end
end VXH
theorem vx_ofWH {l : Launch} {y : MethodName} {ws ws' : List Cond} {rm : Room} {Pc : Array Value → State → Prop} {Qc : Array Value → State → Outcome → State → Prop} {XC : String → State → State → Prop} {mc ms : Nat} {free : Addr → Prop} {cc : ByteArray} {maxL : Nat} {ret : Option FieldType} {hh : List (Nat × Nat × Nat × Nat)}
    (hy : plainName y.cls = true) (hw : ws = Cond.codeWith y cc maxL ret hh :: ws')
    (body : ∀ p e s m args below meth c s₁, BodyLoose p l y (headSpec ws rm) cc maxL ret e s m args below meth c s₁ → c.maxLocals = maxL → Pc args s →
      W p l e (headSpec ws rm).room s m args below meth c s.heap [] 0 0 (vx_MQ below Qc XC args s mc ms free) (entryFrame m args maxL)) : vx_Met l y ws rm Pc Qc XC mc ms free := by
  refine MetFree.of_bodyS (code := cc) (maxLocals := maxL) (ret := ret) hy ?_ ?_
  · intro args s m h hn
    obtain ⟨m9, meth, c, hn9, h1, h2, h3, h4, -, h5, h6, -⟩ := Cond.codeWith_spec (atoms_spec (ws := ws) h _ (by rw [hw]; exact List.mem_cons_self))
    cases hn.symm.trans hn9
    exact ⟨meth, c, h1, h2, h3, h4, h5, h6⟩
  · intro p e s m args below meth c s₁ B hml hP _
    have hh0 : s₁.heap = s.heap := by rw [B.state]; rfl
    obtain ⟨t, a1, o, b1, b2, b3⟩ := body p e s m args below meth c s₁ B hml hP s₁ hh0 (Stand.of_body B)
    exact ⟨t, o, a1, b1, b2, b3⟩
/-! ===== END ===== -/
/-! ===== BEGIN what the machine throws by itself, no traces kept ===== -/
section VXM
set_option maxHeartbeats 1000000 in
/-- the machine throws cls with the message text, no traces kept: from its note over the frame g to 'throwing' over the same frame (follows the proofs of Stand.vmThrowsMessage, Shelf/KitTracedVmS.lean, and Stand.throwsMessageColdBareV, StandMessageColdV.lean, without the step out of the frame) -/
theorem vx_vmAt {p : Program} {l : Launch} {e : Env} {R : Room} {s : State} {m₀ : MethodId} {args : Array Value} {below : List Frame} {meth : Method} {c : Code} {W : State} {locs : List Loc} {cells slots : Nat}
    (X : Stand p l e R s m₀ args below meth c W locs cells slots) (hexec : p.tables.exec = Jvm.exec) (htr : e.platform.stackTraces = false) {cls : String} {names : List String} {text : String}
    (hcls : Bundle.fit cls = true) (hnames : ∀ n ∈ names, Bundle.fit n = true) (hsoe : (cls == "java/lang/StackOverflowError") = false) (hoom : (cls == "java/lang/OutOfMemoryError") = false)
    (h : ∀ a ∈ Bundle.messageArmAtoms cls names, a.before args s = true)
    (hlocs : ∀ x ∈ locs, ∀ cell, s.heap[x.base]? = some cell → cell.vm.isStatics = false)
    (htext : (text == notModelled) = false) (hlimit : ¬ (stringBytes (stringToUtf16 text)).size > e.platform.arrayLengthLimit) (hheap : ¬ (stringBytes (stringToUtf16 text)).size * componentBytes .byte > e.platform.maxHeapBytes)
    {g : JFrame} (hg : g.method = m₀) (hsize : g.locals.size = c.maxLocals)
    (hRframes : names.length + 4 < R.frames) (hRlocals : 2 * g.monitorRoom + (g.stack.map fun v => v.category).sum + 10240 ≤ R.locals) (hshort : 13 * names.length + 55 ≤ 10240)
    (hRcells : cells + 3 ≤ R.cells) (hRslots : slots + ((stringBytes (stringToUtf16 text)).size + 4 + 6) ≤ R.slots) (hlocks : meth.locks = false) :
    ∃ (S : State) (q : Addr) (ce : Cell), (∀ target, Steps p.tables e below ((S.setTop g).pushFrame (.throwing q)) target → Steps p.tables e below ((W.setTop g).pushFrame (.throwNew cls (some text) none)) target) ∧
      Stand p l e R s m₀ args below meth c S locs (cells + 3) (slots + ((stringBytes (stringToUtf16 text)).size + 4 + 6)) ∧ S.heap[q]? = some ce ∧ s.vm.findClass cls = some ce.cls ∧ ce.vm = .none := by
  have howns : e.platform.frameOwnsMonitors = true := by rw [X.admits.platform]
  have hfin : e.platform.finalization = false := by rw [X.admits.platform]
  have hpl : e.platform.magicAccessors = ({} : Platform).magicAccessors := by rw [X.admits.platform]
  have a : ∀ x, x ∈ Bundle.messageArmAtoms cls names → x.holds args s none s [] = true := fun x hx => h x hx
  obtain ⟨T, Z0, L, -, Y⟩ := ThrowableC.of_atoms (args := args) howns hfin hpl (fun x hx => h x (by simp [Bundle.messageArmAtoms, hx]))
  obtain ⟨Z, M, LZ, LM, hnZ⟩ := Init0T.ofS_atoms (args := args) hpl L Y (fun x hx => h x (by simp [Bundle.messageArmAtoms, hx]))
  obtain ⟨P1, Ps, hlen, L1, hL, hP1m, hlink1, hlink⟩ := Bundle.chainS (args := args) hpl hnZ names cls hcls hnames (fun x hx => h x (by simp [Bundle.messageArmAtoms, hx]))
  obtain ⟨Zs, LZs, hn4, hfitv, hfitc⟩ := StringT.of_atoms (args := args) (fun x hx => h x (by simp [Bundle.messageArmAtoms, hx]))
  have hfound : s.vm.findClass cls = some P1.m.cls := findClass_of_methodNamed hP1m
  obtain ⟨c1, kX, hc1, hk, hord, -, -, hn6⟩ := Cond.instantiable_spec (a (.instantiable cls 6) (by simp [Bundle.messageArmAtoms]))
  cases Option.some.inj (hc1.symm.trans hfound)
  have hinit := Cond.initialized_spec hfound hk (a (.initialized cls) (by simp [Bundle.messageArmAtoms]))
  have hctor : kX.findMethod "<init>" "(Ljava/lang/String;)V" = some P1.m.idx := findMethod_of_methodNamed hP1m hk
  have hsel0 : selectMethod e.platform s.vm P1.m.cls T.fill0 = .method T.fill0 := by
    obtain ⟨c2, r2, m2, q1, q2, q3, q4, -⟩ := Cond.selects_spec (a (.selects cls Bundle.tFill0 Bundle.tFill0) (by simp [Bundle.messageArmAtoms]))
    cases Option.some.inj (q1.symm.trans hfound)
    cases Option.some.inj (q2.symm.trans (State.methodFound?_of_named Y.fill0 (by decide)))
    cases Option.some.inj (q3.symm.trans Y.fill0)
    rw [Launch.admits_selectMethod X.admits]; exact q4
  have hselF : selectMethod e.platform s.vm P1.m.cls T.fill = .method T.fill := by
    obtain ⟨c2, r2, m2, q1, q2, q3, q4, -⟩ := Cond.selects_spec (a (.selects cls Bundle.tFill Bundle.tFill) (by simp [Bundle.messageArmAtoms]))
    cases Option.some.inj (q1.symm.trans hfound)
    cases Option.some.inj (q2.symm.trans (State.methodFound?_of_named Y.fill (by decide)))
    cases Option.some.inj (q3.symm.trans Y.fill)
    rw [Launch.admits_selectMethod X.admits]; exact q4
  obtain ⟨cellS0, hcS0, hiss⟩ := Y.statics
  obtain ⟨u0, hu0⟩ := Cond.staticRefV Y.unassigned L.unassignedStatic L.statics hcS0 hiss (a (.isRef (.static Bundle.tN "UNASSIGNED_STACK" Bundle.steD)) (by simp [Bundle.messageArmAtoms]))
  obtain ⟨sen, hsen⟩ := Cond.staticRefV Y.sentinel L.sentinelStatic L.statics hcS0 hiss (a (.isRef (.static Bundle.tN "SUPPRESSED_SENTINEL" Bundle.listD)) (by simp [Bundle.messageArmAtoms]))
  obtain ⟨ci198, i198, fB, hk198, hg198, ha198, hsB, -, hnB, htB, hffB⟩ := Cond.ownField (t := .object "java/lang/Object") Y.found L.cls (by decide +kernel) (a (.fieldLink Bundle.tN 198 Bundle.tN "backtrace" "Ljava/lang/Object;") (by simp [Bundle.messageArmAtoms])) (a (.lays Bundle.tN Bundle.tN "backtrace" "Ljava/lang/Object;") (by simp [Bundle.messageArmAtoms])) e.platform hpl
  obtain ⟨cellS, hcS', heS, -, hkeep⟩ := X.same.2.2.2.2.2 T.aS cellS0 hcS0
  have hcellS : W.heap[T.aS]? = some cellS := hcS'
  have hout' : ∀ i, (⟨T.aS, i⟩ : Loc) ∉ locs := fun i hmem => by
    have := hlocs _ hmem cellS0 hcS0
    rw [hiss] at this; cases this
  have hknownS : cellS.vm ≠ .unknown := by
    rw [heS]; intro hu
    rw [show cellS0.vm = .unknown from hu] at hiss
    cases hiss
  have hvU : cellS.slots[T.fUnassigned.slot]? = some u0.v := by rw [hkeep _ (hout' _)]; exact hu0
  have hvSen : cellS.slots[T.fSentinel.slot]? = some sen.v := by rw [hkeep _ (hout' _)]; exact hsen
  obtain ⟨iM, hffM⟩ := Y.msg
  obtain ⟨tyC, dC, hdC, hdnC⟩ := Cond.laysAt hfound hk Y.cause (a (.lays cls Bundle.tN "cause" "Ljava/lang/Throwable;") (by simp [Bundle.messageArmAtoms]))
  obtain ⟨tyS, dS, hdS, hdnS⟩ := Cond.laysAt hfound hk Y.stack (a (.lays cls Bundle.tN "stackTrace" Bundle.steD) (by simp [Bundle.messageArmAtoms]))
  obtain ⟨tyP, dP, hdP, hdnP⟩ := Cond.laysAt hfound hk Y.supp (a (.lays cls Bundle.tN "suppressedExceptions" Bundle.listD) (by simp [Bundle.messageArmAtoms]))
  obtain ⟨tyM, dM, hdM, hdnM⟩ := Cond.laysAt hfound hk hffM (a (.lays cls Bundle.tN "detailMessage" "Ljava/lang/String;") (by simp [Bundle.messageArmAtoms]))
  obtain ⟨tyB, dB, hdB, hdnB⟩ := Cond.laysAt hfound hk hffB (a (.lays cls Bundle.tN "backtrace" "Ljava/lang/Object;") (by simp [Bundle.messageArmAtoms]))
  have bC := Cond.laysApart hdB hdC hdnB hdnC (by rw [hnB, Y.causeName]; decide)
  have bS := Cond.laysApart hdB hdS hdnB hdnS (by rw [hnB, Y.stackName]; decide)
  have bP := Cond.laysApart hdB hdP hdnB hdnP (by rw [hnB, Y.suppName]; decide)
  have hbk : ((preparedCellV T.toThrowableT (freshCell P1.m.cls kX) (W.heap.size + 2) u0 sen).withEntry W.cur).slots[fB.slot]? = some .null := by
    have := fresh_default (c := P1.m.cls) tyB
    rw [htB] at this
    simpa [preparedCellV, Cell.setSlot, Cell.withEntry, Array.getElem?_setIfInBounds, bC, bS, bP, bC.symm, bS.symm, bP.symm, defaultValue] using this
  have tkC := Takes.of_laid (v := .ref (W.heap.size + 2)) hk hord tyC (by rw [Y.causeType]; rfl)
  have tkS := Takes.of_laid (v := u0.v) hk hord tyS (by rw [Y.stackType]; exact fits_refV_array _ u0)
  have tkP := Takes.of_laid (v := sen.v) hk hord tyP (by rw [Y.suppType]; exact fits_refV_object _ sen)
  have tkM := Takes.of_laid (v := .ref (W.heap.size + 1)) hk hord tyM (by rw [Y.msgType]; rfl)
  have hskip : SkipFacts T e.platform s (fun u => u) u0 ((preparedCellV T.toThrowableT (freshCell P1.m.cls kX) (W.heap.size + 2) u0 sen).withEntry W.cur) := ⟨{ ci198 := ci198, i198 := i198, fBack := fB }, ⟨hk198, hg198, ha198, hsB⟩, hbk, fun _ _ => rfl⟩
  have h0 : At W g.method c below := by rw [hg]; exact X.here
  obtain ⟨hbeyond, hfreeW⟩ := X.vmMayThrow hsize (.throwNew cls (some text) none) (fun f hf => by cases hf) rfl hRlocals
  have hfr' : W.frames.length + Ps.length + 4 < (e.platform.stackLimits W.me).1 := by have := X.framesAbove hRframes; omega
  have hwd' : (stackUse (.java g :: W.frames.tail)).2 + 13 * Ps.length + 55 ≤ (e.platform.stackLimits W.me).2 := by have := X.stackAbove hsize (K := 13 * Ps.length + 55) (by omega); omega
  have hslots : W.slotsUsed + (stringBytes (stringToUtf16 text)).size + Zs.kS.instanceTypes.size + kX.instanceTypes.size ≤ e.platform.maxSlots := by
    have := X.slotsAbove hRslots
    rw [hn4, hn6]
    omega
  obtain ⟨vm', hW', st⟩ := Steps.vmThrowsMessageColdByV p (s₀ := s) (S := W) (g := g) h0 hexec T L Z LZ M LM X.warmed (t := W.cur) rfl Zs LZs P1 L1 Ps hL hlink1 hlink hsoe hoom hfound hk hinit hord hctor
    (Launch.admits_hotImplicitExceptions X.admits) hbeyond hfreeW htext hlimit hheap (X.cellsAbove hRcells) hslots (hfitv _) (hfitc _)
    (Nn := fun u => u) heapOnly_id (fun _ _ => rfl) (fun _ => rfl) (fun u x y => setCell_twice _ _ _ _) (fun _ => Nat.le_refl _) (cN := ((preparedCellV T.toThrowableT (freshCell P1.m.cls kX) (W.heap.size + 2) u0 sen).withEntry W.cur))
    hsel0 hcellS hknownS hvU tkS (fun _ hu => hu) (fun _ hu => hu) rfl rfl rfl (by simp [preparedCellV, Cell.setSlot, Cell.withEntry]) hskip (fun _ _ hA hW _ hroom _ hrest => L.nativeOff p htr hA hW hroom hrest) hselF hvSen tkC tkP tkM Y.objLocals rfl hfr' hwd'
  rw [plainBareV_eq T.toThrowableT (W.heap.size + 2) u0 sen (.ref (W.heap.size + 1)) W.cur rfl rfl] at st
  obtain ⟨-, -, w3, w4, -, -, -⟩ := withThrown_facts e.platform W Zs text P1.m.cls kX
  have X3 := ((X.pushed (bytesOf Zs.cB (stringToUtf16 text))).pushed (stringAt Zs.cS Zs.kS Zs.fv Zs.fc (stringToUtf16 text) W.heap.size)).pushed (freshCell P1.m.cls kX)
  rw [← withString_eq] at X3
  have X4 := X3.noted hW'
  have ha : (W.heap.size + 2) < ((withThrown W Zs text P1.m.cls kX).setVm vm').heap.size := by show _ < (withThrown W Zs text P1.m.cls kX).heap.size; rw [w3]; omega
  have hcell : ((withThrown W Zs text P1.m.cls kX).setVm vm').heap[(W.heap.size + 2)]? = some (freshCell P1.m.cls kX) := w4
  have X5 := ((((X4.stored hcell T.fCause.slot (.ref (W.heap.size + 2))).storedAgain ha T.fStack.slot u0.v).storedAgain ha T.fSupp.slot sen.v).storedAgain ha T.fStack.slot u0.v).storedAgain ha T.fMsg.slot (.ref (W.heap.size + 1))
  obtain ⟨g₁, hfrM⟩ := X5.frames_eq
  have hU : ((((withThrown W Zs text P1.m.cls kX).setVm vm').setCell (W.heap.size + 2) (plainBareV T.toThrowableT (freshCell P1.m.cls kX) (W.heap.size + 2) u0 sen (.ref (W.heap.size + 1)))).setTop g).pushFrame (.throwing (W.heap.size + 2)) = (((withThrown W Zs text P1.m.cls kX).setVm vm').setCell (W.heap.size + 2) (plainBareV T.toThrowableT (freshCell P1.m.cls kX) (W.heap.size + 2) u0 sen (.ref (W.heap.size + 1)))).setFrames (.throwing (W.heap.size + 2) :: .java g :: below) := by
    rw [State.pushFrame, State.frames_setTop _ hfrM, State.setTop_of_frames _ hfrM, State.setFrames_setFrames]
  have b1 : (bytesOf Zs.cB (stringToUtf16 text)).slots.size = (stringBytes (stringToUtf16 text)).size := by
    rw [(Cell.writeAll_facts _ _).2.2]; simp [bytes0]
  have b2 : (stringAt Zs.cS Zs.kS Zs.fv Zs.fc (stringToUtf16 text) W.heap.size).slots.size = 4 := by simp [string0, Cell.setSlot, hn4]
  have b3 : (freshCell P1.m.cls kX).slots.size = 6 := by simp [hn6]
  rw [b1, b2, b3] at X5
  have e9 : slots + (stringBytes (stringToUtf16 text)).size + 4 + 6 = slots + ((stringBytes (stringToUtf16 text)).size + 4 + 6) := by omega
  rw [e9] at X5
  simp only [List.append_assoc, List.cons_append, List.nil_append] at X5
  refine ⟨((withThrown W Zs text P1.m.cls kX).setVm vm').setCell (W.heap.size + 2) (plainBareV T.toThrowableT (freshCell P1.m.cls kX) (W.heap.size + 2) u0 sen (.ref (W.heap.size + 1))), W.heap.size + 2, _, fun target ht => st _ (by rw [X.tail, ← hU]; exact ht),
    X5.forget (fun y hy => ?_), heapAt_setCell_self _ ha, hfound, rfl⟩
  simp only [List.mem_cons, List.not_mem_nil, or_false] at hy
  have hge : s.heap.size ≤ W.heap.size := X.same.2.1
  rcases hy with rfl | rfl | rfl | rfl | rfl <;> exact Nat.le_trans hge (Nat.le_add_right _ 2)
set_option maxHeartbeats 1000000 in
/-- the machine throws NullPointerException, no traces kept: from its note over the frame g to 'throwing' over the same frame (follows the proof of Stand.vmThrowsNpe, Shelf42/KT2.lean; throwsNpeColdBareVAt, Shelf42/NT91.lean, called) -/
theorem vx_npeAt {p : Program} {l : Launch} {e : Env} {R : Room} {s : State} {m₀ : MethodId} {args : Array Value} {below : List Frame} {meth : Method} {c : Code} {W : State} {locs : List Loc} {cells slots : Nat}
    (X : Stand p l e R s m₀ args below meth c W locs cells slots) (hexec : p.tables.exec = Jvm.exec) (htr : e.platform.stackTraces = false) {n : Nat}
    (h : ∀ a ∈ Bundle.npeArmAtoms n, a.before args s = true)
    (hlocs : ∀ x ∈ locs, ∀ cell, s.heap[x.base]? = some cell → cell.vm.isStatics = false)
    {g : JFrame} (hg : g.method = m₀) (hsize : g.locals.size = c.maxLocals)
    (hRframes : 7 < R.frames) (hRlocals : 2 * g.monitorRoom + (g.stack.map fun v => v.category).sum + 10240 ≤ R.locals)
    (hRcells : cells + 1 ≤ R.cells) (hRslots : slots + n ≤ R.slots) (hlocks : meth.locks = false) :
    ∃ (S : State) (q : Addr) (ce : Cell), (∀ target, Steps p.tables e below ((S.setTop g).pushFrame (.throwing q)) target → Steps p.tables e below ((W.setTop g).pushFrame (.throwNew "java/lang/NullPointerException" none none)) target) ∧
      Stand p l e R s m₀ args below meth c S locs (cells + 1) (slots + n) ∧ S.heap[q]? = some ce ∧ s.vm.findClass "java/lang/NullPointerException" = some ce.cls ∧ ce.vm = .none := by
  have howns : e.platform.frameOwnsMonitors = true := by rw [X.admits.platform]
  have hfin : e.platform.finalization = false := by rw [X.admits.platform]
  have hpl : e.platform.magicAccessors = ({} : Platform).magicAccessors := by rw [X.admits.platform]
  have hpl2 : e.platform.arrayCloneIsPublic = true := by rw [X.admits.platform]
  have a' : ∀ x, x ∈ Bundle.npeArmAtoms n → x.holds args s none s [] = true := fun x hx => h x hx
  obtain ⟨T, Z, L, LZ, Y⟩ := ThrowableC.of_atoms (args := args) howns hfin hpl (fun x hx => h x (by simp [Bundle.npeArmAtoms, hx]))
  obtain ⟨N, LN, hcN, hnNF, hordN, hffS⟩ := NpeC.of_atoms (args := args) hpl hpl2 L Y (fun x hx => h x (by simp [Bundle.npeArmAtoms, hx]))
  obtain ⟨P1, L1, hP1m, hP1s⟩ := PassC.of_atoms (args := args) (s := s) hpl (X := Bundle.nN) (Y := Bundle.rN) (by decide) (by decide) LibCode.NullPointerException.Init0.at_0 LibCode.NullPointerException.Init0.at_1 LibCode.NullPointerException.Init0.at_4 (fun x hx => h x (by simp [Bundle.npeArmAtoms, hx]))
  obtain ⟨PR, LR, hPRm, hPRs⟩ := PassC.of_atoms (args := args) (s := s) hpl (X := Bundle.rN) (Y := Bundle.eN) (by decide) (by decide) LibCode.RuntimeException.Init0.at_0 LibCode.RuntimeException.Init0.at_1 LibCode.RuntimeException.Init0.at_4 (fun x hx => h x (by simp [Bundle.npeArmAtoms, hx]))
  obtain ⟨PE, LEx, hPEm, hPEs⟩ := PassC.of_atoms (args := args) (s := s) hpl (X := Bundle.eN) (Y := Bundle.tN) (by decide) (by decide) LibCode.Exception.Init0.at_0 LibCode.Exception.Init0.at_1 LibCode.Exception.Init0.at_4 (fun x hx => h x (by simp [Bundle.npeArmAtoms, hx]))
  have hfound : s.vm.findClass Bundle.nN = some P1.m.cls := findClass_of_methodNamed hP1m
  have ecls : N.cN = P1.m.cls := Option.some.inj (hcN.symm.trans hfound)
  have hk : s.vm.classes[P1.m.cls]? = some N.kN := by rw [← ecls]; exact LN.cls
  have hinit := Cond.initialized_spec hfound hk (a' (.initialized Bundle.nN) (by simp [Bundle.npeArmAtoms]))
  have hctor : N.kN.findMethod "<init>" "()V" = some P1.m.idx := findMethod_of_methodNamed hP1m hk
  obtain ⟨c1, k1, hc1, hk1, -, -, -, hn⟩ := Cond.instantiable_spec (a' (.instantiable Bundle.nN n) (by simp [Bundle.npeArmAtoms]))
  cases Option.some.inj (hc1.symm.trans hfound)
  cases Option.some.inj (hk1.symm.trans hk)
  have hfsz : (freshCell P1.m.cls N.kN).slots.size = n := by simp [hn]
  have hlink1 : P1.sup = PR.m := Option.some.inj (hP1s.symm.trans hPRm)
  have hlinkR : PR.sup = PE.m := Option.some.inj (hPRs.symm.trans hPEm)
  have hlinkE : PE.sup = Z.m T.toThrowableT := Option.some.inj (hPEs.symm.trans Y.init0)
  have hLs : ∀ P, P ∈ [PR, PE] → P.Links0 e.platform s := fun P hP => by
    simp only [List.mem_cons, List.not_mem_nil, or_false] at hP
    rcases hP with rfl | rfl
    · exact LR
    · exact LEx
  have hsel0 : selectMethod e.platform s.vm P1.m.cls T.fill0 = .method T.fill0 := by
    obtain ⟨c2, r2, m2, q1, q2, q3, q4, -⟩ := Cond.selects_spec (a' (.selects Bundle.nN Bundle.tFill0 Bundle.tFill0) (by simp [Bundle.npeArmAtoms]))
    cases Option.some.inj (q1.symm.trans hfound)
    cases Option.some.inj (q2.symm.trans (State.methodFound?_of_named Y.fill0 (by decide)))
    cases Option.some.inj (q3.symm.trans Y.fill0)
    rw [Launch.admits_selectMethod X.admits]; exact q4
  have hselF : selectMethod e.platform s.vm P1.m.cls T.fill = .method N.fill := by
    obtain ⟨c2, r2, m2, q1, q2, q3, q4, -⟩ := Cond.selects_spec (a' (.selects Bundle.nN Bundle.tFill Bundle.nFill) (by simp [Bundle.npeArmAtoms]))
    cases Option.some.inj (q1.symm.trans hfound)
    cases Option.some.inj (q2.symm.trans (State.methodFound?_of_named Y.fill (by decide)))
    cases Option.some.inj (q3.symm.trans hnNF)
    rw [Launch.admits_selectMethod X.admits]; exact q4
  obtain ⟨cellS0, hcS0, hiss⟩ := Y.statics
  obtain ⟨u0, hu0⟩ := Cond.staticRefV Y.unassigned L.unassignedStatic L.statics hcS0 hiss (a' (.isRef (.static Bundle.tN "UNASSIGNED_STACK" Bundle.steD)) (by simp [Bundle.npeArmAtoms]))
  obtain ⟨sen, hsen⟩ := Cond.staticRefV Y.sentinel L.sentinelStatic L.statics hcS0 hiss (a' (.isRef (.static Bundle.tN "SUPPRESSED_SENTINEL" Bundle.listD)) (by simp [Bundle.npeArmAtoms]))
  obtain ⟨ci198, i198, fB, hk198, hg198, ha198, hsB, -, hnB, htB, hffB⟩ := Cond.ownField (t := .object "java/lang/Object") Y.found L.cls (by decide +kernel) (a' (.fieldLink Bundle.tN 198 Bundle.tN "backtrace" Bundle.objD) (by simp [Bundle.npeArmAtoms])) (a' (.lays Bundle.tN Bundle.tN "backtrace" Bundle.objD) (by simp [Bundle.npeArmAtoms])) e.platform hpl
  obtain ⟨cellS, hcS', heS, -, hkeep⟩ := X.same.2.2.2.2.2 T.aS cellS0 hcS0
  have hcellS : W.heap[T.aS]? = some cellS := hcS'
  have hout' : ∀ i, (⟨T.aS, i⟩ : Loc) ∉ locs := fun i hmem => by
    have := hlocs _ hmem cellS0 hcS0
    rw [hiss] at this; cases this
  have hknownS : cellS.vm ≠ .unknown := by
    rw [heS]; intro hu
    rw [show cellS0.vm = .unknown from hu] at hiss
    cases hiss
  have hvU : cellS.slots[T.fUnassigned.slot]? = some u0.v := by rw [hkeep _ (hout' _)]; exact hu0
  have hvSen : cellS.slots[T.fSentinel.slot]? = some sen.v := by rw [hkeep _ (hout' _)]; exact hsen
  obtain ⟨tyC, dC, hdC, hdnC⟩ := Cond.laysAt hfound hk Y.cause (a' (.lays Bundle.nN Bundle.tN "cause" "Ljava/lang/Throwable;") (by simp [Bundle.npeArmAtoms]))
  obtain ⟨tyS, dS, hdS, hdnS⟩ := Cond.laysAt hfound hk Y.stack (a' (.lays Bundle.nN Bundle.tN "stackTrace" Bundle.steD) (by simp [Bundle.npeArmAtoms]))
  obtain ⟨tyP, dP, hdP, hdnP⟩ := Cond.laysAt hfound hk Y.supp (a' (.lays Bundle.nN Bundle.tN "suppressedExceptions" Bundle.listD) (by simp [Bundle.npeArmAtoms]))
  obtain ⟨tyX, dX, hdX, hdnX⟩ := Cond.laysAt hfound hk hffS (a' (.lays Bundle.nN Bundle.nN "extendedMessageState" "I") (by simp [Bundle.npeArmAtoms, Bundle.npeAtoms]))
  obtain ⟨hnX, htX⟩ := State.fieldFound?_type hffS (t := .int) (by decide +kernel)
  have xC := Cond.laysApart hdC hdX hdnC hdnX (by rw [hnX, Y.causeName]; decide)
  have xS := Cond.laysApart hdS hdX hdnS hdnX (by rw [hnX, Y.stackName]; decide)
  have xP := Cond.laysApart hdP hdX hdnP hdnX (by rw [hnX, Y.suppName]; decide)
  have hv0 : (freshCell P1.m.cls N.kN).slots[N.fState.slot]? = some (.int 0) := by
    have := fresh_default (c := P1.m.cls) tyX
    rw [htX] at this; exact this
  obtain ⟨tyB, dB, hdB, hdnB⟩ := Cond.laysAt hfound hk hffB (a' (.lays Bundle.nN Bundle.tN "backtrace" Bundle.objD) (by simp [Bundle.npeArmAtoms]))
  have bC := Cond.laysApart hdB hdC hdnB hdnC (by rw [hnB, Y.causeName]; decide)
  have bS := Cond.laysApart hdB hdS hdnB hdnS (by rw [hnB, Y.stackName]; decide)
  have bP := Cond.laysApart hdB hdP hdnB hdnP (by rw [hnB, Y.suppName]; decide)
  have bX := Cond.laysApart hdB hdX hdnB hdnX (by rw [hnB, hnX]; decide)
  have hbk : ((npeCell N.toNpeT (preparedCellV T.toThrowableT (freshCell P1.m.cls N.kN) W.heap.size u0 sen) W.cur).withEntry W.cur).slots[fB.slot]? = some .null := by
    have := fresh_default (c := P1.m.cls) tyB
    rw [htB] at this
    simpa [npeCell, preparedCellV, Cell.setSlot, Cell.withEntry, Array.getElem?_setIfInBounds, bC, bS, bP, bX, bC.symm, bS.symm, bP.symm, bX.symm, defaultValue] using this
  have tkC := Takes.of_laid (v := .ref W.heap.size) hk hordN tyC (by rw [Y.causeType]; rfl)
  have tkS := Takes.of_laid (v := u0.v) hk hordN tyS (by rw [Y.stackType]; exact fits_refV_array _ u0)
  have tkP := Takes.of_laid (v := sen.v) hk hordN tyP (by rw [Y.suppType]; exact fits_refV_object _ sen)
  have tkX := Takes.of_laid (v := .int 1) hk hordN tyX (by rw [htX]; rfl)
  have hskip : SkipFacts T e.platform s (fun u => u) u0 ((npeCell N.toNpeT (preparedCellV T.toThrowableT (freshCell P1.m.cls N.kN) W.heap.size u0 sen) W.cur).withEntry W.cur) := ⟨{ ci198 := ci198, i198 := i198, fBack := fB }, ⟨hk198, hg198, ha198, hsB⟩, hbk, fun _ _ => rfl⟩
  obtain ⟨vm', X3, st, -⟩ := X.throwsNpeColdBareVAt hexec hg hsize T L Z LZ N LN P1 L1 [PR, PE] hLs hlink1 ⟨hlinkR, hlinkE, trivial⟩ hfound hk hinit hordN hctor hsel0 hselF hcellS hknownS hvU hvSen
    hv0 xC xS xP tkC tkS tkP tkX Y.objLocals hskip (fun _ _ hA hW _ hroom _ hrest => L.nativeOff p htr hA hW hroom hrest) (by simpa using hRframes) hRlocals (by simp) hRcells (by rw [hn]; exact hRslots)
  have hlt : W.heap.size < ((W.pushCell (freshCell P1.m.cls N.kN)).setVm vm').heap.size := by
    show W.heap.size < (W.pushCell (freshCell P1.m.cls N.kN)).heap.size
    rw [State.heap_size_pushCell]; omega
  rw [hfsz] at X3
  obtain ⟨g₁, hfrM⟩ := X3.frames_eq
  have hU : ((((W.pushCell (freshCell P1.m.cls N.kN)).setVm vm').setCell W.heap.size (npeBareV T.toThrowableT N.toNpeT (freshCell P1.m.cls N.kN) W.heap.size u0 sen)).setTop g).pushFrame (.throwing W.heap.size) = (((W.pushCell (freshCell P1.m.cls N.kN)).setVm vm').setCell W.heap.size (npeBareV T.toThrowableT N.toNpeT (freshCell P1.m.cls N.kN) W.heap.size u0 sen)).setFrames (.throwing W.heap.size :: .java g :: below) := by
    rw [State.pushFrame, State.frames_setTop _ hfrM, State.setTop_of_frames _ hfrM, State.setFrames_setFrames]
  refine ⟨_, W.heap.size, _, fun target ht => st.trans (by rw [← hU]; exact ht), X3.forget (fun y hy => ?_), heapAt_setCell_self _ hlt, hfound, rfl⟩
  simp only [List.mem_cons, List.not_mem_nil, or_false] at hy
  have hge : s.heap.size ≤ W.heap.size := X.same.2.1
  rcases hy with rfl | rfl | rfl | rfl | rfl <;> exact hge
/-- the words of a machine's NullPointerException, but the four that speak of the heap -/
def vx_atN (n : Nat) : List Cond := (Bundle.npeArmAtoms n).filter vx_no
/-- the words of a machine's throw with a message, but the four that speak of the heap -/
def vx_atM (X : String) (names : List String) : List Cond := (Bundle.messageArmAtoms X names).filter vx_no
section
variable {p : Program} {l : Launch} {e : Env} {R : Room} {s : State} {m : MethodId} {args : Array Value} {below : List Frame} {meth : Method} {c : Code} {H : Heap} {locs : List Loc} {cells slots : Nat}
/-- a frame seen from a rebased start, seen from the first start again -/
theorem vx_back9 {T S : State} {R' : Room} {k n : Nat} (X : Stand p l e R s m args below meth c T locs cells slots) (Y : Stand p l e R' ((T.setVm s.vm).setFrames (.invoking m args :: below)) m args below meth c T [] 0 0) (Z : Stand p l e R' ((T.setVm s.vm).setFrames (.invoking m args :: below)) m args below meth c S [] k n) :
    Stand p l e R s m args below meth c S locs (cells + k) (slots + n) := by
  have hW0 : s.WarmedH ((T.setVm s.vm).setFrames (.invoking m args :: below)).vm := State.WarmedH.refl s
  refine { admits := X.admits, cas := X.cas, clock := X.clock, frames := X.frames, room := X.room, hears := X.hears, method := X.method, code := X.code, here := Z.here, tail := Z.tail, warmed := State.WarmedH.trans hW0 Z.warmed, limits := Z.limits.trans (Y.limits.symm.trans X.limits), bytes := Z.bytes.trans (Y.bytes.symm.trans X.bytes), same := ?_ }
  obtain ⟨e1, e2⟩ := Z.same
  rw [State.setFrames_setFrames] at e1
  have h2 : (T.setVm s.vm).sameButNew (S.setVm s.vm) [] k n := ⟨e1, e2⟩
  have h3 := X.same.trans h2
  rw [List.append_nil] at h3
  exact h3
/-- from the machine's note that E is thrown here with this text -/
def vx_Note (p : Program) (l : Launch) (e : Env) (R : Room) (s : State) (m : MethodId) (args : Array Value) (below : List Frame) (meth : Method) (c : Code) (H : Heap) (locs : List Loc) (cells slots : Nat) (Q : State → Prop) (g : JFrame) (E text : String) : Prop :=
  ∀ T : State, T.heap = H → Stand p l e R s m args below meth c T locs cells slots → ∃ t, Steps p.tables e below ((T.setTop g).pushFrame (.throwNew E (some text) none)) t ∧ Q t
theorem vx_vm {pc : Nat} {ls : Array Slot} {rest : List Value} {Q : State → Prop} (hexec : p.tables.exec = Jvm.exec) (hl : l.stackTraces = false) {cls text : String} {names : List String} {nb : Nat} {A : Nat → Prop}
    (hcls : Bundle.fit cls = true) (hnames : ∀ n ∈ names, Bundle.fit n = true) (hsoe : (cls == "java/lang/StackOverflowError") = false) (hoom : (cls == "java/lang/OutOfMemoryError") = false)
    (hat : ∀ w ∈ vx_atM cls names, w.before args s = true) (hgood : ∀ w ∈ vx_atM cls names, vx_ot w = true)
    (hU : vx_Zq Bundle.tN "UNASSIGNED_STACK" Bundle.steD A s s.heap) (hN : vx_Zq Bundle.tN "SUPPRESSED_SENTINEL" Bundle.listD A s s.heap) (hS : va_S A s.heap H locs) (hsize : ls.size = c.maxLocals)
    (htext : (text == notModelled) = false) (hnb : (stringBytes (stringToUtf16 text)).size ≤ nb) (hnb1 : nb ≤ 1000)
    (hRframes : names.length + 4 < R.frames) (hRlocals : (rest.map fun v => v.category).sum + 10240 ≤ R.locals) (hshort : 13 * names.length + 55 ≤ 10240) (hRcells : cells + 3 ≤ R.cells) (hRslots : slots + (nb + 10) ≤ R.slots) (hlocks : meth.locks = false)
    (k : ∀ (H1 : Heap) (q9 : Addr) (ce : Cell), H.size ≤ H1.size → (∀ q : Nat, q < H.size → H1[q]? = H[q]?) → va_S A s.heap H1 locs → H1[q9]? = some ce → ce.vm = .none → s.vm.findClass cls = some ce.cls → vx_W p l e R s m args below meth c H1 locs (cells + 3) (slots + (nb + 10)) Q (F0 m pc ls rest) q9) :
    vx_Note p l e R s m args below meth c H locs cells slots Q (F0 m pc ls rest) cls text := by
  intro T hT X
  have htr : e.platform.stackTraces = false := (show e.platform.stackTraces = l.stackTraces by rw [X.admits.platform]).trans hl
  have Y := vx_rebase X (R' := { frames := R.frames, locals := R.locals, cells := 3, slots := nb + 10 }) (Nat.le_refl _) (Nat.le_refl _) hRcells hRslots
  have hhp : ((T.setVm s.vm).setFrames (.invoking m args :: below)).heap = H := hT
  have hW0 : s.WarmedH ((T.setVm s.vm).setFrames (.invoking m args :: below)).vm := State.WarmedH.refl s
  have hat' : ∀ w ∈ vx_atM cls names, w.before args ((T.setVm s.vm).setFrames (.invoking m args :: below)) = true := fun w hw => vx_ot_at hW0 rfl (hgood w hw) (hat w hw)
  have hU' : vx_Zq Bundle.tN "UNASSIGNED_STACK" Bundle.steD A ((T.setVm s.vm).setFrames (.invoking m args :: below)) ((T.setVm s.vm).setFrames (.invoking m args :: below)).heap := by rw [hhp]; exact vx_Zq.moved hW0.alike (hU.kept hS.2.1)
  have hN' : vx_Zq Bundle.tN "SUPPRESSED_SENTINEL" Bundle.listD A ((T.setVm s.vm).setFrames (.invoking m args :: below)) ((T.setVm s.vm).setFrames (.invoking m args :: below)).heap := by rw [hhp]; exact vx_Zq.moved hW0.alike (hN.kept hS.2.1)
  obtain ⟨S, q, ce, st, Z, hce, hcl', hv⟩ := vx_vmAt Y hexec htr (cls := cls) (names := names) (text := text) hcls hnames hsoe hoom (vx_own hat' (vx_isRefq hU'.1) (vx_isRefq hN'.1) hU'.2.word hN'.2.word) (fun x hx => nomatch hx) htext
    (by rw [Launch.admits_arrayLengthLimit X.admits]; omega) (by rw [Launch.admits_maxHeapBytes X.admits]; simp only [componentBytes]; omega)
    (g := F0 m pc ls rest) rfl hsize hRframes (by show 2 * 0 + (rest.map fun v => v.category).sum + 10240 ≤ R.locals; omega) hshort (by show 0 + 3 ≤ 3; omega) (by show 0 + (_ + 4 + 6) ≤ nb + 10; omega) hlocks
  obtain ⟨f1, f2⟩ := vx_frame Z.same
  have f1' : H.size ≤ S.heap.size := by rw [← hT]; exact f1
  have f2' : ∀ q : Nat, q < H.size → S.heap[q]? = H[q]? := fun q hq => by
    rw [← hT]
    exact f2 q (by rw [← hT] at hq; exact hq) (fun z hz => nomatch hz)
  have X5 := vx_back9 X Y Z
  have X6 : Stand p l e R s m args below meth c S locs (cells + 3) (slots + (nb + 10)) := { X5 with same := X5.same.mono (by omega) (by omega) }
  obtain ⟨t, a1, b1⟩ := k S.heap q ce f1' f2' ⟨Nat.le_trans hS.1 f1', fun q h1 h2 => (f2' q (Nat.lt_of_lt_of_le h1 hS.1)).trans (hS.2.1 q h1 h2), hS.2.2⟩ hce hv hcl' S rfl X6
  exact ⟨t, st t a1, b1⟩
/-- from the machine's note that NullPointerException is thrown here -/
def vx_NoteN (p : Program) (l : Launch) (e : Env) (R : Room) (s : State) (m : MethodId) (args : Array Value) (below : List Frame) (meth : Method) (c : Code) (H : Heap) (locs : List Loc) (cells slots : Nat) (Q : State → Prop) (g : JFrame) : Prop :=
  ∀ T : State, T.heap = H → Stand p l e R s m args below meth c T locs cells slots → ∃ t, Steps p.tables e below ((T.setTop g).pushFrame (.throwNew "java/lang/NullPointerException" none none)) t ∧ Q t
theorem vx_npe {pc : Nat} {ls : Array Slot} {rest : List Value} {Q : State → Prop} (hexec : p.tables.exec = Jvm.exec) (hl : l.stackTraces = false) {nb : Nat} {A : Nat → Prop}
    (hat : ∀ w ∈ vx_atN nb, w.before args s = true) (hgood : ∀ w ∈ vx_atN nb, vx_ot w = true)
    (hU : vx_Zq Bundle.tN "UNASSIGNED_STACK" Bundle.steD A s s.heap) (hN : vx_Zq Bundle.tN "SUPPRESSED_SENTINEL" Bundle.listD A s s.heap) (hS : va_S A s.heap H locs) (hsize : ls.size = c.maxLocals)
    (hRframes : 7 < R.frames) (hRlocals : (rest.map fun v => v.category).sum + 10240 ≤ R.locals) (hRcells : cells + 1 ≤ R.cells) (hRslots : slots + nb ≤ R.slots) (hlocks : meth.locks = false)
    (k : ∀ (H1 : Heap) (q9 : Addr) (ce : Cell), H.size ≤ H1.size → (∀ q : Nat, q < H.size → H1[q]? = H[q]?) → va_S A s.heap H1 locs → H1[q9]? = some ce → ce.vm = .none → s.vm.findClass "java/lang/NullPointerException" = some ce.cls → vx_W p l e R s m args below meth c H1 locs (cells + 1) (slots + nb) Q (F0 m pc ls rest) q9) :
    vx_NoteN p l e R s m args below meth c H locs cells slots Q (F0 m pc ls rest) := by
  intro T hT X
  have htr : e.platform.stackTraces = false := (show e.platform.stackTraces = l.stackTraces by rw [X.admits.platform]).trans hl
  have Y := vx_rebase X (R' := { frames := R.frames, locals := R.locals, cells := 1, slots := nb }) (Nat.le_refl _) (Nat.le_refl _) hRcells hRslots
  have hhp : ((T.setVm s.vm).setFrames (.invoking m args :: below)).heap = H := hT
  have hW0 : s.WarmedH ((T.setVm s.vm).setFrames (.invoking m args :: below)).vm := State.WarmedH.refl s
  have hat' : ∀ w ∈ vx_atN nb, w.before args ((T.setVm s.vm).setFrames (.invoking m args :: below)) = true := fun w hw => vx_ot_at hW0 rfl (hgood w hw) (hat w hw)
  have hU' : vx_Zq Bundle.tN "UNASSIGNED_STACK" Bundle.steD A ((T.setVm s.vm).setFrames (.invoking m args :: below)) ((T.setVm s.vm).setFrames (.invoking m args :: below)).heap := by rw [hhp]; exact vx_Zq.moved hW0.alike (hU.kept hS.2.1)
  have hN' : vx_Zq Bundle.tN "SUPPRESSED_SENTINEL" Bundle.listD A ((T.setVm s.vm).setFrames (.invoking m args :: below)) ((T.setVm s.vm).setFrames (.invoking m args :: below)).heap := by rw [hhp]; exact vx_Zq.moved hW0.alike (hN.kept hS.2.1)
  obtain ⟨S, q, ce, st, Z, hce, hcl', hv⟩ := vx_npeAt Y hexec htr (n := nb) (vx_own hat' (vx_isRefq hU'.1) (vx_isRefq hN'.1) hU'.2.word hN'.2.word) (fun x hx => nomatch hx)
    (g := F0 m pc ls rest) rfl hsize hRframes (by show 2 * 0 + (rest.map fun v => v.category).sum + 10240 ≤ R.locals; omega) (by show 0 + 1 ≤ 1; omega) (by show 0 + nb ≤ nb; omega) hlocks
  obtain ⟨f1, f2⟩ := vx_frame Z.same
  have f1' : H.size ≤ S.heap.size := by rw [← hT]; exact f1
  have f2' : ∀ q : Nat, q < H.size → S.heap[q]? = H[q]? := fun q hq => by
    rw [← hT]
    exact f2 q (by rw [← hT] at hq; exact hq) (fun z hz => nomatch hz)
  have X5 := vx_back9 X Y Z
  have X6 : Stand p l e R s m args below meth c S locs (cells + 1) (slots + nb) := { X5 with same := X5.same.mono (by omega) (by omega) }
  obtain ⟨t, a1, b1⟩ := k S.heap q ce f1' f2' ⟨Nat.le_trans hS.1 f1', fun q h1 h2 => (f2' q (Nat.lt_of_lt_of_le h1 hS.1)).trans (hS.2.1 q h1 h2), hS.2.2⟩ hce hv hcl' S rfl X6
  exact ⟨t, st t a1, b1⟩
variable {Q : State → Prop} {cc : ByteArray} {pc : Nat} {ls : Array Slot} {rest : List Value}
theorem vx_idivZ (hexec : p.tables.exec = Jvm.exec) (hb : c.code = cc) {a b : Int32} (h0 : b = 0) (d : decode cc pc = .ok (.idiv, 1)) (k : vx_Note p l e R s m args below meth c H locs cells slots Q (F0 m pc ls rest) "java/lang/ArithmeticException" "/ by zero") :
    W p l e R s m args below meth c H locs cells slots Q (F0 m pc ls (.int b :: .int a :: rest)) := by
  intro T hT X
  obtain ⟨t, st, q⟩ := k T hT X
  exact ⟨t, X.idivZero hexec (g := F0 m pc ls (.int b :: .int a :: rest)) rfl (a := a) (rest := rest) (by rw [h0]) (by rw [hb]; exact d) t st, q⟩
theorem vx_iremZ (hexec : p.tables.exec = Jvm.exec) (hb : c.code = cc) {a b : Int32} (h0 : b = 0) (d : decode cc pc = .ok (.irem, 1)) (k : vx_Note p l e R s m args below meth c H locs cells slots Q (F0 m pc ls rest) "java/lang/ArithmeticException" "/ by zero") :
    W p l e R s m args below meth c H locs cells slots Q (F0 m pc ls (.int b :: .int a :: rest)) := by
  intro T hT X
  obtain ⟨t, st, q⟩ := k T hT X
  exact ⟨t, X.iremZero hexec (g := F0 m pc ls (.int b :: .int a :: rest)) rfl (a := a) (rest := rest) (by rw [h0]) (by rw [hb]; exact d) t st, q⟩
theorem vx_ldivZ (hexec : p.tables.exec = Jvm.exec) (hb : c.code = cc) {a b : Int64} (h0 : b = 0) (d : decode cc pc = .ok (.ldiv, 1)) (k : vx_Note p l e R s m args below meth c H locs cells slots Q (F0 m pc ls rest) "java/lang/ArithmeticException" "/ by zero") :
    W p l e R s m args below meth c H locs cells slots Q (F0 m pc ls (.long b :: .long a :: rest)) := by
  intro T hT X
  obtain ⟨t, st, q⟩ := k T hT X
  exact ⟨t, X.ldivZero hexec (g := F0 m pc ls (.long b :: .long a :: rest)) rfl (a := a) (rest := rest) (by rw [h0]) (by rw [hb]; exact d) t st, q⟩
theorem vx_lremZ (hexec : p.tables.exec = Jvm.exec) (hb : c.code = cc) {a b : Int64} (h0 : b = 0) (d : decode cc pc = .ok (.lrem, 1)) (k : vx_Note p l e R s m args below meth c H locs cells slots Q (F0 m pc ls rest) "java/lang/ArithmeticException" "/ by zero") :
    W p l e R s m args below meth c H locs cells slots Q (F0 m pc ls (.long b :: .long a :: rest)) := by
  intro T hT X
  obtain ⟨t, st, q⟩ := k T hT X
  exact ⟨t, X.lremZero hexec (g := F0 m pc ls (.long b :: .long a :: rest)) rfl (a := a) (rest := rest) (by rw [h0]) (by rw [hb]; exact d) t st, q⟩
theorem vx_ialdZ {D : va_G} {cl : List vw_C} {ws : va_W} {tys : List (ClassId × FieldType)} {a : Nat} (hexec : p.tables.exec = Jvm.exec) (hb : c.code = cc) (hK : va_K D cl tys s) (hP : va_P D cl ws H) (q0 t0 : Nat) {cA : ClassId} {n : Nat} {f : Nat → Int32} (ha : ws[q0]? = some (a, .inl (cA, n, .inl f))) (ht : tys[t0]? = some (cA, .int)) {i : Int32} (hout : ¬ vp_in i n) (hdg : decode cc pc = .ok (.iaload, 1))
    (k : ∀ tx : String, tx = (toString "Index " ++ toString i ++ toString " out of bounds for length " ++ toString n : String) → vx_Note p l e R s m args below meth c H locs cells slots Q (F0 m pc ls rest) "java/lang/ArrayIndexOutOfBoundsException" tx) : W p l e R s m args below meth c H locs cells slots Q (F0 m pc ls (.int i :: .ref a :: rest)) := by
  intro T hT X
  obtain ⟨t, st, q⟩ := k _ rfl T hT X
  refine ⟨t, ?_, q⟩
  have h1 := X.ialoadOut hexec (by rw [hT]; exact hP q0 _ ha) ((hK.2 t0 _ ht).1 n (fun j => .int (f j))) (j := i) (by show (i < 0 ∨ (arrV _ _ _).slots.size ≤ _); rw [arrV_size]; exact Classical.byContradiction hout) (g := F0 m pc ls (.int i :: .ref a :: rest)) rfl (rest := rest) rfl (by rw [hb]; exact hdg) t
  simp only [arrV_size] at h1
  exact h1 st
theorem vx_iastZ {D : va_G} {cl : List vw_C} {ws : va_W} {tys : List (ClassId × FieldType)} {a : Nat} (hexec : p.tables.exec = Jvm.exec) (hb : c.code = cc) (hK : va_K D cl tys s) (hP : va_P D cl ws H) (q0 t0 : Nat) {cA : ClassId} {n : Nat} {f : Nat → Int32} (ha : ws[q0]? = some (a, .inl (cA, n, .inl f))) (ht : tys[t0]? = some (cA, .int)) {i : Int32} {x : Int32} (hout : ¬ vp_in i n) (hdg : decode cc pc = .ok (.iastore, 1))
    (k : ∀ tx : String, tx = (toString "Index " ++ toString i ++ toString " out of bounds for length " ++ toString n : String) → vx_Note p l e R s m args below meth c H locs cells slots Q (F0 m pc ls rest) "java/lang/ArrayIndexOutOfBoundsException" tx) : W p l e R s m args below meth c H locs cells slots Q (F0 m pc ls (.int x :: .int i :: .ref a :: rest)) := by
  intro T hT X
  obtain ⟨t, st, q⟩ := k _ rfl T hT X
  refine ⟨t, ?_, q⟩
  have h1 := X.iastoreOut hexec (by rw [hT]; exact hP q0 _ ha) ((hK.2 t0 _ ht).1 n (fun j => .int (f j))) (j := i) (by show (i < 0 ∨ (arrV _ _ _).slots.size ≤ _); rw [arrV_size]; exact Classical.byContradiction hout) (g := F0 m pc ls (.int x :: .int i :: .ref a :: rest)) rfl (rest := rest) rfl (by rw [hb]; exact hdg) t
  simp only [arrV_size] at h1
  exact h1 st
theorem vx_baldZ {D : va_G} {cl : List vw_C} {ws : va_W} {tys : List (ClassId × FieldType)} {a : Nat} (hexec : p.tables.exec = Jvm.exec) (hb : c.code = cc) (hK : va_K D cl tys s) (hP : va_P D cl ws H) (q0 t0 : Nat) {cA : ClassId} {n : Nat} {f : Nat → Int32} (ha : ws[q0]? = some (a, .inl (cA, n, .inl f))) (ht : tys[t0]? = some (cA, .byte)) {i : Int32} (hout : ¬ vp_in i n) (hdg : decode cc pc = .ok (.baload, 1))
    (k : ∀ tx : String, tx = (toString "Index " ++ toString i ++ toString " out of bounds for length " ++ toString n : String) → vx_Note p l e R s m args below meth c H locs cells slots Q (F0 m pc ls rest) "java/lang/ArrayIndexOutOfBoundsException" tx) : W p l e R s m args below meth c H locs cells slots Q (F0 m pc ls (.int i :: .ref a :: rest)) := by
  intro T hT X
  obtain ⟨t, st, q⟩ := k _ rfl T hT X
  refine ⟨t, ?_, q⟩
  have h1 := X.baloadOut hexec (by rw [hT]; exact hP q0 _ ha) ((hK.2 t0 _ ht).1 n (fun j => .int (f j))) (j := i) (by show (i < 0 ∨ (arrV _ _ _).slots.size ≤ _); rw [arrV_size]; exact Classical.byContradiction hout) (g := F0 m pc ls (.int i :: .ref a :: rest)) rfl (rest := rest) rfl (by rw [hb]; exact hdg) t
  simp only [arrV_size] at h1
  exact h1 st
theorem vx_bastZ {D : va_G} {cl : List vw_C} {ws : va_W} {tys : List (ClassId × FieldType)} {a : Nat} (hexec : p.tables.exec = Jvm.exec) (hb : c.code = cc) (hK : va_K D cl tys s) (hP : va_P D cl ws H) (q0 t0 : Nat) {cA : ClassId} {n : Nat} {f : Nat → Int32} (ha : ws[q0]? = some (a, .inl (cA, n, .inl f))) (ht : tys[t0]? = some (cA, .byte)) {i : Int32} {x : Int32} (hout : ¬ vp_in i n) (hdg : decode cc pc = .ok (.bastore, 1))
    (k : ∀ tx : String, tx = (toString "Index " ++ toString i ++ toString " out of bounds for length " ++ toString n : String) → vx_Note p l e R s m args below meth c H locs cells slots Q (F0 m pc ls rest) "java/lang/ArrayIndexOutOfBoundsException" tx) : W p l e R s m args below meth c H locs cells slots Q (F0 m pc ls (.int x :: .int i :: .ref a :: rest)) := by
  intro T hT X
  obtain ⟨t, st, q⟩ := k _ rfl T hT X
  refine ⟨t, ?_, q⟩
  have h1 := X.bastoreOut hexec (by rw [hT]; exact hP q0 _ ha) ((hK.2 t0 _ ht).1 n (fun j => .int (f j))) (j := i) (by show (i < 0 ∨ (arrV _ _ _).slots.size ≤ _); rw [arrV_size]; exact Classical.byContradiction hout) (g := F0 m pc ls (.int x :: .int i :: .ref a :: rest)) rfl (rest := rest) rfl (by rw [hb]; exact hdg) t
  simp only [arrV_size] at h1
  exact h1 st
theorem vx_zaldZ {D : va_G} {cl : List vw_C} {ws : va_W} {tys : List (ClassId × FieldType)} {a : Nat} (hexec : p.tables.exec = Jvm.exec) (hb : c.code = cc) (hK : va_K D cl tys s) (hP : va_P D cl ws H) (q0 t0 : Nat) {cA : ClassId} {n : Nat} {f : Nat → Int32} (ha : ws[q0]? = some (a, .inl (cA, n, .inl f))) (ht : tys[t0]? = some (cA, .boolean)) {i : Int32} (hout : ¬ vp_in i n) (hdg : decode cc pc = .ok (.baload, 1))
    (k : ∀ tx : String, tx = (toString "Index " ++ toString i ++ toString " out of bounds for length " ++ toString n : String) → vx_Note p l e R s m args below meth c H locs cells slots Q (F0 m pc ls rest) "java/lang/ArrayIndexOutOfBoundsException" tx) : W p l e R s m args below meth c H locs cells slots Q (F0 m pc ls (.int i :: .ref a :: rest)) := by
  intro T hT X
  obtain ⟨t, st, q⟩ := k _ rfl T hT X
  refine ⟨t, ?_, q⟩
  have h1 := X.baloadOut hexec (by rw [hT]; exact hP q0 _ ha) ((hK.2 t0 _ ht).1 n (fun j => .int (f j))) (j := i) (by show (i < 0 ∨ (arrV _ _ _).slots.size ≤ _); rw [arrV_size]; exact Classical.byContradiction hout) (g := F0 m pc ls (.int i :: .ref a :: rest)) rfl (rest := rest) rfl (by rw [hb]; exact hdg) t
  simp only [arrV_size] at h1
  exact h1 st
theorem vx_zastZ {D : va_G} {cl : List vw_C} {ws : va_W} {tys : List (ClassId × FieldType)} {a : Nat} (hexec : p.tables.exec = Jvm.exec) (hb : c.code = cc) (hK : va_K D cl tys s) (hP : va_P D cl ws H) (q0 t0 : Nat) {cA : ClassId} {n : Nat} {f : Nat → Int32} (ha : ws[q0]? = some (a, .inl (cA, n, .inl f))) (ht : tys[t0]? = some (cA, .boolean)) {i : Int32} {x : Int32} (hout : ¬ vp_in i n) (hdg : decode cc pc = .ok (.bastore, 1))
    (k : ∀ tx : String, tx = (toString "Index " ++ toString i ++ toString " out of bounds for length " ++ toString n : String) → vx_Note p l e R s m args below meth c H locs cells slots Q (F0 m pc ls rest) "java/lang/ArrayIndexOutOfBoundsException" tx) : W p l e R s m args below meth c H locs cells slots Q (F0 m pc ls (.int x :: .int i :: .ref a :: rest)) := by
  intro T hT X
  obtain ⟨t, st, q⟩ := k _ rfl T hT X
  refine ⟨t, ?_, q⟩
  have h1 := X.bastoreOut hexec (by rw [hT]; exact hP q0 _ ha) ((hK.2 t0 _ ht).1 n (fun j => .int (f j))) (j := i) (by show (i < 0 ∨ (arrV _ _ _).slots.size ≤ _); rw [arrV_size]; exact Classical.byContradiction hout) (g := F0 m pc ls (.int x :: .int i :: .ref a :: rest)) rfl (rest := rest) rfl (by rw [hb]; exact hdg) t
  simp only [arrV_size] at h1
  exact h1 st
theorem vx_caldZ {D : va_G} {cl : List vw_C} {ws : va_W} {tys : List (ClassId × FieldType)} {a : Nat} (hexec : p.tables.exec = Jvm.exec) (hb : c.code = cc) (hK : va_K D cl tys s) (hP : va_P D cl ws H) (q0 t0 : Nat) {cA : ClassId} {n : Nat} {f : Nat → Int32} (ha : ws[q0]? = some (a, .inl (cA, n, .inl f))) (ht : tys[t0]? = some (cA, .char)) {i : Int32} (hout : ¬ vp_in i n) (hdg : decode cc pc = .ok (.caload, 1))
    (k : ∀ tx : String, tx = (toString "Index " ++ toString i ++ toString " out of bounds for length " ++ toString n : String) → vx_Note p l e R s m args below meth c H locs cells slots Q (F0 m pc ls rest) "java/lang/ArrayIndexOutOfBoundsException" tx) : W p l e R s m args below meth c H locs cells slots Q (F0 m pc ls (.int i :: .ref a :: rest)) := by
  intro T hT X
  obtain ⟨t, st, q⟩ := k _ rfl T hT X
  refine ⟨t, ?_, q⟩
  have h1 := X.caloadOut hexec (by rw [hT]; exact hP q0 _ ha) ((hK.2 t0 _ ht).1 n (fun j => .int (f j))) (j := i) (by show (i < 0 ∨ (arrV _ _ _).slots.size ≤ _); rw [arrV_size]; exact Classical.byContradiction hout) (g := F0 m pc ls (.int i :: .ref a :: rest)) rfl (rest := rest) rfl (by rw [hb]; exact hdg) t
  simp only [arrV_size] at h1
  exact h1 st
theorem vx_castZ {D : va_G} {cl : List vw_C} {ws : va_W} {tys : List (ClassId × FieldType)} {a : Nat} (hexec : p.tables.exec = Jvm.exec) (hb : c.code = cc) (hK : va_K D cl tys s) (hP : va_P D cl ws H) (q0 t0 : Nat) {cA : ClassId} {n : Nat} {f : Nat → Int32} (ha : ws[q0]? = some (a, .inl (cA, n, .inl f))) (ht : tys[t0]? = some (cA, .char)) {i : Int32} {x : Int32} (hout : ¬ vp_in i n) (hdg : decode cc pc = .ok (.castore, 1))
    (k : ∀ tx : String, tx = (toString "Index " ++ toString i ++ toString " out of bounds for length " ++ toString n : String) → vx_Note p l e R s m args below meth c H locs cells slots Q (F0 m pc ls rest) "java/lang/ArrayIndexOutOfBoundsException" tx) : W p l e R s m args below meth c H locs cells slots Q (F0 m pc ls (.int x :: .int i :: .ref a :: rest)) := by
  intro T hT X
  obtain ⟨t, st, q⟩ := k _ rfl T hT X
  refine ⟨t, ?_, q⟩
  have h1 := X.castoreOut hexec (by rw [hT]; exact hP q0 _ ha) ((hK.2 t0 _ ht).1 n (fun j => .int (f j))) (j := i) (by show (i < 0 ∨ (arrV _ _ _).slots.size ≤ _); rw [arrV_size]; exact Classical.byContradiction hout) (g := F0 m pc ls (.int x :: .int i :: .ref a :: rest)) rfl (rest := rest) rfl (by rw [hb]; exact hdg) t
  simp only [arrV_size] at h1
  exact h1 st
theorem vx_saldZ {D : va_G} {cl : List vw_C} {ws : va_W} {tys : List (ClassId × FieldType)} {a : Nat} (hexec : p.tables.exec = Jvm.exec) (hb : c.code = cc) (hK : va_K D cl tys s) (hP : va_P D cl ws H) (q0 t0 : Nat) {cA : ClassId} {n : Nat} {f : Nat → Int32} (ha : ws[q0]? = some (a, .inl (cA, n, .inl f))) (ht : tys[t0]? = some (cA, .short)) {i : Int32} (hout : ¬ vp_in i n) (hdg : decode cc pc = .ok (.saload, 1))
    (k : ∀ tx : String, tx = (toString "Index " ++ toString i ++ toString " out of bounds for length " ++ toString n : String) → vx_Note p l e R s m args below meth c H locs cells slots Q (F0 m pc ls rest) "java/lang/ArrayIndexOutOfBoundsException" tx) : W p l e R s m args below meth c H locs cells slots Q (F0 m pc ls (.int i :: .ref a :: rest)) := by
  intro T hT X
  obtain ⟨t, st, q⟩ := k _ rfl T hT X
  refine ⟨t, ?_, q⟩
  have h1 := X.saloadOut hexec (by rw [hT]; exact hP q0 _ ha) ((hK.2 t0 _ ht).1 n (fun j => .int (f j))) (j := i) (by show (i < 0 ∨ (arrV _ _ _).slots.size ≤ _); rw [arrV_size]; exact Classical.byContradiction hout) (g := F0 m pc ls (.int i :: .ref a :: rest)) rfl (rest := rest) rfl (by rw [hb]; exact hdg) t
  simp only [arrV_size] at h1
  exact h1 st
theorem vx_sastZ {D : va_G} {cl : List vw_C} {ws : va_W} {tys : List (ClassId × FieldType)} {a : Nat} (hexec : p.tables.exec = Jvm.exec) (hb : c.code = cc) (hK : va_K D cl tys s) (hP : va_P D cl ws H) (q0 t0 : Nat) {cA : ClassId} {n : Nat} {f : Nat → Int32} (ha : ws[q0]? = some (a, .inl (cA, n, .inl f))) (ht : tys[t0]? = some (cA, .short)) {i : Int32} {x : Int32} (hout : ¬ vp_in i n) (hdg : decode cc pc = .ok (.sastore, 1))
    (k : ∀ tx : String, tx = (toString "Index " ++ toString i ++ toString " out of bounds for length " ++ toString n : String) → vx_Note p l e R s m args below meth c H locs cells slots Q (F0 m pc ls rest) "java/lang/ArrayIndexOutOfBoundsException" tx) : W p l e R s m args below meth c H locs cells slots Q (F0 m pc ls (.int x :: .int i :: .ref a :: rest)) := by
  intro T hT X
  obtain ⟨t, st, q⟩ := k _ rfl T hT X
  refine ⟨t, ?_, q⟩
  have h1 := X.sastoreOut hexec (by rw [hT]; exact hP q0 _ ha) ((hK.2 t0 _ ht).1 n (fun j => .int (f j))) (j := i) (by show (i < 0 ∨ (arrV _ _ _).slots.size ≤ _); rw [arrV_size]; exact Classical.byContradiction hout) (g := F0 m pc ls (.int x :: .int i :: .ref a :: rest)) rfl (rest := rest) rfl (by rw [hb]; exact hdg) t
  simp only [arrV_size] at h1
  exact h1 st
theorem vx_laldZ {D : va_G} {cl : List vw_C} {ws : va_W} {tys : List (ClassId × FieldType)} {a : Nat} (hexec : p.tables.exec = Jvm.exec) (hb : c.code = cc) (hK : va_K D cl tys s) (hP : va_P D cl ws H) (q0 t0 : Nat) {cA : ClassId} {n : Nat} {f : Nat → Int64} (ha : ws[q0]? = some (a, .inl (cA, n, .inr (.inl f)))) (ht : tys[t0]? = some (cA, .long)) {i : Int32} (hout : ¬ vp_in i n) (hdg : decode cc pc = .ok (.laload, 1))
    (k : ∀ tx : String, tx = (toString "Index " ++ toString i ++ toString " out of bounds for length " ++ toString n : String) → vx_Note p l e R s m args below meth c H locs cells slots Q (F0 m pc ls rest) "java/lang/ArrayIndexOutOfBoundsException" tx) : W p l e R s m args below meth c H locs cells slots Q (F0 m pc ls (.int i :: .ref a :: rest)) := by
  intro T hT X
  obtain ⟨t, st, q⟩ := k _ rfl T hT X
  refine ⟨t, ?_, q⟩
  have h1 := X.laloadOut hexec (by rw [hT]; exact hP q0 _ ha) ((hK.2 t0 _ ht).1 n (fun j => .long (f j))) (j := i) (by show (i < 0 ∨ (arrV _ _ _).slots.size ≤ _); rw [arrV_size]; exact Classical.byContradiction hout) (g := F0 m pc ls (.int i :: .ref a :: rest)) rfl (rest := rest) rfl (by rw [hb]; exact hdg) t
  simp only [arrV_size] at h1
  exact h1 st
theorem vx_lastZ {D : va_G} {cl : List vw_C} {ws : va_W} {tys : List (ClassId × FieldType)} {a : Nat} (hexec : p.tables.exec = Jvm.exec) (hb : c.code = cc) (hK : va_K D cl tys s) (hP : va_P D cl ws H) (q0 t0 : Nat) {cA : ClassId} {n : Nat} {f : Nat → Int64} (ha : ws[q0]? = some (a, .inl (cA, n, .inr (.inl f)))) (ht : tys[t0]? = some (cA, .long)) {i : Int32} {x : Int64} (hout : ¬ vp_in i n) (hdg : decode cc pc = .ok (.lastore, 1))
    (k : ∀ tx : String, tx = (toString "Index " ++ toString i ++ toString " out of bounds for length " ++ toString n : String) → vx_Note p l e R s m args below meth c H locs cells slots Q (F0 m pc ls rest) "java/lang/ArrayIndexOutOfBoundsException" tx) : W p l e R s m args below meth c H locs cells slots Q (F0 m pc ls (.long x :: .int i :: .ref a :: rest)) := by
  intro T hT X
  obtain ⟨t, st, q⟩ := k _ rfl T hT X
  refine ⟨t, ?_, q⟩
  have h1 := X.lastoreOut hexec (by rw [hT]; exact hP q0 _ ha) ((hK.2 t0 _ ht).1 n (fun j => .long (f j))) (j := i) (by show (i < 0 ∨ (arrV _ _ _).slots.size ≤ _); rw [arrV_size]; exact Classical.byContradiction hout) (g := F0 m pc ls (.long x :: .int i :: .ref a :: rest)) rfl (rest := rest) rfl (by rw [hb]; exact hdg) t
  simp only [arrV_size] at h1
  exact h1 st
theorem vx_faldZ {D : va_G} {cl : List vw_C} {ws : va_W} {tys : List (ClassId × FieldType)} {a : Nat} (hexec : p.tables.exec = Jvm.exec) (hb : c.code = cc) (hK : va_K D cl tys s) (hP : va_P D cl ws H) (q0 t0 : Nat) {cA : ClassId} {n : Nat} {f : Nat → UInt32} (ha : ws[q0]? = some (a, .inl (cA, n, .inr (.inr (.inl f))))) (ht : tys[t0]? = some (cA, .float)) {i : Int32} (hout : ¬ vp_in i n) (hdg : decode cc pc = .ok (.faload, 1))
    (k : ∀ tx : String, tx = (toString "Index " ++ toString i ++ toString " out of bounds for length " ++ toString n : String) → vx_Note p l e R s m args below meth c H locs cells slots Q (F0 m pc ls rest) "java/lang/ArrayIndexOutOfBoundsException" tx) : W p l e R s m args below meth c H locs cells slots Q (F0 m pc ls (.int i :: .ref a :: rest)) := by
  intro T hT X
  obtain ⟨t, st, q⟩ := k _ rfl T hT X
  refine ⟨t, ?_, q⟩
  have h1 := X.faloadOut hexec (by rw [hT]; exact hP q0 _ ha) ((hK.2 t0 _ ht).1 n (fun j => .float (f j))) (j := i) (by show (i < 0 ∨ (arrV _ _ _).slots.size ≤ _); rw [arrV_size]; exact Classical.byContradiction hout) (g := F0 m pc ls (.int i :: .ref a :: rest)) rfl (rest := rest) rfl (by rw [hb]; exact hdg) t
  simp only [arrV_size] at h1
  exact h1 st
theorem vx_fastZ {D : va_G} {cl : List vw_C} {ws : va_W} {tys : List (ClassId × FieldType)} {a : Nat} (hexec : p.tables.exec = Jvm.exec) (hb : c.code = cc) (hK : va_K D cl tys s) (hP : va_P D cl ws H) (q0 t0 : Nat) {cA : ClassId} {n : Nat} {f : Nat → UInt32} (ha : ws[q0]? = some (a, .inl (cA, n, .inr (.inr (.inl f))))) (ht : tys[t0]? = some (cA, .float)) {i : Int32} {x : UInt32} (hout : ¬ vp_in i n) (hdg : decode cc pc = .ok (.fastore, 1))
    (k : ∀ tx : String, tx = (toString "Index " ++ toString i ++ toString " out of bounds for length " ++ toString n : String) → vx_Note p l e R s m args below meth c H locs cells slots Q (F0 m pc ls rest) "java/lang/ArrayIndexOutOfBoundsException" tx) : W p l e R s m args below meth c H locs cells slots Q (F0 m pc ls (.float x :: .int i :: .ref a :: rest)) := by
  intro T hT X
  obtain ⟨t, st, q⟩ := k _ rfl T hT X
  refine ⟨t, ?_, q⟩
  have h1 := X.fastoreOut hexec (by rw [hT]; exact hP q0 _ ha) ((hK.2 t0 _ ht).1 n (fun j => .float (f j))) (j := i) (by show (i < 0 ∨ (arrV _ _ _).slots.size ≤ _); rw [arrV_size]; exact Classical.byContradiction hout) (g := F0 m pc ls (.float x :: .int i :: .ref a :: rest)) rfl (rest := rest) rfl (by rw [hb]; exact hdg) t
  simp only [arrV_size] at h1
  exact h1 st
theorem vx_daldZ {D : va_G} {cl : List vw_C} {ws : va_W} {tys : List (ClassId × FieldType)} {a : Nat} (hexec : p.tables.exec = Jvm.exec) (hb : c.code = cc) (hK : va_K D cl tys s) (hP : va_P D cl ws H) (q0 t0 : Nat) {cA : ClassId} {n : Nat} {f : Nat → UInt64} (ha : ws[q0]? = some (a, .inl (cA, n, .inr (.inr (.inr (.inl f)))))) (ht : tys[t0]? = some (cA, .double)) {i : Int32} (hout : ¬ vp_in i n) (hdg : decode cc pc = .ok (.daload, 1))
    (k : ∀ tx : String, tx = (toString "Index " ++ toString i ++ toString " out of bounds for length " ++ toString n : String) → vx_Note p l e R s m args below meth c H locs cells slots Q (F0 m pc ls rest) "java/lang/ArrayIndexOutOfBoundsException" tx) : W p l e R s m args below meth c H locs cells slots Q (F0 m pc ls (.int i :: .ref a :: rest)) := by
  intro T hT X
  obtain ⟨t, st, q⟩ := k _ rfl T hT X
  refine ⟨t, ?_, q⟩
  have h1 := X.daloadOut hexec (by rw [hT]; exact hP q0 _ ha) ((hK.2 t0 _ ht).1 n (fun j => .double (f j))) (j := i) (by show (i < 0 ∨ (arrV _ _ _).slots.size ≤ _); rw [arrV_size]; exact Classical.byContradiction hout) (g := F0 m pc ls (.int i :: .ref a :: rest)) rfl (rest := rest) rfl (by rw [hb]; exact hdg) t
  simp only [arrV_size] at h1
  exact h1 st
theorem vx_dastZ {D : va_G} {cl : List vw_C} {ws : va_W} {tys : List (ClassId × FieldType)} {a : Nat} (hexec : p.tables.exec = Jvm.exec) (hb : c.code = cc) (hK : va_K D cl tys s) (hP : va_P D cl ws H) (q0 t0 : Nat) {cA : ClassId} {n : Nat} {f : Nat → UInt64} (ha : ws[q0]? = some (a, .inl (cA, n, .inr (.inr (.inr (.inl f)))))) (ht : tys[t0]? = some (cA, .double)) {i : Int32} {x : UInt64} (hout : ¬ vp_in i n) (hdg : decode cc pc = .ok (.dastore, 1))
    (k : ∀ tx : String, tx = (toString "Index " ++ toString i ++ toString " out of bounds for length " ++ toString n : String) → vx_Note p l e R s m args below meth c H locs cells slots Q (F0 m pc ls rest) "java/lang/ArrayIndexOutOfBoundsException" tx) : W p l e R s m args below meth c H locs cells slots Q (F0 m pc ls (.double x :: .int i :: .ref a :: rest)) := by
  intro T hT X
  obtain ⟨t, st, q⟩ := k _ rfl T hT X
  refine ⟨t, ?_, q⟩
  have h1 := X.dastoreOut hexec (by rw [hT]; exact hP q0 _ ha) ((hK.2 t0 _ ht).1 n (fun j => .double (f j))) (j := i) (by show (i < 0 ∨ (arrV _ _ _).slots.size ≤ _); rw [arrV_size]; exact Classical.byContradiction hout) (g := F0 m pc ls (.double x :: .int i :: .ref a :: rest)) rfl (rest := rest) rfl (by rw [hb]; exact hdg) t
  simp only [arrV_size] at h1
  exact h1 st
theorem vx_arraylengthN (hexec : p.tables.exec = Jvm.exec) (hb : c.code = cc) (hdg : decode cc pc = .ok (.arraylength, 1)) (k : vx_NoteN p l e R s m args below meth c H locs cells slots Q (F0 m pc ls rest)) : W p l e R s m args below meth c H locs cells slots Q (F0 m pc ls (.null :: rest)) := by
  intro T hT X
  obtain ⟨t, st, q⟩ := k T hT X
  exact ⟨t, X.arraylengthNull hexec (g := F0 m pc ls (.null :: rest)) rfl (rest := rest) rfl (by rw [hb]; exact hdg) t st, q⟩
theorem vx_ialoadN (hexec : p.tables.exec = Jvm.exec) (hb : c.code = cc) {i : Int32} (hdg : decode cc pc = .ok (.iaload, 1)) (k : vx_NoteN p l e R s m args below meth c H locs cells slots Q (F0 m pc ls rest)) : W p l e R s m args below meth c H locs cells slots Q (F0 m pc ls (.int i :: .null :: rest)) := by
  intro T hT X
  obtain ⟨t, st, q⟩ := k T hT X
  exact ⟨t, X.ialoadNull hexec (g := F0 m pc ls (.int i :: .null :: rest)) rfl (rest := rest) rfl (by rw [hb]; exact hdg) t st, q⟩
theorem vx_laloadN (hexec : p.tables.exec = Jvm.exec) (hb : c.code = cc) {i : Int32} (hdg : decode cc pc = .ok (.laload, 1)) (k : vx_NoteN p l e R s m args below meth c H locs cells slots Q (F0 m pc ls rest)) : W p l e R s m args below meth c H locs cells slots Q (F0 m pc ls (.int i :: .null :: rest)) := by
  intro T hT X
  obtain ⟨t, st, q⟩ := k T hT X
  exact ⟨t, X.laloadNull hexec (g := F0 m pc ls (.int i :: .null :: rest)) rfl (rest := rest) rfl (by rw [hb]; exact hdg) t st, q⟩
theorem vx_faloadN (hexec : p.tables.exec = Jvm.exec) (hb : c.code = cc) {i : Int32} (hdg : decode cc pc = .ok (.faload, 1)) (k : vx_NoteN p l e R s m args below meth c H locs cells slots Q (F0 m pc ls rest)) : W p l e R s m args below meth c H locs cells slots Q (F0 m pc ls (.int i :: .null :: rest)) := by
  intro T hT X
  obtain ⟨t, st, q⟩ := k T hT X
  exact ⟨t, X.faloadNull hexec (g := F0 m pc ls (.int i :: .null :: rest)) rfl (rest := rest) rfl (by rw [hb]; exact hdg) t st, q⟩
theorem vx_daloadN (hexec : p.tables.exec = Jvm.exec) (hb : c.code = cc) {i : Int32} (hdg : decode cc pc = .ok (.daload, 1)) (k : vx_NoteN p l e R s m args below meth c H locs cells slots Q (F0 m pc ls rest)) : W p l e R s m args below meth c H locs cells slots Q (F0 m pc ls (.int i :: .null :: rest)) := by
  intro T hT X
  obtain ⟨t, st, q⟩ := k T hT X
  exact ⟨t, X.daloadNull hexec (g := F0 m pc ls (.int i :: .null :: rest)) rfl (rest := rest) rfl (by rw [hb]; exact hdg) t st, q⟩
theorem vx_aaloadN (hexec : p.tables.exec = Jvm.exec) (hb : c.code = cc) {i : Int32} (hdg : decode cc pc = .ok (.aaload, 1)) (k : vx_NoteN p l e R s m args below meth c H locs cells slots Q (F0 m pc ls rest)) : W p l e R s m args below meth c H locs cells slots Q (F0 m pc ls (.int i :: .null :: rest)) := by
  intro T hT X
  obtain ⟨t, st, q⟩ := k T hT X
  exact ⟨t, X.aaloadNull hexec (g := F0 m pc ls (.int i :: .null :: rest)) rfl (rest := rest) rfl (by rw [hb]; exact hdg) t st, q⟩
theorem vx_baloadN (hexec : p.tables.exec = Jvm.exec) (hb : c.code = cc) {i : Int32} (hdg : decode cc pc = .ok (.baload, 1)) (k : vx_NoteN p l e R s m args below meth c H locs cells slots Q (F0 m pc ls rest)) : W p l e R s m args below meth c H locs cells slots Q (F0 m pc ls (.int i :: .null :: rest)) := by
  intro T hT X
  obtain ⟨t, st, q⟩ := k T hT X
  exact ⟨t, X.baloadNull hexec (g := F0 m pc ls (.int i :: .null :: rest)) rfl (rest := rest) rfl (by rw [hb]; exact hdg) t st, q⟩
theorem vx_caloadN (hexec : p.tables.exec = Jvm.exec) (hb : c.code = cc) {i : Int32} (hdg : decode cc pc = .ok (.caload, 1)) (k : vx_NoteN p l e R s m args below meth c H locs cells slots Q (F0 m pc ls rest)) : W p l e R s m args below meth c H locs cells slots Q (F0 m pc ls (.int i :: .null :: rest)) := by
  intro T hT X
  obtain ⟨t, st, q⟩ := k T hT X
  exact ⟨t, X.caloadNull hexec (g := F0 m pc ls (.int i :: .null :: rest)) rfl (rest := rest) rfl (by rw [hb]; exact hdg) t st, q⟩
theorem vx_saloadN (hexec : p.tables.exec = Jvm.exec) (hb : c.code = cc) {i : Int32} (hdg : decode cc pc = .ok (.saload, 1)) (k : vx_NoteN p l e R s m args below meth c H locs cells slots Q (F0 m pc ls rest)) : W p l e R s m args below meth c H locs cells slots Q (F0 m pc ls (.int i :: .null :: rest)) := by
  intro T hT X
  obtain ⟨t, st, q⟩ := k T hT X
  exact ⟨t, X.saloadNull hexec (g := F0 m pc ls (.int i :: .null :: rest)) rfl (rest := rest) rfl (by rw [hb]; exact hdg) t st, q⟩
theorem vx_iastoreN (hexec : p.tables.exec = Jvm.exec) (hb : c.code = cc) {x : Int32} {i : Int32} (hdg : decode cc pc = .ok (.iastore, 1)) (k : vx_NoteN p l e R s m args below meth c H locs cells slots Q (F0 m pc ls rest)) : W p l e R s m args below meth c H locs cells slots Q (F0 m pc ls (.int x :: .int i :: .null :: rest)) := by
  intro T hT X
  obtain ⟨t, st, q⟩ := k T hT X
  exact ⟨t, X.iastoreNull hexec (g := F0 m pc ls (.int x :: .int i :: .null :: rest)) rfl (rest := rest) rfl (by rw [hb]; exact hdg) t st, q⟩
theorem vx_lastoreN (hexec : p.tables.exec = Jvm.exec) (hb : c.code = cc) {x : Int64} {i : Int32} (hdg : decode cc pc = .ok (.lastore, 1)) (k : vx_NoteN p l e R s m args below meth c H locs cells slots Q (F0 m pc ls rest)) : W p l e R s m args below meth c H locs cells slots Q (F0 m pc ls (.long x :: .int i :: .null :: rest)) := by
  intro T hT X
  obtain ⟨t, st, q⟩ := k T hT X
  exact ⟨t, X.lastoreNull hexec (g := F0 m pc ls (.long x :: .int i :: .null :: rest)) rfl (rest := rest) rfl (by rw [hb]; exact hdg) t st, q⟩
theorem vx_fastoreN (hexec : p.tables.exec = Jvm.exec) (hb : c.code = cc) {x : UInt32} {i : Int32} (hdg : decode cc pc = .ok (.fastore, 1)) (k : vx_NoteN p l e R s m args below meth c H locs cells slots Q (F0 m pc ls rest)) : W p l e R s m args below meth c H locs cells slots Q (F0 m pc ls (.float x :: .int i :: .null :: rest)) := by
  intro T hT X
  obtain ⟨t, st, q⟩ := k T hT X
  exact ⟨t, X.fastoreNull hexec (g := F0 m pc ls (.float x :: .int i :: .null :: rest)) rfl (rest := rest) rfl (by rw [hb]; exact hdg) t st, q⟩
theorem vx_dastoreN (hexec : p.tables.exec = Jvm.exec) (hb : c.code = cc) {x : UInt64} {i : Int32} (hdg : decode cc pc = .ok (.dastore, 1)) (k : vx_NoteN p l e R s m args below meth c H locs cells slots Q (F0 m pc ls rest)) : W p l e R s m args below meth c H locs cells slots Q (F0 m pc ls (.double x :: .int i :: .null :: rest)) := by
  intro T hT X
  obtain ⟨t, st, q⟩ := k T hT X
  exact ⟨t, X.dastoreNull hexec (g := F0 m pc ls (.double x :: .int i :: .null :: rest)) rfl (rest := rest) rfl (by rw [hb]; exact hdg) t st, q⟩
theorem vx_bastoreN (hexec : p.tables.exec = Jvm.exec) (hb : c.code = cc) {x : Int32} {i : Int32} (hdg : decode cc pc = .ok (.bastore, 1)) (k : vx_NoteN p l e R s m args below meth c H locs cells slots Q (F0 m pc ls rest)) : W p l e R s m args below meth c H locs cells slots Q (F0 m pc ls (.int x :: .int i :: .null :: rest)) := by
  intro T hT X
  obtain ⟨t, st, q⟩ := k T hT X
  exact ⟨t, X.bastoreNull hexec (g := F0 m pc ls (.int x :: .int i :: .null :: rest)) rfl (rest := rest) rfl (by rw [hb]; exact hdg) t st, q⟩
theorem vx_castoreN (hexec : p.tables.exec = Jvm.exec) (hb : c.code = cc) {x : Int32} {i : Int32} (hdg : decode cc pc = .ok (.castore, 1)) (k : vx_NoteN p l e R s m args below meth c H locs cells slots Q (F0 m pc ls rest)) : W p l e R s m args below meth c H locs cells slots Q (F0 m pc ls (.int x :: .int i :: .null :: rest)) := by
  intro T hT X
  obtain ⟨t, st, q⟩ := k T hT X
  exact ⟨t, X.castoreNull hexec (g := F0 m pc ls (.int x :: .int i :: .null :: rest)) rfl (rest := rest) rfl (by rw [hb]; exact hdg) t st, q⟩
theorem vx_sastoreN (hexec : p.tables.exec = Jvm.exec) (hb : c.code = cc) {x : Int32} {i : Int32} (hdg : decode cc pc = .ok (.sastore, 1)) (k : vx_NoteN p l e R s m args below meth c H locs cells slots Q (F0 m pc ls rest)) : W p l e R s m args below meth c H locs cells slots Q (F0 m pc ls (.int x :: .int i :: .null :: rest)) := by
  intro T hT X
  obtain ⟨t, st, q⟩ := k T hT X
  exact ⟨t, X.sastoreNull hexec (g := F0 m pc ls (.int x :: .int i :: .null :: rest)) rfl (rest := rest) rfl (by rw [hb]; exact hdg) t st, q⟩
theorem vx_invokeN {own C : String} {index maxL : Nat} {y : MethodName} {bytes : ByteArray} {ret : Option FieldType} (hexec : p.tables.exec = Jvm.exec) (hb : c.code = cc) (hown : s.vm.findClass own = some m.cls) (hlink : (Cond.methodLink own index y).before args s = true) (hinst : (Cond.instanceMethod y).before args s = true) (hcode : (Cond.code y bytes maxL ret).before args s = true) (hsel : (Cond.selects C y y).before args s = true)
    (hx : y.cls ≠ "java/lang/invoke/MethodHandle" ∧ y.cls ≠ "java/lang/invoke/VarHandle") {As : List Value} (hlen : (parseMethodDescriptor y.desc).map (fun d => d.parameters.length) = some As.length) (hdg : decode cc pc = .ok (.invokevirtual index, 3))
    (k : vx_NoteN p l e R s m args below meth c H locs cells slots Q (F0 m pc ls rest)) {st0 : List Value} (hst : st0 = As.reverse ++ .null :: rest) : W p l e R s m args below meth c H locs cells slots Q (F0 m pc ls st0) := by
  intro T hT X
  obtain ⟨r0, r, hn, hrm, hstR, hsigR⟩ := va_Decl.of hinst hcode
  obtain ⟨c2, r2, m2, q1, q2, q3, q4, kP, hkP, hkPi⟩ := Cond.selects_spec hsel
  cases hn.symm.trans q3
  have hl9 : As.length = r.sig.parameters.length := by
    rw [hsigR] at hlen
    exact (Option.some.inj hlen).symm
  obtain ⟨vm', X1, st1⟩ := X.invokevirtualNull hexec hown hlink hn hrm hstR hkP hkPi hx (g := F0 m pc ls st0) rfl (argsL := As) (rest := rest) hl9 hst (by rw [hb]; exact hdg)
  obtain ⟨t, st, q⟩ := k (T.setVm vm') hT X1
  exact ⟨t, st1 t st, q⟩
theorem vx_newarrayZ {atype : ArrayType} (hexec : p.tables.exec = Jvm.exec) (hb : c.code = cc) {n : Int32} (h0 : n < 0) (hdg : decode cc pc = .ok (.newarray atype, 2)) (k : ∀ tx : String, tx = toString n → vx_Note p l e R s m args below meth c H locs cells slots Q (F0 m pc ls rest) "java/lang/NegativeArraySizeException" tx) : W p l e R s m args below meth c H locs cells slots Q (F0 m pc ls (.int n :: rest)) := by
  intro T hT X
  obtain ⟨t, st, q⟩ := k _ rfl T hT X
  exact ⟨t, X.newarrayNegative hexec (g := F0 m pc ls (.int n :: rest)) rfl h0 (rest := rest) rfl (by rw [hb]; exact hdg) t st, q⟩
end
end VXM
/-! ===== END ===== -/
/-! ===== BEGIN an exception as an object: made, kept, thrown later (no traces kept) ===== -/
section VXK
variable {p : Program} {l : Launch} {e : Env} {R : Room} {s : State} {m₀ : MethodId} {args : Array Value} {below : List Frame} {meth : Method} {c : Code} {W : State} {locs : List Loc} {cells slots : Nat}
set_option maxHeartbeats 1000000 in
theorem vx_ctorMadeS (X : Stand p l e R s m₀ args below meth c W locs cells slots) (hexec : p.tables.exec = Jvm.exec) (htr : e.platform.stackTraces = false) {own cls : String} {names : List String} {ic : Nat}
    (hown : s.vm.findClass own = some m₀.cls) (hcls : Bundle.fit cls = true) (hnames : ∀ n ∈ names, Bundle.fit n = true)
    (h : ∀ a ∈ Bundle.ownAtoms own ic cls names, a.before args s = true)
    (hlocs : ∀ x ∈ locs, ∀ cell, s.heap[x.base]? = some cell → cell.vm.isStatics = false)
    {a : Addr} {cX : ClassId} {kX : Class} (hfoundX : s.vm.findClass cls = some cX) (hkX : s.vm.classes[cX]? = some kX) (hcell : W.heap[a]? = some (freshCell cX kX)) (hnew : s.heap.size ≤ a)
    {msg : Value} (hmsg : msg.isRef = true)
    {g : JFrame} (hg : g.method = m₀) (hsize : g.locals.size = c.maxLocals) {rest : List Value} (hstack : g.stack = msg :: .ref a :: .ref a :: rest)
    (hd6 : decode c.code g.pc = .ok (.invokespecial ic, 3))
    (hRframes : names.length + 3 < R.frames) (hRlocals : 2 * g.monitorRoom + ((Value.ref a :: rest).map fun v => v.category).sum + (13 * (names.length + 1) + 42) ≤ R.locals) :
    ∃ (V : State) (ce : Cell) (L : List Loc), Stand p l e R s m₀ args below meth c (V.setCell a ce) (locs ++ L) cells slots ∧ (∀ y ∈ L, y.base = a) ∧ a < V.heap.size ∧ ce.cls = cX ∧ ce.vm = .none ∧
      ∀ target, Steps p.tables e below ((V.setCell a ce).setTop { g with stack := .ref a :: rest, pc := g.pc + 3 }) target → Steps p.tables e below (W.setTop g) target := by
  have howns : e.platform.frameOwnsMonitors = true := by rw [X.admits.platform]
  have hfin : e.platform.finalization = false := by rw [X.admits.platform]
  have hpl : e.platform.magicAccessors = ({} : Platform).magicAccessors := by rw [X.admits.platform]
  have a' : ∀ x, x ∈ Bundle.ownAtoms own ic cls names → x.holds args s none s [] = true := fun x hx => h x hx
  obtain ⟨T, Z0, L, -, Y⟩ := ThrowableC.of_atoms (args := args) howns hfin hpl (fun x hx => h x (by simp [Bundle.ownAtoms, hx]))
  obtain ⟨Z, M, LZ, LM, hnZ⟩ := Init0T.ofS_atoms (args := args) hpl L Y (fun x hx => h x (by simp [Bundle.ownAtoms, hx]))
  obtain ⟨P1, Ps, hlen, L1, hL, hP1m, hlink1, hlink⟩ := Bundle.chainS (args := args) hpl hnZ names cls hcls hnames (fun x hx => h x (by simp [Bundle.ownAtoms, hx]))
  have hfound : s.vm.findClass cls = some P1.m.cls := findClass_of_methodNamed hP1m
  cases Option.some.inj (hfoundX.symm.trans hfound)
  obtain ⟨c1, kX', hc1, hk, hord, -, -, hn6⟩ := Cond.instantiable_spec (a' (.instantiable cls 6) (by simp [Bundle.ownAtoms]))
  cases Option.some.inj (hc1.symm.trans hfound)
  cases Option.some.inj (hkX.symm.trans hk)
  have hsel0 : selectMethod e.platform s.vm P1.m.cls T.fill0 = .method T.fill0 := by
    obtain ⟨c2, r2, m2, q1, q2, q3, q4, -⟩ := Cond.selects_spec (a' (.selects cls Bundle.tFill0 Bundle.tFill0) (by simp [Bundle.ownAtoms]))
    cases Option.some.inj (q1.symm.trans hfound)
    cases Option.some.inj (q2.symm.trans (State.methodFound?_of_named Y.fill0 (by decide)))
    cases Option.some.inj (q3.symm.trans Y.fill0)
    rw [Launch.admits_selectMethod X.admits]; exact q4
  have hselF : selectMethod e.platform s.vm P1.m.cls T.fill = .method T.fill := by
    obtain ⟨c2, r2, m2, q1, q2, q3, q4, -⟩ := Cond.selects_spec (a' (.selects cls Bundle.tFill Bundle.tFill) (by simp [Bundle.ownAtoms]))
    cases Option.some.inj (q1.symm.trans hfound)
    cases Option.some.inj (q2.symm.trans (State.methodFound?_of_named Y.fill (by decide)))
    cases Option.some.inj (q3.symm.trans Y.fill)
    rw [Launch.admits_selectMethod X.admits]; exact q4
  obtain ⟨cellS0, hcS0, hiss⟩ := Y.statics
  obtain ⟨u0, hu0⟩ := Cond.staticRefV Y.unassigned L.unassignedStatic L.statics hcS0 hiss (a' (.isRef (.static Bundle.tN "UNASSIGNED_STACK" Bundle.steD)) (by simp [Bundle.ownAtoms]))
  obtain ⟨sen, hsen⟩ := Cond.staticRefV Y.sentinel L.sentinelStatic L.statics hcS0 hiss (a' (.isRef (.static Bundle.tN "SUPPRESSED_SENTINEL" Bundle.listD)) (by simp [Bundle.ownAtoms]))
  obtain ⟨ci198, i198, fB, hk198, hg198, ha198, hsB, -, hnB, htB, hffB⟩ := Cond.ownField (t := .object "java/lang/Object") Y.found L.cls (by decide +kernel) (a' (.fieldLink Bundle.tN 198 Bundle.tN "backtrace" "Ljava/lang/Object;") (by simp [Bundle.ownAtoms])) (a' (.lays Bundle.tN Bundle.tN "backtrace" "Ljava/lang/Object;") (by simp [Bundle.ownAtoms])) e.platform hpl
  obtain ⟨cellS, hcS', heS, -, hkeep⟩ := X.same.2.2.2.2.2 T.aS cellS0 hcS0
  have hcellS : W.heap[T.aS]? = some cellS := hcS'
  have hout' : ∀ i, (⟨T.aS, i⟩ : Loc) ∉ locs := fun i hmem => by
    have := hlocs _ hmem cellS0 hcS0
    rw [hiss] at this; cases this
  have hknownS : cellS.vm ≠ .unknown := by
    rw [heS]; intro hu
    rw [show cellS0.vm = .unknown from hu] at hiss
    cases hiss
  have hneS : T.aS ≠ a := Nat.ne_of_lt (Nat.lt_of_lt_of_le (Array.getElem?_eq_some_iff.mp hcS0).1 hnew)
  obtain ⟨iM, hffM⟩ := Y.msg
  obtain ⟨tyC, dC, hdC, hdnC⟩ := Cond.laysAt hfound hk Y.cause (a' (.lays cls Bundle.tN "cause" "Ljava/lang/Throwable;") (by simp [Bundle.ownAtoms]))
  obtain ⟨tyS, dS, hdS, hdnS⟩ := Cond.laysAt hfound hk Y.stack (a' (.lays cls Bundle.tN "stackTrace" Bundle.steD) (by simp [Bundle.ownAtoms]))
  obtain ⟨tyP, dP, hdP, hdnP⟩ := Cond.laysAt hfound hk Y.supp (a' (.lays cls Bundle.tN "suppressedExceptions" Bundle.listD) (by simp [Bundle.ownAtoms]))
  obtain ⟨tyM, dM, hdM, hdnM⟩ := Cond.laysAt hfound hk hffM (a' (.lays cls Bundle.tN "detailMessage" "Ljava/lang/String;") (by simp [Bundle.ownAtoms]))
  obtain ⟨tyB, dB, hdB, hdnB⟩ := Cond.laysAt hfound hk hffB (a' (.lays cls Bundle.tN "backtrace" "Ljava/lang/Object;") (by simp [Bundle.ownAtoms]))
  have bC := Cond.laysApart hdB hdC hdnB hdnC (by rw [hnB, Y.causeName]; decide)
  have bS := Cond.laysApart hdB hdS hdnB hdnS (by rw [hnB, Y.stackName]; decide)
  have bP := Cond.laysApart hdB hdP hdnB hdnP (by rw [hnB, Y.suppName]; decide)
  have hskip : SkipFacts T e.platform s (fun u => u) u0 ((preparedCellV T.toThrowableT (freshCell P1.m.cls kX) a u0 sen).withEntry W.cur) :=
    ⟨{ ci198 := ci198, i198 := i198, fBack := fB }, ⟨hk198, hg198, ha198, hsB⟩, by
      have := fresh_default (c := P1.m.cls) tyB
      rw [htB] at this
      simpa [preparedCellV, Cell.setSlot, Cell.withEntry, Array.getElem?_setIfInBounds, bC, bS, bP, bC.symm, bS.symm, bP.symm, defaultValue] using this, fun _ _ => rfl⟩
  obtain ⟨tm, methC, cdC, kC, vm₁, hnC, -, -, -, -, -, -, -, hW₁, st1⟩ := Steps.initColdS (tb := p.tables) (e := e) (below := below) (s := s) (U := W) X.here hexec X.warmed hpl hown (t := Bundle.initS cls) rfl rfl (Bundle.fit_spec hcls).2
    (a' (.methodLink own ic (Bundle.initS cls)) (by simp [Bundle.ownAtoms])) (h (.instanceMethod (Bundle.initS cls)) (by cases names <;> simp [Bundle.ownAtoms, Bundle.chainSAtoms, Bundle.passSAtoms])) (bytes := Bundle.six) (maxL := 2) (h (.code (Bundle.initS cls) Bundle.six 2 none) (by cases names <;> simp [Bundle.ownAtoms, Bundle.chainSAtoms, Bundle.passSAtoms]))
    (f := g) hg (a := a) (msg := msg) (rest := .ref a :: rest) hstack hd6
  cases Option.some.inj (hnC.symm.trans hP1m)
  have X₁ := X.noted hW₁
  obtain ⟨vm₂, X₂, st2⟩ := X₁.ctorMessageOffV hexec (g := { g with stack := .ref a :: rest }) hg hsize T L Z LZ M LM (P1 :: Ps)
    (fun P hP => by rcases List.mem_cons.mp hP with rfl | hP; exact L1; exact hL P hP) ⟨hlink1, hlink⟩ (u0 := u0) (sen := sen) (self := a) hmsg (cell := freshCell P1.m.cls kX) (cellS := cellS)
    hcell (fun _ => by simp) (by simp) rfl rfl hsel0 hselF hcellS hneS hknownS (by rw [hkeep _ (hout' _)]; exact hu0) (by rw [hkeep _ (hout' _)]; exact hsen)
    (Takes.of_laid hk hord tyC (by rw [Y.causeType]; rfl)) (Takes.of_laid hk hord tyS (by rw [Y.stackType]; exact fits_refV_array _ u0)) (Takes.of_laid hk hord tyP (by rw [Y.suppType]; exact fits_refV_object _ sen))
    (Takes.of_laid hk hord tyM (by rw [Y.msgType]; exact fits_refV_object _ ⟨msg, hmsg⟩)) Y.objLocals hskip htr [] hd6
    (by simp only [List.length_cons, hlen]; omega) (by simp only [List.length_cons, hlen]; exact hRlocals)
  have hlt : a < ((W.setVm vm₁).setVm vm₂).heap.size := (Array.getElem?_eq_some_iff.mp hcell).1
  refine ⟨(W.setVm vm₁).setVm vm₂, _, _, X₂, fun y hy => ?_, hlt, rfl, rfl, fun target hwalk => st1 _ (fun acts => ?_)⟩
  · simp only [List.mem_cons, List.not_mem_nil, or_false] at hy
    rcases hy with rfl | rfl | rfl | rfl | rfl <;> rfl
  · rw [doInvoke_state]
    exact st2 _ hwalk
set_option maxHeartbeats 1000000 in
theorem vx_ctorMade0 (X : Stand p l e R s m₀ args below meth c W locs cells slots) (hexec : p.tables.exec = Jvm.exec) (htr : e.platform.stackTraces = false) {own cls : String} {names : List String} {ic : Nat}
    (hown : s.vm.findClass own = some m₀.cls) (hcls : Bundle.fit cls = true) (hnames : ∀ n ∈ names, Bundle.fit n = true)
    (h : ∀ a ∈ Bundle.ownAtoms0 own ic cls names, a.before args s = true)
    (hlocs : ∀ x ∈ locs, ∀ cell, s.heap[x.base]? = some cell → cell.vm.isStatics = false)
    {a : Addr} {cX : ClassId} {kX : Class} (hfoundX : s.vm.findClass cls = some cX) (hkX : s.vm.classes[cX]? = some kX) (hcell : W.heap[a]? = some (freshCell cX kX)) (hnew : s.heap.size ≤ a)
    {g : JFrame} (hg : g.method = m₀) (hsize : g.locals.size = c.maxLocals) {rest : List Value} (hstack : g.stack = .ref a :: .ref a :: rest)
    (hd6 : decode c.code g.pc = .ok (.invokespecial ic, 3))
    (hRframes : names.length + 3 < R.frames) (hRlocals : 2 * g.monitorRoom + ((Value.ref a :: rest).map fun v => v.category).sum + (13 * (names.length + 1) + 41) ≤ R.locals) :
    ∃ (V : State) (ce : Cell) (L : List Loc), Stand p l e R s m₀ args below meth c (V.setCell a ce) (locs ++ L) cells slots ∧ (∀ y ∈ L, y.base = a) ∧ a < V.heap.size ∧ ce.cls = cX ∧ ce.vm = .none ∧
      ∀ target, Steps p.tables e below ((V.setCell a ce).setTop { g with stack := .ref a :: rest, pc := g.pc + 3 }) target → Steps p.tables e below (W.setTop g) target := by
  have howns : e.platform.frameOwnsMonitors = true := by rw [X.admits.platform]
  have hfin : e.platform.finalization = false := by rw [X.admits.platform]
  have hpl : e.platform.magicAccessors = ({} : Platform).magicAccessors := by rw [X.admits.platform]
  have a' : ∀ x, x ∈ Bundle.ownAtoms0 own ic cls names → x.holds args s none s [] = true := fun x hx => h x hx
  obtain ⟨T, Z, L, LZ, Y⟩ := ThrowableC.of_atoms (args := args) howns hfin hpl (fun x hx => h x (by simp [Bundle.ownAtoms0, hx]))
  obtain ⟨P1, Ps, hlen, L1, hL, hP1m, hlink1, hlink⟩ := Bundle.chain0 (args := args) hpl Y.init0 names cls hcls hnames (fun x hx => h x (by simp [Bundle.ownAtoms0, hx]))
  have hfound : s.vm.findClass cls = some P1.m.cls := findClass_of_methodNamed hP1m
  cases Option.some.inj (hfoundX.symm.trans hfound)
  obtain ⟨c1, kX', hc1, hk, hord, -, -, hn6⟩ := Cond.instantiable_spec (a' (.instantiable cls 6) (by simp [Bundle.ownAtoms0]))
  cases Option.some.inj (hc1.symm.trans hfound)
  cases Option.some.inj (hkX.symm.trans hk)
  have hsel0 : selectMethod e.platform s.vm P1.m.cls T.fill0 = .method T.fill0 := by
    obtain ⟨c2, r2, m2, q1, q2, q3, q4, -⟩ := Cond.selects_spec (a' (.selects cls Bundle.tFill0 Bundle.tFill0) (by simp [Bundle.ownAtoms0]))
    cases Option.some.inj (q1.symm.trans hfound)
    cases Option.some.inj (q2.symm.trans (State.methodFound?_of_named Y.fill0 (by decide)))
    cases Option.some.inj (q3.symm.trans Y.fill0)
    rw [Launch.admits_selectMethod X.admits]; exact q4
  have hselF : selectMethod e.platform s.vm P1.m.cls T.fill = .method T.fill := by
    obtain ⟨c2, r2, m2, q1, q2, q3, q4, -⟩ := Cond.selects_spec (a' (.selects cls Bundle.tFill Bundle.tFill) (by simp [Bundle.ownAtoms0]))
    cases Option.some.inj (q1.symm.trans hfound)
    cases Option.some.inj (q2.symm.trans (State.methodFound?_of_named Y.fill (by decide)))
    cases Option.some.inj (q3.symm.trans Y.fill)
    rw [Launch.admits_selectMethod X.admits]; exact q4
  obtain ⟨cellS0, hcS0, hiss⟩ := Y.statics
  obtain ⟨u0, hu0⟩ := Cond.staticRefV Y.unassigned L.unassignedStatic L.statics hcS0 hiss (a' (.isRef (.static Bundle.tN "UNASSIGNED_STACK" Bundle.steD)) (by simp [Bundle.ownAtoms0]))
  obtain ⟨sen, hsen⟩ := Cond.staticRefV Y.sentinel L.sentinelStatic L.statics hcS0 hiss (a' (.isRef (.static Bundle.tN "SUPPRESSED_SENTINEL" Bundle.listD)) (by simp [Bundle.ownAtoms0]))
  obtain ⟨ci198, i198, fB, hk198, hg198, ha198, hsB, -, hnB, htB, hffB⟩ := Cond.ownField (t := .object "java/lang/Object") Y.found L.cls (by decide +kernel) (a' (.fieldLink Bundle.tN 198 Bundle.tN "backtrace" "Ljava/lang/Object;") (by simp [Bundle.ownAtoms0])) (a' (.lays Bundle.tN Bundle.tN "backtrace" "Ljava/lang/Object;") (by simp [Bundle.ownAtoms0])) e.platform hpl
  obtain ⟨cellS, hcS', heS, -, hkeep⟩ := X.same.2.2.2.2.2 T.aS cellS0 hcS0
  have hcellS : W.heap[T.aS]? = some cellS := hcS'
  have hout' : ∀ i, (⟨T.aS, i⟩ : Loc) ∉ locs := fun i hmem => by
    have := hlocs _ hmem cellS0 hcS0
    rw [hiss] at this; cases this
  have hknownS : cellS.vm ≠ .unknown := by
    rw [heS]; intro hu
    rw [show cellS0.vm = .unknown from hu] at hiss
    cases hiss
  have hneS : T.aS ≠ a := Nat.ne_of_lt (Nat.lt_of_lt_of_le (Array.getElem?_eq_some_iff.mp hcS0).1 hnew)
  obtain ⟨iM, hffM⟩ := Y.msg
  obtain ⟨tyC, dC, hdC, hdnC⟩ := Cond.laysAt hfound hk Y.cause (a' (.lays cls Bundle.tN "cause" "Ljava/lang/Throwable;") (by simp [Bundle.ownAtoms0]))
  obtain ⟨tyS, dS, hdS, hdnS⟩ := Cond.laysAt hfound hk Y.stack (a' (.lays cls Bundle.tN "stackTrace" Bundle.steD) (by simp [Bundle.ownAtoms0]))
  obtain ⟨tyP, dP, hdP, hdnP⟩ := Cond.laysAt hfound hk Y.supp (a' (.lays cls Bundle.tN "suppressedExceptions" Bundle.listD) (by simp [Bundle.ownAtoms0]))
  obtain ⟨tyM, dM, hdM, hdnM⟩ := Cond.laysAt hfound hk hffM (a' (.lays cls Bundle.tN "detailMessage" "Ljava/lang/String;") (by simp [Bundle.ownAtoms0]))
  obtain ⟨tyB, dB, hdB, hdnB⟩ := Cond.laysAt hfound hk hffB (a' (.lays cls Bundle.tN "backtrace" "Ljava/lang/Object;") (by simp [Bundle.ownAtoms0]))
  have bC := Cond.laysApart hdB hdC hdnB hdnC (by rw [hnB, Y.causeName]; decide)
  have bS := Cond.laysApart hdB hdS hdnB hdnS (by rw [hnB, Y.stackName]; decide)
  have bP := Cond.laysApart hdB hdP hdnB hdnP (by rw [hnB, Y.suppName]; decide)
  have hskip : SkipFacts T e.platform s (fun u => u) u0 ((preparedCellV T.toThrowableT (freshCell P1.m.cls kX) a u0 sen).withEntry W.cur) :=
    ⟨{ ci198 := ci198, i198 := i198, fBack := fB }, ⟨hk198, hg198, ha198, hsB⟩, by
      have := fresh_default (c := P1.m.cls) tyB
      rw [htB] at this
      simpa [preparedCellV, Cell.setSlot, Cell.withEntry, Array.getElem?_setIfInBounds, bC, bS, bP, bC.symm, bS.symm, bP.symm, defaultValue] using this, fun _ _ => rfl⟩
  obtain ⟨tm, methC, cdC, kC, vm₁, hnC, -, -, -, -, -, -, -, hW₁, st1⟩ := Steps.initCold (tb := p.tables) (e := e) (below := below) (s := s) (U := W) X.here hexec X.warmed hpl hown (t := Bundle.init0 cls) rfl rfl (Bundle.fit_spec hcls).2
    (a' (.methodLink own ic (Bundle.init0 cls)) (by simp [Bundle.ownAtoms0])) (h (.instanceMethod (Bundle.init0 cls)) (by cases names <;> simp [Bundle.ownAtoms0, Bundle.chain0Atoms, Bundle.passAtoms])) (bytes := Bundle.five) (maxL := 1) (h (.code (Bundle.init0 cls) Bundle.five 1 none) (by cases names <;> simp [Bundle.ownAtoms0, Bundle.chain0Atoms, Bundle.passAtoms]))
    (f := g) hg (a := a) (rest := .ref a :: rest) hstack hd6
  cases Option.some.inj (hnC.symm.trans hP1m)
  have X₁ := X.noted hW₁
  obtain ⟨vm₂, X₂, st2⟩ := X₁.ctorPlainOffV hexec (g := { g with stack := .ref a :: rest }) hg hsize T L Z LZ (P1 :: Ps)
    (fun P hP => by rcases List.mem_cons.mp hP with rfl | hP; exact L1; exact hL P hP) ⟨hlink1, hlink⟩ (u0 := u0) (sen := sen) (self := a) (cell := freshCell P1.m.cls kX) (cellS := cellS)
    hcell (fun _ => by simp) (by simp) rfl rfl hsel0 hselF hcellS hneS hknownS (by rw [hkeep _ (hout' _)]; exact hu0) (by rw [hkeep _ (hout' _)]; exact hsen)
    (Takes.of_laid hk hord tyC (by rw [Y.causeType]; rfl)) (Takes.of_laid hk hord tyS (by rw [Y.stackType]; exact fits_refV_array _ u0)) (Takes.of_laid hk hord tyP (by rw [Y.suppType]; exact fits_refV_object _ sen)) Y.objLocals hskip htr [] hd6
    (by simp only [List.length_cons, hlen]; omega) (by simp only [List.length_cons, hlen]; exact hRlocals)
  have hlt : a < ((W.setVm vm₁).setVm vm₂).heap.size := (Array.getElem?_eq_some_iff.mp hcell).1
  refine ⟨(W.setVm vm₁).setVm vm₂, _, _, X₂, fun y hy => ?_, hlt, rfl, rfl, fun target hwalk => st1 _ (fun acts => ?_)⟩
  · simp only [List.mem_cons, List.not_mem_nil, or_false] at hy
    rcases hy with rfl | rfl | rfl | rfl <;> rfl
  · rw [doInvoke_state]
    exact st2 _ hwalk
end VXK
section VXK2
variable {p : Program} {l : Launch} {e : Env} {R : Room} {s : State} {m : MethodId} {args : Array Value} {below : List Frame} {meth : Method} {c : Code} {H : Heap} {locs : List Loc} {cells slots : Nat} {Q : State → Prop}
variable {ls : Array Slot} {rest : List Value} {D : va_G} {cl : List vw_C} {tys : List (ClassId × FieldType)} {ws : va_W}
/-- 'new E("text")' that isn't thrown at once: the object goes on the stack -/
theorem vx_makeS {cc : ByteArray} {pc : Nat} (hexec : p.tables.exec = Jvm.exec) (hb : c.code = cc) (hl : l.stackTraces = false) {own cls text : String} {names : List String} {ik is ic sa ci : Nat} {A : Nat → Prop} {T0 : u_T}
    (hown : s.vm.findClass own = some m.cls) (hcls : Bundle.fit cls = true) (hnames : ∀ n ∈ names, Bundle.fit n = true)
    (hk : (Cond.classLink own ik cls).before args s = true) (hini : (Cond.initialized cls).before args s = true) (hstr : vk_R own is text sa s) (hat : ∀ w ∈ vx_atS own ic cls names, w.before args s = true)
    (hgood : ∀ w ∈ Cond.classLink own ik cls :: Cond.initialized cls :: vx_atS own ic cls names, vx_ot w = true)
    (hU : vx_Zq Bundle.tN "UNASSIGNED_STACK" Bundle.steD A s s.heap) (hN : vx_Zq Bundle.tN "SUPPRESSED_SENTINEL" Bundle.listD A s s.heap) (hS : va_S A s.heap H locs) (hsize : ls.size = c.maxLocals)
    (d0 : decode cc pc = .ok (.new ik, 3)) (d3 : decode cc (pc + 3) = .ok (.dup, 1)) (d4 : decode cc (pc + 4) = .ok (.ldc is, 2)) (d6 : decode cc (pc + 6) = .ok (.invokespecial ic, 3))
    (hK : va_K D cl tys s) (hP : va_P D cl ws H) (hD : va_D A ws) (hA : ∀ q, s.heap.size ≤ q → A q) (hc : cl[ci]? = some (cls, T0, 0))
    (hRframes : names.length + 3 < R.frames) (hRlocals : (rest.map fun v => v.category).sum + (13 * (names.length + 1) + 43) ≤ R.locals) (hRcells : cells + 1 ≤ R.cells) (hRslots : slots + 6 ≤ R.slots)
    (kk : ∀ (q : Nat) (H1 : Heap), va_P D cl (ws ++ [(q, .inr (ci, []))]) H1 → va_D A (ws ++ [(q, .inr (ci, []))]) → va_S A s.heap H1 locs → W p l e R s m args below meth c H1 locs (cells + 1) (slots + 6) Q (F0 m (pc + 9) ls (.ref q :: rest))) :
    W p l e R s m args below meth c H locs cells slots Q (F0 m pc ls rest) := by
  intro T hT X
  subst hT
  have htr : e.platform.stackTraces = false := (show e.platform.stackTraces = l.stackTraces by rw [X.admits.platform]).trans hl
  have Y := vx_rebase X (R' := { frames := R.frames, locals := R.locals, cells := 1, slots := 6 }) (Nat.le_refl _) (Nat.le_refl _) hRcells hRslots
  obtain ⟨s', hA'⟩ : ∃ z, z = (T.setVm s.vm).setFrames (.invoking m args :: below) := ⟨_, rfl⟩
  rw [← hA'] at Y
  have hvm : s'.vm = s.vm := by rw [hA']; rfl
  have hhp : s'.heap = T.heap := by rw [hA']; rfl
  have hW0 : s.WarmedH s'.vm := by rw [hvm]; exact State.WarmedH.refl s
  have hat' : ∀ w ∈ vx_atS own ic cls names, w.before args s' = true := fun w hw => vx_ot_at hW0 hvm.symm (hgood w (List.mem_cons_of_mem _ (List.mem_cons_of_mem _ hw))) (hat w hw)
  have hk' : (Cond.classLink own ik cls).before args s' = true := vx_ot_at hW0 hvm.symm (hgood _ List.mem_cons_self) hk
  have hini' : (Cond.initialized cls).before args s' = true := vx_ot_at hW0 hvm.symm (hgood _ (List.mem_cons_of_mem _ List.mem_cons_self)) hini
  have hU' : vx_Zq Bundle.tN "UNASSIGNED_STACK" Bundle.steD A s' s'.heap := by rw [hhp]; exact vx_Zq.moved hW0.alike (hU.kept hS.2.1)
  have hN' : vx_Zq Bundle.tN "SUPPRESSED_SENTINEL" Bundle.listD A s' s'.heap := by rw [hhp]; exact vx_Zq.moved hW0.alike (hN.kept hS.2.1)
  have h : ∀ w ∈ Bundle.ownAtoms own ic cls names, w.before args s' = true := vx_own hat' (vx_isRefq hU'.1) (vx_isRefq hN'.1) hU'.2.word hN'.2.word
  have hown' : s'.vm.findClass own = some m.cls := by rw [hvm]; exact hown
  have hins : (Cond.instantiable cls 6).before args s' = true := h _ (by simp [Bundle.ownAtoms])
  obtain ⟨vm₁, cX, kX, hfX, hkX, -, -, X₁, st1⟩ := Y.newCold hexec (own := own) (C := cls) (index := ik) (n := 6) hown' hk' hins hini'
    (g := F0 m pc ls rest) rfl (by rw [hb]; exact d0) (Nat.le_refl _) (Nat.le_refl _)
  generalize hT1 : (T.setVm vm₁).pushCell { cls := cX, slots := kX.instanceTypes.map defaultValue, vm := .none } = T1 at X₁ st1
  have hcat : (Value.ref T.heap.size).category = 1 := rfl
  have hcellA : T1.heap[T.heap.size]? = some (freshCell cX kX) := by rw [← hT1]; exact State.heap_pushCell_size _ _
  have d3' : decode c.code (pc + 3) = .ok (.dup, 1) := by rw [hb]; exact d3
  have d4' : decode c.code (pc + 4) = .ok (.ldc is, 2) := by rw [hb]; exact d4
  have hstr' : vk_R own is text sa s' := vk_R.warm hW0 hstr
  obtain ⟨V, ce, L, Z, hL, hlt, hcl9, hvm9, st⟩ := vx_ctorMadeS X₁ hexec htr (own := own) (cls := cls) (names := names) (ic := ic) hown' hcls hnames h (fun x hx => nomatch hx) hfX hkX hcellA (by rw [hhp]; exact Nat.le_refl _) (msg := .ref sa) rfl
    (g := { method := m, pc := pc + 6, locals := ls, stack := .ref sa :: .ref T.heap.size :: .ref T.heap.size :: rest, locked := none }) rfl hsize (rest := rest) rfl
    (by rw [hb]; exact d6) hRframes (by simp only [List.map_cons, List.sum_cons, hcat]; omega)
  have Z0 := Stand.forget (locs := []) Z (fun y hy => by rw [hL y hy, hhp]; exact Nat.le_refl _)
  obtain ⟨f1, f2⟩ := vx_frame Z0.same
  rw [hhp] at f1 f2
  have hcid : ce.cls = D.1 ci := by
    rw [hcl9]
    have h1 := (hK.1 ci _ hc).2.1
    rw [hvm] at hfX
    exact Option.some.inj (hfX.symm.trans h1)
  have hh : (V.setCell T.heap.size ce).heap[T.heap.size]? = some ce := heapAt_setCell_self (s := V) ce hlt
  subst hA'
  have X5 := vx_back9 X Y Z0
  have X6 : Stand p l e R s m args below meth c (V.setCell T.heap.size ce) locs (cells + 1) (slots + 6) := { X5 with same := X5.same.mono (by omega) (by omega) }
  have hk9 : ∀ (k : Nat) (x : Nat × va_E), ws[k]? = some x → (V.setCell T.heap.size ce).heap[x.1]? = T.heap[x.1]? := fun k x hx => f2 x.1 ((hP k x hx).lt) (fun z hz => nomatch hz)
  obtain ⟨t, a1, b1⟩ := kk T.heap.size (V.setCell T.heap.size ce).heap ((hP.kept hk9).app (fun k x hx => by
      have hz : k < 1 := (List.getElem?_eq_some_iff.mp hx).1
      rw [show k = 0 by omega] at hx
      cases hx
      exact ⟨_, hc, ce, hh, hcid, hvm9, fun k hk => absurd hk (Nat.not_lt_zero k)⟩)) (hD.push hP rfl (hA _ hS.1)) ⟨Nat.le_trans hS.1 f1, fun q h1 h2 => (f2 q (Nat.lt_of_lt_of_le h1 hS.1) (fun z hz => nomatch hz)).trans (hS.2.1 q h1 h2), hS.2.2⟩ _ rfl X6
  refine ⟨t, st1 _ ?_, b1⟩
  show Steps p.tables e below (T1.setTop { method := m, pc := pc + 3, locals := ls, stack := .ref T.heap.size :: rest, locked := none }) _
  jvm_step X₁.here [X₁.here.top, hexec, d3', Value.category]
  exact X₁.ldcString hexec (own := own) (text := text) (index := is) (a := sa) hown' hstr'.1 hstr'.2
    (g := { method := m, pc := pc + 4, locals := ls, stack := .ref T.heap.size :: .ref T.heap.size :: rest, locked := none }) rfl d4' _ (st _ a1)
/-- 'new E()' that isn't thrown at once: the object goes on the stack -/
theorem vx_make0 {cc : ByteArray} {pc : Nat} (hexec : p.tables.exec = Jvm.exec) (hb : c.code = cc) (hl : l.stackTraces = false) {own cls : String} {names : List String} {ik ic ci : Nat} {A : Nat → Prop} {T0 : u_T}
    (hown : s.vm.findClass own = some m.cls) (hcls : Bundle.fit cls = true) (hnames : ∀ n ∈ names, Bundle.fit n = true)
    (hk : (Cond.classLink own ik cls).before args s = true) (hini : (Cond.initialized cls).before args s = true) (hat : ∀ w ∈ vx_at0 own ic cls names, w.before args s = true)
    (hgood : ∀ w ∈ Cond.classLink own ik cls :: Cond.initialized cls :: vx_at0 own ic cls names, vx_ot w = true)
    (hU : vx_Zq Bundle.tN "UNASSIGNED_STACK" Bundle.steD A s s.heap) (hN : vx_Zq Bundle.tN "SUPPRESSED_SENTINEL" Bundle.listD A s s.heap) (hS : va_S A s.heap H locs) (hsize : ls.size = c.maxLocals)
    (d0 : decode cc pc = .ok (.new ik, 3)) (d3 : decode cc (pc + 3) = .ok (.dup, 1)) (d4 : decode cc (pc + 4) = .ok (.invokespecial ic, 3))
    (hK : va_K D cl tys s) (hP : va_P D cl ws H) (hD : va_D A ws) (hA : ∀ q, s.heap.size ≤ q → A q) (hc : cl[ci]? = some (cls, T0, 0))
    (hRframes : names.length + 3 < R.frames) (hRlocals : (rest.map fun v => v.category).sum + (13 * (names.length + 1) + 42) ≤ R.locals) (hRcells : cells + 1 ≤ R.cells) (hRslots : slots + 6 ≤ R.slots)
    (kk : ∀ (q : Nat) (H1 : Heap), va_P D cl (ws ++ [(q, .inr (ci, []))]) H1 → va_D A (ws ++ [(q, .inr (ci, []))]) → va_S A s.heap H1 locs → W p l e R s m args below meth c H1 locs (cells + 1) (slots + 6) Q (F0 m (pc + 7) ls (.ref q :: rest))) :
    W p l e R s m args below meth c H locs cells slots Q (F0 m pc ls rest) := by
  intro T hT X
  subst hT
  have htr : e.platform.stackTraces = false := (show e.platform.stackTraces = l.stackTraces by rw [X.admits.platform]).trans hl
  have Y := vx_rebase X (R' := { frames := R.frames, locals := R.locals, cells := 1, slots := 6 }) (Nat.le_refl _) (Nat.le_refl _) hRcells hRslots
  obtain ⟨s', hA'⟩ : ∃ z, z = (T.setVm s.vm).setFrames (.invoking m args :: below) := ⟨_, rfl⟩
  rw [← hA'] at Y
  have hvm : s'.vm = s.vm := by rw [hA']; rfl
  have hhp : s'.heap = T.heap := by rw [hA']; rfl
  have hW0 : s.WarmedH s'.vm := by rw [hvm]; exact State.WarmedH.refl s
  have hat' : ∀ w ∈ vx_at0 own ic cls names, w.before args s' = true := fun w hw => vx_ot_at hW0 hvm.symm (hgood w (List.mem_cons_of_mem _ (List.mem_cons_of_mem _ hw))) (hat w hw)
  have hk' : (Cond.classLink own ik cls).before args s' = true := vx_ot_at hW0 hvm.symm (hgood _ List.mem_cons_self) hk
  have hini' : (Cond.initialized cls).before args s' = true := vx_ot_at hW0 hvm.symm (hgood _ (List.mem_cons_of_mem _ List.mem_cons_self)) hini
  have hU' : vx_Zq Bundle.tN "UNASSIGNED_STACK" Bundle.steD A s' s'.heap := by rw [hhp]; exact vx_Zq.moved hW0.alike (hU.kept hS.2.1)
  have hN' : vx_Zq Bundle.tN "SUPPRESSED_SENTINEL" Bundle.listD A s' s'.heap := by rw [hhp]; exact vx_Zq.moved hW0.alike (hN.kept hS.2.1)
  have h : ∀ w ∈ Bundle.ownAtoms0 own ic cls names, w.before args s' = true := vx_own hat' (vx_isRefq hU'.1) (vx_isRefq hN'.1) hU'.2.word hN'.2.word
  have hown' : s'.vm.findClass own = some m.cls := by rw [hvm]; exact hown
  have hins : (Cond.instantiable cls 6).before args s' = true := h _ (by simp [Bundle.ownAtoms0])
  obtain ⟨vm₁, cX, kX, hfX, hkX, -, -, X₁, st1⟩ := Y.newCold hexec (own := own) (C := cls) (index := ik) (n := 6) hown' hk' hins hini'
    (g := F0 m pc ls rest) rfl (by rw [hb]; exact d0) (Nat.le_refl _) (Nat.le_refl _)
  generalize hT1 : (T.setVm vm₁).pushCell { cls := cX, slots := kX.instanceTypes.map defaultValue, vm := .none } = T1 at X₁ st1
  have hcat : (Value.ref T.heap.size).category = 1 := rfl
  have hcellA : T1.heap[T.heap.size]? = some (freshCell cX kX) := by rw [← hT1]; exact State.heap_pushCell_size _ _
  have d3' : decode c.code (pc + 3) = .ok (.dup, 1) := by rw [hb]; exact d3
  obtain ⟨V, ce, L, Z, hL, hlt, hcl9, hvm9, st⟩ := vx_ctorMade0 X₁ hexec htr (own := own) (cls := cls) (names := names) (ic := ic) hown' hcls hnames h (fun x hx => nomatch hx) hfX hkX hcellA (by rw [hhp]; exact Nat.le_refl _)
    (g := { method := m, pc := pc + 4, locals := ls, stack := .ref T.heap.size :: .ref T.heap.size :: rest, locked := none }) rfl hsize (rest := rest) rfl
    (by rw [hb]; exact d4) hRframes (by simp only [List.map_cons, List.sum_cons, hcat]; omega)
  have Z0 := Stand.forget (locs := []) Z (fun y hy => by rw [hL y hy, hhp]; exact Nat.le_refl _)
  obtain ⟨f1, f2⟩ := vx_frame Z0.same
  rw [hhp] at f1 f2
  have hcid : ce.cls = D.1 ci := by
    rw [hcl9]
    have h1 := (hK.1 ci _ hc).2.1
    rw [hvm] at hfX
    exact Option.some.inj (hfX.symm.trans h1)
  have hh : (V.setCell T.heap.size ce).heap[T.heap.size]? = some ce := heapAt_setCell_self (s := V) ce hlt
  subst hA'
  have X5 := vx_back9 X Y Z0
  have X6 : Stand p l e R s m args below meth c (V.setCell T.heap.size ce) locs (cells + 1) (slots + 6) := { X5 with same := X5.same.mono (by omega) (by omega) }
  have hk9 : ∀ (k : Nat) (x : Nat × va_E), ws[k]? = some x → (V.setCell T.heap.size ce).heap[x.1]? = T.heap[x.1]? := fun k x hx => f2 x.1 ((hP k x hx).lt) (fun z hz => nomatch hz)
  obtain ⟨t, a1, b1⟩ := kk T.heap.size (V.setCell T.heap.size ce).heap ((hP.kept hk9).app (fun k x hx => by
      have hz : k < 1 := (List.getElem?_eq_some_iff.mp hx).1
      rw [show k = 0 by omega] at hx
      cases hx
      exact ⟨_, hc, ce, hh, hcid, hvm9, fun k hk => absurd hk (Nat.not_lt_zero k)⟩)) (hD.push hP rfl (hA _ hS.1)) ⟨Nat.le_trans hS.1 f1, fun q h1 h2 => (f2 q (Nat.lt_of_lt_of_le h1 hS.1) (fun z hz => nomatch hz)).trans (hS.2.1 q h1 h2), hS.2.2⟩ _ rfl X6
  refine ⟨t, st1 _ ?_, b1⟩
  show Steps p.tables e below (T1.setTop { method := m, pc := pc + 3, locals := ls, stack := .ref T.heap.size :: rest, locked := none }) _
  jvm_step X₁.here [X₁.here.top, hexec, d3', Value.category]
  exact st _ a1
/-- 'throw x' of an object that was made before -/
theorem vx_athrow {cc : ByteArray} {pc : Nat} (hexec : p.tables.exec = Jvm.exec) (hb : c.code = cc) {q : Addr} (hdg : decode cc pc = .ok (.athrow, 1)) (k : vx_W p l e R s m args below meth c H locs cells slots Q (F0 m pc ls rest) q) : W p l e R s m args below meth c H locs cells slots Q (F0 m pc ls (.ref q :: rest)) := by
  intro T hT X
  obtain ⟨t, st, hq⟩ := k T hT X
  refine ⟨t, ?_, hq⟩
  have hdg' : decode c.code pc = .ok (.athrow, 1) := by rw [hb]; exact hdg
  jvm_step X.here [X.here.top, hexec, hdg', athrow.wp_sem]
  exact st
end VXK2
/-! ===== END ===== -/
/-! ===== BEGIN a constructor that throws (launches without stack traces) ===== -/
section VXIA
variable {p : Program} {l : Launch} {e : Env} {R : Room} {s : State} {m : MethodId} {args : Array Value} {below : List Frame} {meth : Method} {c : Code} {T : State} {locs : List Loc} {cells slots : Nat}
theorem vx_callI (X : Stand p l e R s m args below meth c T locs cells slots) (hexec : p.tables.exec = Jvm.exec) {own : String} {index : Nat} {y : MethodName} {bytes : ByteArray} {maxL : Nat}
    (hown : s.vm.findClass own = some m.cls) (hy1 : y.name = "<init>") (hlink : (Cond.methodLink own index y).before args s = true) (hinst : (Cond.instanceMethod y).before args s = true)
    (hcode : (Cond.code y bytes maxL none).before args s = true) (hy : y.cls ≠ "java/lang/invoke/MethodHandle" ∧ y.cls ≠ "java/lang/invoke/VarHandle")
    {W9 : Nat} {Pre : Pt → Array Value → Prop} {Post : Pt → Array Value → Option Value → Pt → Prop} {PostX : Pt → Array Value → Addr → Pt → Prop} (hK : vx_Back l R p e below s args y 3 W9 Pre Post PostX)
    {g : JFrame} (hg : g.method = m) (hsize : g.locals.size = c.maxLocals) {a : Addr} {argsL rest : List Value} (hlen : ∀ sig, parseMethodDescriptor y.desc = some sig → argsL.length = sig.parameters.length)
    (hstack : g.stack = argsL.reverse ++ .ref a :: rest) (hW : 2 * g.monitorRoom + (rest.map fun v => v.category).sum ≤ W9) (hdg : decode c.code g.pc = .ok (.invokespecial index, 3))
    (hpre : ∀ vm₁, s.WarmedH vm₁ → Pre ⟨T.setVm vm₁, locs, cells, slots⟩ (Value.ref a :: argsL).toArray) :
    (∃ (v : Option Value) (vm₁ : Vm) (B : Pt), s.WarmedH vm₁ ∧ Stand p l e R s m args below meth c B.U B.locs B.cells B.slots ∧ Post ⟨T.setVm vm₁, locs, cells, slots⟩ (Value.ref a :: argsL).toArray v B ∧
      ∀ target, Steps p.tables e below (B.U.setTop { g with pc := g.pc + 3, stack := v.toList ++ rest }) target → Steps p.tables e below (T.setTop g) target) ∨
    (∃ (q : Addr) (vm₁ : Vm) (B : Pt), s.WarmedH vm₁ ∧ Stand p l e R s m args below meth c B.U B.locs B.cells B.slots ∧ PostX ⟨T.setVm vm₁, locs, cells, slots⟩ (Value.ref a :: argsL).toArray q B ∧
      Steps p.tables e below (T.setTop g) ((B.U.setTop { g with stack := rest }).pushFrame (.throwing q))) := by
  subst hg
  have hpl : e.platform.magicAccessors = ({} : Platform).magicAccessors := by rw [X.admits.platform]
  obtain ⟨mk, methM, cM, kP, vm₁, hnamed, hmethM, hcodeM, -, hlocalsM, -, hkP, -, hW₁, hstep₁⟩ := Steps.initColdArgs (e := e) X.here hexec X.warmed hpl hown hy1 hy hlink hinst hcode (f := g) rfl hlen hstack hdg
  have X₁ := X.noted hW₁
  rcases hK g.method meth c ⟨T.setVm vm₁, locs, cells, slots⟩ { g with stack := rest } (.invokespecial index) mk (Value.ref a :: argsL).toArray X₁ rfl hsize hdg hW (X₁.named hnamed) (hpre vm₁ X₁.warmed) with ⟨v, B, X', hpost, hsteps⟩ | ⟨q, B, X', hpost, hsteps⟩
  · exact Or.inl ⟨v, vm₁, B, X₁.warmed, X', hpost, fun target h => hstep₁ _ fun acts => by rw [doInvoke_state]; exact hsteps.trans h⟩
  · exact Or.inr ⟨q, vm₁, B, X₁.warmed, X', hpost, hstep₁ _ fun acts => by rw [doInvoke_state]; exact hsteps⟩
end VXIA
section VXIB
variable {p : Program} {l : Launch} {e : Env} {R : Room} {s : State} {m : MethodId} {args : Array Value} {below : List Frame} {meth : Method} {c : Code} {H : Heap} {locs : List Loc} {cells slots : Nat}
variable {y : MethodName} {bytes cc : ByteArray} {maxL nL mc ms n index : Nat} {ret : Option FieldType} {ws : List Cond} {rm : Room} {Pc : Array Value → State → Prop} {Qc : Array Value → State → Outcome → State → Prop} {XC : String → State → State → Prop} {free : Addr → Prop} {Ts : List Cond} {own C : String} {b : Addr} {As rest : List Value} {g : JFrame}
theorem vx_runI (S : CallFix p m c cc nL s args Ts own) (hM : vx_Met l y ws rm Pc Qc XC mc ms free) (cw : CallB R s args own index y bytes maxL none ws rm mc ms n ∧ y.name = "<init>" ∧ (Cond.instanceMethod y).before args s = true) (hp : PreS s H Pc (.ref b :: As))
    (hg : g.method = m) (hn : As.length = n) (hsize : g.locals.size = nL) (hstack : g.stack = As.reverse ++ .ref b :: rest) (hW : 2 * g.monitorRoom + (rest.map fun v => v.category).sum ≤ 8) (hdg : decode cc g.pc = .ok (.invokespecial index, 3)) (hf : cells + mc ≤ R.cells ∧ slots + ms ≤ R.slots) :
    vx_Run p l e R s m args below meth c H locs cells slots mc ms g rest (Qc (Value.ref b :: As).toArray) XC free := by
  have hK : vx_Back l R p e below s args y 3 8 (PreOf R mc ms Pc) (PostOf Qc mc ms free) (vx_Post XC mc ms free) := vx_callBack cw.1 hM hp.1
  obtain ⟨⟨-, -, -, -, -, -, hcode, -, hy, hlen, hl⟩, hy1, hin⟩ := cw
  obtain ⟨hx, hb, hml, ho, -⟩ := S
  have hPc := hp.2
  intro T hT X
  rcases vx_callI X hx (bytes := bytes) (maxL := maxL) ho hy1 hl hin hcode hy hK hg (hsize.trans hml.symm) (a := b) (argsL := As) (rest := rest) (fun sig h => hn.trans (hlen sig h)) hstack hW (by rw [hb]; exact hdg)
    (fun vm₁ hW₁ => ⟨hf.1, hf.2, hPc (T.setVm vm₁) hT hW₁⟩) with ⟨v, vm₁, ⟨U', l2, c2, s2⟩, hW₁, X', ⟨g', mk, t, L, e1, e2, hq, h1, hL, h2, h3⟩, st⟩ | ⟨q, vm₁, ⟨U', l2, c2, s2⟩, hW₁, X', ⟨g', mk, t, L, E, ce, e1, e2, hq, hce, hcv, hcl, h1, hL, h2, h3⟩, st⟩
  · dsimp only [Pt.U, Pt.locs, Pt.cells, Pt.slots] at X' e1 e2 h1 h2 h3 st
    subst h1; subst h2; subst h3
    exact Or.inl ⟨v, (T.setVm vm₁).calling g' mk (Value.ref b :: As).toArray, t, U', L, hT, X', hL, e1, e2, hq, st⟩
  · dsimp only [Pt.U, Pt.locs, Pt.cells, Pt.slots] at X' e1 e2 h1 h2 h3 st hcl
    subst h1; subst h2; subst h3
    exact Or.inr ⟨q, (T.setVm vm₁).calling g' mk (Value.ref b :: As).toArray, t, U', L, E, ce, hT, X', hL, e1, e2, hq, hce, hcv, vx_cls hW₁ hcl, st⟩
end VXIB
/-! ===== END ===== -/
/-! ===== BEGIN a private constructor of a nest mate that throws ===== -/
section VXIC
variable {p : Program} {l : Launch} {e : Env} {R : Room} {s : State} {m : MethodId} {args : Array Value} {below : List Frame} {meth : Method} {c : Code} {T : State} {locs : List Loc} {cells slots : Nat}
theorem vx_callIN (X : Stand p l e R s m args below meth c T locs cells slots) (hexec : p.tables.exec = Jvm.exec) {own : String} {index : Nat} {host : String} {y : MethodName} {bytes : ByteArray} {maxL : Nat}
    (hown : s.vm.findClass own = some m.cls) (hy1 : y.name = "<init>") (hlink : (Cond.methodLinkNest own index y host).before args s = true) (hinst : (Cond.instanceMethod y).before args s = true)
    (hcode : (Cond.code y bytes maxL none).before args s = true) (hy : y.cls ≠ "java/lang/invoke/MethodHandle" ∧ y.cls ≠ "java/lang/invoke/VarHandle")
    {W9 : Nat} {Pre : Pt → Array Value → Prop} {Post : Pt → Array Value → Option Value → Pt → Prop} {PostX : Pt → Array Value → Addr → Pt → Prop} (hK : vx_Back l R p e below s args y 3 W9 Pre Post PostX)
    {g : JFrame} (hg : g.method = m) (hsize : g.locals.size = c.maxLocals) {a : Addr} {argsL rest : List Value} (hlen : ∀ sig, parseMethodDescriptor y.desc = some sig → argsL.length = sig.parameters.length)
    (hstack : g.stack = argsL.reverse ++ .ref a :: rest) (hW : 2 * g.monitorRoom + (rest.map fun v => v.category).sum ≤ W9) (hdg : decode c.code g.pc = .ok (.invokespecial index, 3))
    (hpre : ∀ vm₁, s.WarmedH vm₁ → Pre ⟨T.setVm vm₁, locs, cells, slots⟩ (Value.ref a :: argsL).toArray) :
    (∃ (v : Option Value) (vm₁ : Vm) (B : Pt), s.WarmedH vm₁ ∧ Stand p l e R s m args below meth c B.U B.locs B.cells B.slots ∧ Post ⟨T.setVm vm₁, locs, cells, slots⟩ (Value.ref a :: argsL).toArray v B ∧
      ∀ target, Steps p.tables e below (B.U.setTop { g with pc := g.pc + 3, stack := v.toList ++ rest }) target → Steps p.tables e below (T.setTop g) target) ∨
    (∃ (q : Addr) (vm₁ : Vm) (B : Pt), s.WarmedH vm₁ ∧ Stand p l e R s m args below meth c B.U B.locs B.cells B.slots ∧ PostX ⟨T.setVm vm₁, locs, cells, slots⟩ (Value.ref a :: argsL).toArray q B ∧
      Steps p.tables e below (T.setTop g) ((B.U.setTop { g with stack := rest }).pushFrame (.throwing q))) := by
  subst hg
  have hpl : e.platform.magicAccessors = ({} : Platform).magicAccessors := by rw [X.admits.platform]
  obtain ⟨mk, methM, cM, kP, vm₁, hnamed, hmethM, hcodeM, -, hlocalsM, -, hkP, -, hW₁, hstep₁⟩ := Steps.initColdArgsNest (e := e) X.here hexec X.warmed hpl hown hy1 hy hlink hinst hcode (f := g) rfl hlen hstack hdg
  have X₁ := X.noted hW₁
  rcases hK g.method meth c ⟨T.setVm vm₁, locs, cells, slots⟩ { g with stack := rest } (.invokespecial index) mk (Value.ref a :: argsL).toArray X₁ rfl hsize hdg hW (X₁.named hnamed) (hpre vm₁ X₁.warmed) with ⟨v, B, X', hpost, hsteps⟩ | ⟨q, B, X', hpost, hsteps⟩
  · exact Or.inl ⟨v, vm₁, B, X₁.warmed, X', hpost, fun target h => hstep₁ _ fun acts => by rw [doInvoke_state]; exact hsteps.trans h⟩
  · exact Or.inr ⟨q, vm₁, B, X₁.warmed, X', hpost, hstep₁ _ fun acts => by rw [doInvoke_state]; exact hsteps⟩
end VXIC
section VXID
variable {p : Program} {l : Launch} {e : Env} {R : Room} {s : State} {m : MethodId} {args : Array Value} {below : List Frame} {meth : Method} {c : Code} {H : Heap} {locs : List Loc} {cells slots : Nat}
theorem vx_runIN {y : MethodName} {bytes cc : ByteArray} {maxL nL mc ms n index : Nat} {ws : List Cond} {rm : Room} {Pc : Array Value → State → Prop} {Qc : Array Value → State → Outcome → State → Prop} {XC : String → State → State → Prop} {free : Addr → Prop} {Ts : List Cond} {own host : String} {b : Addr} {As rest : List Value} {g : JFrame}
    (S : CallFix p m c cc nL s args Ts own) (hM : vx_Met l y ws rm Pc Qc XC mc ms free) (cw : va_CN R s args own index y host bytes maxL none ws rm mc ms n ∧ y.name = "<init>" ∧ (Cond.instanceMethod y).before args s = true) (hp : PreS s H Pc (.ref b :: As))
    (hg : g.method = m) (hn : As.length = n) (hsize : g.locals.size = nL) (hstack : g.stack = As.reverse ++ .ref b :: rest) (hW : 2 * g.monitorRoom + (rest.map fun v => v.category).sum ≤ 8) (hdg : decode cc g.pc = .ok (.invokespecial index, 3)) (hf : cells + mc ≤ R.cells ∧ slots + ms ≤ R.slots) :
    vx_Run p l e R s m args below meth c H locs cells slots mc ms g rest (Qc (Value.ref b :: As).toArray) XC free := by
  obtain ⟨⟨⟨hrc, hrs, hfr, hlo, hws, hcw⟩, hcode, hini, hy, hlen, hl⟩, hx1, hx2⟩ := cw
  have hK : vx_Back l R p e below s args y 3 8 (PreOf R mc ms Pc) (PostOf Qc mc ms free) (vx_Post XC mc ms free) := vx_back (bytes := bytes) (maxL := maxL) (ret := none) hM hp.1 hrc hrs hfr hlo hws hcw (fun a' U hW => word_at hW (Or.inl (by first | rfl | simp [Cond.onTables, Cond.keeps, Cond.steady])) hini)
  obtain ⟨hx, hb, hml, ho, -⟩ := S
  have hPc := hp.2
  intro T hT X
  rcases vx_callIN X hx (bytes := bytes) (maxL := maxL) ho hx1 hl hx2 hcode hy hK hg (hsize.trans hml.symm) (a := b) (argsL := As) (rest := rest) (fun sig h => hn.trans (hlen sig h)) hstack hW (by rw [hb]; exact hdg)
    (fun vm₁ hW₁ => ⟨hf.1, hf.2, hPc (T.setVm vm₁) hT hW₁⟩) with ⟨v, vm₁, ⟨U', l2, c2, s2⟩, hW₁, X', ⟨g', mk, t, L, e1, e2, hq, h1, hL, h2, h3⟩, st⟩ | ⟨q, vm₁, ⟨U', l2, c2, s2⟩, hW₁, X', ⟨g', mk, t, L, E, ce, e1, e2, hq, hce, hcv, hcl, h1, hL, h2, h3⟩, st⟩
  · dsimp only [Pt.U, Pt.locs, Pt.cells, Pt.slots] at X' e1 e2 h1 h2 h3 st
    subst h1; subst h2; subst h3
    exact Or.inl ⟨v, (T.setVm vm₁).calling g' mk (Value.ref b :: As).toArray, t, U', L, hT, X', hL, e1, e2, hq, st⟩
  · dsimp only [Pt.U, Pt.locs, Pt.cells, Pt.slots] at X' e1 e2 h1 h2 h3 st hcl
    subst h1; subst h2; subst h3
    exact Or.inr ⟨q, (T.setVm vm₁).calling g' mk (Value.ref b :: As).toArray, t, U', L, E, ce, hT, X', hL, e1, e2, hq, hce, hcv, vx_cls hW₁ hcl, st⟩
end VXID
/-! ===== END ===== -/
/-! ===== BEGIN a method of a class above, found by the receiver, that may throw (follows va_callVU, va_runU of this kit) ===== -/
section
variable {p : Program} {l : Launch} {e : Env} {R : Room} {s : State} {m : MethodId} {args : Array Value} {below : List Frame} {meth : Method} {c : Code} {H : Heap} {locs : List Loc} {cells slots : Nat}
theorem vx_callVU {T : State} {locs : List Loc} {cells slots : Nat} (X : Stand p l e R s m args below meth c T locs cells slots) (hexec : p.tables.exec = Jvm.exec) {own C owner : String} {index : Nat} {x y : MethodName} {bytes : ByteArray} {maxL : Nat} {ret : Option FieldType}
    (hown : s.vm.findClass own = some m.cls) (hlink : (Cond.methodLink own index x).before args s = true) (hsame : (Cond.sameMethod x.cls owner x.name x.desc).before args s = true)
    (hd0 : va_Decl s ⟨owner, x.name, x.desc⟩) (howner : owner ≠ "java/lang/invoke/MethodHandle" ∧ owner ≠ "java/lang/invoke/VarHandle")
    (hsel : (Cond.selects C x y).before args s = true) (hinst : (Cond.instanceMethod y).before args s = true) (hcode : (Cond.code y bytes maxL ret).before args s = true)
    {W : Nat} {Pre : Pt → Array Value → Prop} {Post : Pt → Array Value → Option Value → Pt → Prop} {PostX : Pt → Array Value → Addr → Pt → Prop} (hK : vx_Back l R p e below s args y 3 W Pre Post PostX)
    {b : Addr} {cellB : Cell} (hcell : T.heap[b]? = some cellB) (hobj : cellB.vm.isStatics = false) (hcls : s.vm.findClass C = some cellB.cls)
    {g : JFrame} (hg : g.method = m) (hsize : g.locals.size = c.maxLocals) {argsL rest : List Value} (hlen : ∀ sig, parseMethodDescriptor x.desc = some sig → argsL.length = sig.parameters.length)
    (hstack : g.stack = argsL.reverse ++ .ref b :: rest) (hW : 2 * g.monitorRoom + (rest.map fun v => v.category).sum ≤ W) (hdg : decode c.code g.pc = .ok (.invokevirtual index, 3))
    (hpre : ∀ vm₁, s.WarmedH vm₁ → Pre ⟨T.setVm vm₁, locs, cells, slots⟩ (Value.ref b :: argsL).toArray) :
    (∃ (v : Option Value) (vm₁ : Vm) (B : Pt), s.WarmedH vm₁ ∧ Stand p l e R s m args below meth c B.U B.locs B.cells B.slots ∧ Post ⟨T.setVm vm₁, locs, cells, slots⟩ (Value.ref b :: argsL).toArray v B ∧
      ∀ target, Steps p.tables e below (B.U.setTop { g with pc := g.pc + 3, stack := v.toList ++ rest }) target → Steps p.tables e below (T.setTop g) target) ∨
    (∃ (q : Addr) (vm₁ : Vm) (B : Pt), s.WarmedH vm₁ ∧ Stand p l e R s m args below meth c B.U B.locs B.cells B.slots ∧ PostX ⟨T.setVm vm₁, locs, cells, slots⟩ (Value.ref b :: argsL).toArray q B ∧
      Steps p.tables e below (T.setTop g) ((B.U.setTop { g with stack := rest }).pushFrame (.throwing q))) := by
  obtain ⟨r0, r, hn, hrm, hstR, hsigR⟩ := hd0
  obtain ⟨cn, ck, r1, hcn, hck, hni, hf, hn1⟩ := Cond.sameMethod_found hsame
  cases hn.symm.trans hn1
  obtain ⟨mk, methM, hnamed, hmethM, -, habM⟩ := Cond.instanceMethod_spec hinst
  obtain ⟨c2, r2, m2, q1, q2, q3, q4, kP, hkP, hkPi⟩ := Cond.selects_spec hsel
  cases hcls.symm.trans q1
  cases hf.symm.trans q2
  cases hnamed.symm.trans q3
  have hselP : selectMethod e.platform s.vm cellB.cls r0 = .method mk := by rw [Launch.admits_selectMethod X.admits]; exact q4
  obtain ⟨vm₁, X₁, hstep₁⟩ := X.invokevirtualUp hexec hown hlink hsame howner hn hrm hstR (a := b) (cell := cellB) hcell
    (fun z h => by rw [h] at hobj; cases hobj) hselP hmethM habM hkP hkPi (g := g) hg (argsL := argsL) (rest := rest) (hlen _ hsigR) hstack hdg
  rcases hK m meth c ⟨T.setVm vm₁, locs, cells, slots⟩ { g with stack := rest } (.invokevirtual index) mk (Value.ref b :: argsL).toArray X₁ hg hsize hdg hW (X₁.named hnamed) (hpre vm₁ X₁.warmed) with ⟨v, B, X', hpost, hsteps⟩ | ⟨q, B, X', hpost, hsteps⟩
  · exact Or.inl ⟨v, vm₁, B, X₁.warmed, X', hpost, fun target h => hstep₁ _ fun acts => by rw [doInvoke_state]; exact hsteps.trans h⟩
  · exact Or.inr ⟨q, vm₁, B, X₁.warmed, X', hpost, hstep₁ _ fun acts => by rw [doInvoke_state]; exact hsteps⟩
theorem vx_runU {x y : MethodName} {bytes cc : ByteArray} {maxL nL mc ms n index : Nat} {ret : Option FieldType} {ws : List Cond} {rm : Room} {Pc : Array Value → State → Prop} {Qc : Array Value → State → Outcome → State → Prop} {XC : String → State → State → Prop} {free : Addr → Prop} {Ts : List Cond} {own C owner : String} {b : Addr} {As rest : List Value} {g : JFrame}
    (S : CallFix p m c cc nL s args Ts own) (hM : vx_Met l y ws rm Pc Qc XC mc ms free) (cw : va_CU R s args own C owner index x y bytes maxL ret ws rm mc ms n) (hp : PreV s H C b Pc As)
    (hg : g.method = m) (hn : As.length = n) (hsize : g.locals.size = nL) (hstack : g.stack = As.reverse ++ .ref b :: rest) (hW : 2 * g.monitorRoom + (rest.map fun v => v.category).sum ≤ 8) (hdg : decode cc g.pc = .ok (.invokevirtual index, 3)) (hf : cells + mc ≤ R.cells ∧ slots + ms ≤ R.slots) :
    vx_Run p l e R s m args below meth c H locs cells slots mc ms g rest (Qc (Value.ref b :: As).toArray) XC free := by
  obtain ⟨hrc, hrs, hfr, hlo, hws, hcw⟩ := cw.back
  have hini := cw.init
  have hK : vx_Back l R p e below s args y 3 8 (PreOf R mc ms Pc) (PostOf Qc mc ms free) (vx_Post XC mc ms free) := vx_back (bytes := bytes) (maxL := maxL) (ret := ret) hM hp.1 hrc hrs hfr hlo hws hcw (fun a' U hW => word_at hW (Or.inl (by first | rfl | simp [Cond.onTables, Cond.keeps, Cond.steady])) hini)
  obtain ⟨hx, hb, hml, ho, -⟩ := S
  obtain ⟨-, ⟨cellB, hcB, hoB, hclB⟩, hPc⟩ := hp
  intro T hT X
  rcases vx_callVU X hx (C := C) (owner := owner) (bytes := bytes) (maxL := maxL) (ret := ret) ho cw.link cw.same cw.decl cw.notMH cw.sel cw.inst cw.code hK (by rw [hT]; exact hcB) hoB hclB hg (hsize.trans hml.symm) (argsL := As) (rest := rest) (fun sig h => hn.trans (cw.len sig h)) hstack hW (by rw [hb]; exact hdg)
    (fun vm₁ hW₁ => ⟨hf.1, hf.2, hPc (T.setVm vm₁) hT hW₁⟩) with ⟨v, vm₁, ⟨U', l2, c2, s2⟩, hW₁, X', ⟨g', mk, t, L, e1, e2, hq, h1, hL, h2, h3⟩, st⟩ | ⟨q, vm₁, ⟨U', l2, c2, s2⟩, hW₁, X', ⟨g', mk, t, L, E, ce, e1, e2, hq, hce, hcv, hcl, h1, hL, h2, h3⟩, st⟩
  · dsimp only [Pt.U, Pt.locs, Pt.cells, Pt.slots] at X' e1 e2 h1 h2 h3 st
    subst h1; subst h2; subst h3
    exact Or.inl ⟨v, (T.setVm vm₁).calling g' mk (Value.ref b :: As).toArray, t, U', L, hT, X', hL, e1, e2, hq, st⟩
  · dsimp only [Pt.U, Pt.locs, Pt.cells, Pt.slots] at X' e1 e2 h1 h2 h3 st hcl
    subst h1; subst h2; subst h3
    exact Or.inr ⟨q, (T.setVm vm₁).calling g' mk (Value.ref b :: As).toArray, t, U', L, E, ce, hT, X', hL, e1, e2, hq, hce, hcv, vx_cls hW₁ hcl, st⟩
end
/-! ===== END ===== -/
/-! ===== BEGIN super.m(..) that may throw (follows va_callSU, va_runSU) ===== -/
section
variable {p : Program} {l : Launch} {e : Env} {R : Room} {s : State} {m : MethodId} {args : Array Value} {below : List Frame} {meth : Method} {c : Code} {H : Heap} {locs : List Loc} {cells slots : Nat}
theorem vx_callSU {T : State} {locs : List Loc} {cells slots : Nat} (X : Stand p l e R s m args below meth c T locs cells slots) (hexec : p.tables.exec = Jvm.exec) {own : String} {index : Nat} {y : MethodName} {bytes : ByteArray} {maxL : Nat} {ret : Option FieldType}
    (hown : s.vm.findClass own = some m.cls) (hlink : (Cond.methodLink own index y).before args s = true) (hsame : (Cond.sameMethod y.cls y.cls y.name y.desc).before args s = true) (hsup : (Cond.superclass own y.cls).before args s = true)
    (hinst : (Cond.instanceMethod y).before args s = true) (hcode : (Cond.code y bytes maxL ret).before args s = true) (hno : y.name ≠ "<init>")
    {W : Nat} {Pre : Pt → Array Value → Prop} {Post : Pt → Array Value → Option Value → Pt → Prop} {PostX : Pt → Array Value → Addr → Pt → Prop} (hK : vx_Back l R p e below s args y 3 W Pre Post PostX)
    {b : Addr} {cellB : Cell} {kB : Class} (hcell : T.heap[b]? = some cellB) (hobj : cellB.vm.isStatics = false) (hkB : s.vm.classes[cellB.cls]? = some kB)
    {g : JFrame} (hg : g.method = m) (hsize : g.locals.size = c.maxLocals) {argsL rest : List Value} (hlen : ∀ sig, parseMethodDescriptor y.desc = some sig → argsL.length = sig.parameters.length)
    (hstack : g.stack = argsL.reverse ++ .ref b :: rest) (hW : 2 * g.monitorRoom + (rest.map fun v => v.category).sum ≤ W) (hdg : decode c.code g.pc = .ok (.invokespecial index, 3))
    (hpre : ∀ vm₁, s.WarmedH vm₁ → Pre ⟨T.setVm vm₁, locs, cells, slots⟩ (Value.ref b :: argsL).toArray) :
    (∃ (v : Option Value) (vm₁ : Vm) (B : Pt), s.WarmedH vm₁ ∧ Stand p l e R s m args below meth c B.U B.locs B.cells B.slots ∧ Post ⟨T.setVm vm₁, locs, cells, slots⟩ (Value.ref b :: argsL).toArray v B ∧
      ∀ target, Steps p.tables e below (B.U.setTop { g with pc := g.pc + 3, stack := v.toList ++ rest }) target → Steps p.tables e below (T.setTop g) target) ∨
    (∃ (q : Addr) (vm₁ : Vm) (B : Pt), s.WarmedH vm₁ ∧ Stand p l e R s m args below meth c B.U B.locs B.cells B.slots ∧ PostX ⟨T.setVm vm₁, locs, cells, slots⟩ (Value.ref b :: argsL).toArray q B ∧
      Steps p.tables e below (T.setTop g) ((B.U.setTop { g with stack := rest }).pushFrame (.throwing q))) := by
  obtain ⟨mk, methM, hnamed, hmethM, hstM, habM⟩ := Cond.instanceMethod_spec hinst
  obtain ⟨methM', cM, hmethM', -, -, -, -, -, -, hsigM⟩ := Cond.code_spec hnamed hcode
  cases hmethM.symm.trans hmethM'
  obtain ⟨ps, dk, kp, hps, hdk, hkp, hsuper, -, -, hnid⟩ := Cond.superclass_spec hown hsup
  have hn : s.methodNamed? ⟨y.cls, y.name, y.desc⟩ = some mk := hnamed
  have hpm : ps = mk.cls := Option.some.inj (hps.symm.trans (findClass_of_methodNamed hnamed))
  have hsub : s.vm.isSubclass ps mk.cls = true := by rw [hpm]; simp [Vm.isSubclass, Vm.isSubclassAux]
  obtain ⟨vm₁, X₁, hstep₁⟩ := X.invokespecialUp hexec hown hlink hsame hn hmethM hstM habM hno hdk hnid hps hsuper hsub (a := b) (cell := cellB) hcell
    (fun z h => by rw [h] at hobj; cases hobj) hkB (g := g) hg (argsL := argsL) (rest := rest) (hlen _ hsigM) hstack hdg
  rcases hK m meth c ⟨T.setVm vm₁, locs, cells, slots⟩ { g with stack := rest } (.invokespecial index) mk (Value.ref b :: argsL).toArray X₁ hg hsize hdg hW (X₁.named hnamed) (hpre vm₁ X₁.warmed) with ⟨v, B, X', hpost, hsteps⟩ | ⟨q, B, X', hpost, hsteps⟩
  · exact Or.inl ⟨v, vm₁, B, X₁.warmed, X', hpost, fun target h => hstep₁ _ (by rw [doInvoke_state]; exact hsteps.trans h)⟩
  · exact Or.inr ⟨q, vm₁, B, X₁.warmed, X', hpost, hstep₁ _ (by rw [doInvoke_state]; exact hsteps)⟩
theorem vx_runSU {y : MethodName} {bytes cc : ByteArray} {maxL nL mc ms n index : Nat} {ret : Option FieldType} {ws : List Cond} {rm : Room} {Pc : Array Value → State → Prop} {Qc : Array Value → State → Outcome → State → Prop} {XC : String → State → State → Prop} {free : Addr → Prop} {Ts : List Cond} {own C : String} {cC : ClassId} {b : Addr} {As rest : List Value} {g : JFrame}
    (hat : ClassAt s C cC) (S : CallFix p m c cc nL s args Ts own) (hM : vx_Met l y ws rm Pc Qc XC mc ms free) (cw : va_CS R s args own index y bytes maxL ret ws rm mc ms n) (hp : PreV s H C b Pc As)
    (hg : g.method = m) (hn : As.length = n) (hsize : g.locals.size = nL) (hstack : g.stack = As.reverse ++ .ref b :: rest) (hW : 2 * g.monitorRoom + (rest.map fun v => v.category).sum ≤ 8) (hdg : decode cc g.pc = .ok (.invokespecial index, 3)) (hf : cells + mc ≤ R.cells ∧ slots + ms ≤ R.slots) :
    vx_Run p l e R s m args below meth c H locs cells slots mc ms g rest (Qc (Value.ref b :: As).toArray) XC free := by
  obtain ⟨⟨hrc, hrs, hfr, hlo, hws, hcw⟩, hl1, hl2, hl3, hl4, hini, hcode, hno, hlen⟩ := cw
  have hK : vx_Back l R p e below s args y 3 8 (PreOf R mc ms Pc) (PostOf Qc mc ms free) (vx_Post XC mc ms free) := vx_back (bytes := bytes) (maxL := maxL) (ret := ret) hM hp.1 hrc hrs hfr hlo hws hcw (fun a' U hW => word_at hW (Or.inl (by first | rfl | simp [Cond.onTables, Cond.keeps, Cond.steady])) hini)
  obtain ⟨hx, hb, hml, ho, -⟩ := S
  obtain ⟨-, ⟨cellB, hcB, hoB, hclB⟩, hPc⟩ := hp
  obtain ⟨hfc, kB, hkB, -⟩ := hat
  cases hfc.symm.trans hclB
  intro T hT X
  rcases vx_callSU X hx (bytes := bytes) (maxL := maxL) (ret := ret) ho hl1 hl2 hl3 hl4 hcode hno hK (by rw [hT]; exact hcB) hoB hkB hg (hsize.trans hml.symm) (argsL := As) (rest := rest) (fun sig h => hn.trans (hlen sig h)) hstack hW (by rw [hb]; exact hdg)
    (fun vm₁ hW₁ => ⟨hf.1, hf.2, hPc (T.setVm vm₁) hT hW₁⟩) with ⟨v, vm₁, ⟨U', l2, c2, s2⟩, hW₁, X', ⟨g', mk, t, L, e1, e2, hq, h1, hL, h2, h3⟩, st⟩ | ⟨q, vm₁, ⟨U', l2, c2, s2⟩, hW₁, X', ⟨g', mk, t, L, E, ce, e1, e2, hq, hce, hcv, hcl, h1, hL, h2, h3⟩, st⟩
  · dsimp only [Pt.U, Pt.locs, Pt.cells, Pt.slots] at X' e1 e2 h1 h2 h3 st
    subst h1; subst h2; subst h3
    exact Or.inl ⟨v, (T.setVm vm₁).calling g' mk (Value.ref b :: As).toArray, t, U', L, hT, X', hL, e1, e2, hq, st⟩
  · dsimp only [Pt.U, Pt.locs, Pt.cells, Pt.slots] at X' e1 e2 h1 h2 h3 st hcl
    subst h1; subst h2; subst h3
    exact Or.inr ⟨q, (T.setVm vm₁).calling g' mk (Value.ref b :: As).toArray, t, U', L, E, ce, hT, X', hL, e1, e2, hq, hce, hcv, vx_cls hW₁ hcl, st⟩
end
/-! ===== END ===== -/
/-! ===== BEGIN a private method of a nest mate that may throw (follows va_callVN, va_callSN, va_runVN, va_runSN) ===== -/
section
variable {p : Program} {l : Launch} {e : Env} {R : Room} {s : State} {m : MethodId} {args : Array Value} {below : List Frame} {meth : Method} {c : Code} {H : Heap} {locs : List Loc} {cells slots : Nat}
variable {T : State}
theorem vx_callVN (X : Stand p l e R s m args below meth c T locs cells slots) (hexec : p.tables.exec = Jvm.exec) {own C : String} {index : Nat} {host : String} {y : MethodName} {bytes : ByteArray} {maxL : Nat} {ret : Option FieldType}
    (hown : s.vm.findClass own = some m.cls) (hlink : (Cond.methodLinkNest own index y host).before args s = true) (hinst : (Cond.instanceMethod y).before args s = true) (hsel : (Cond.selects C y y).before args s = true)
    (hcode : (Cond.code y bytes maxL ret).before args s = true) (hy : y.cls ≠ "java/lang/invoke/MethodHandle" ∧ y.cls ≠ "java/lang/invoke/VarHandle")
    {W : Nat} {Pre : Pt → Array Value → Prop} {Post : Pt → Array Value → Option Value → Pt → Prop} {PostX : Pt → Array Value → Addr → Pt → Prop} (hK : vx_Back l R p e below s args y 3 W Pre Post PostX)
    {b : Addr} {cellB : Cell} (hcell : T.heap[b]? = some cellB) (hobj : cellB.vm.isStatics = false) (hcls : s.vm.findClass C = some cellB.cls)
    {g : JFrame} (hg : g.method = m) (hsize : g.locals.size = c.maxLocals) {argsL rest : List Value} (hlen : ∀ sig, parseMethodDescriptor y.desc = some sig → argsL.length = sig.parameters.length)
    (hstack : g.stack = argsL.reverse ++ .ref b :: rest) (hW : 2 * g.monitorRoom + (rest.map fun v => v.category).sum ≤ W) (hdg : decode c.code g.pc = .ok (.invokevirtual index, 3))
    (hpre : ∀ vm₁, s.WarmedH vm₁ → Pre ⟨T.setVm vm₁, locs, cells, slots⟩ (Value.ref b :: argsL).toArray) :
    (∃ (v : Option Value) (vm₁ : Vm) (B : Pt), s.WarmedH vm₁ ∧ Stand p l e R s m args below meth c B.U B.locs B.cells B.slots ∧ Post ⟨T.setVm vm₁, locs, cells, slots⟩ (Value.ref b :: argsL).toArray v B ∧
      ∀ target, Steps p.tables e below (B.U.setTop { g with pc := g.pc + 3, stack := v.toList ++ rest }) target → Steps p.tables e below (T.setTop g) target) ∨
    (∃ (q : Addr) (vm₁ : Vm) (B : Pt), s.WarmedH vm₁ ∧ Stand p l e R s m args below meth c B.U B.locs B.cells B.slots ∧ PostX ⟨T.setVm vm₁, locs, cells, slots⟩ (Value.ref b :: argsL).toArray q B ∧
      Steps p.tables e below (T.setTop g) ((B.U.setTop { g with stack := rest }).pushFrame (.throwing q))) := by
  obtain ⟨mk, methM, hnamed, hmethM, hstM, habM⟩ := Cond.instanceMethod_spec hinst
  obtain ⟨methM', cM, hmethM', -, -, -, -, -, -, hsigM⟩ := Cond.code_spec hnamed hcode
  cases hmethM.symm.trans hmethM'
  obtain ⟨c2, r2, m2, q1, q2, q3, q4, kP, hkP, hkPi⟩ := Cond.selects_spec hsel
  cases hcls.symm.trans q1
  cases (State.methodFound?_of_named hnamed hy).symm.trans q2
  cases hnamed.symm.trans q3
  have hselP : selectMethod e.platform s.vm cellB.cls mk = .method mk := by rw [Launch.admits_selectMethod X.admits]; exact q4
  obtain ⟨vm₁, X₁, hstep₁⟩ := X.invokevirtualNest hexec hown hlink hnamed hmethM hstM hkP hkPi hy (a := b) (cell := cellB) hcell
    (fun z h => by rw [h] at hobj; cases hobj) hselP hmethM habM hkP hkPi (g := g) hg (argsL := argsL) (rest := rest) (hlen _ hsigM) hstack hdg
  rcases hK m meth c ⟨T.setVm vm₁, locs, cells, slots⟩ { g with stack := rest } (.invokevirtual index) mk (Value.ref b :: argsL).toArray X₁ hg hsize hdg hW (X₁.named hnamed) (hpre vm₁ X₁.warmed) with ⟨v, B, X', hpost, hsteps⟩ | ⟨q, B, X', hpost, hsteps⟩
  · exact Or.inl ⟨v, vm₁, B, X₁.warmed, X', hpost, fun target h => hstep₁ _ fun acts => by rw [doInvoke_state]; exact hsteps.trans h⟩
  · exact Or.inr ⟨q, vm₁, B, X₁.warmed, X', hpost, hstep₁ _ fun acts => by rw [doInvoke_state]; exact hsteps⟩
theorem vx_callSN (X : Stand p l e R s m args below meth c T locs cells slots) (hexec : p.tables.exec = Jvm.exec) {own : String} {index : Nat} {host : String} {y : MethodName} {bytes : ByteArray} {maxL : Nat} {ret : Option FieldType}
    (hown : s.vm.findClass own = some m.cls) (hlink : (Cond.methodLinkNest own index y host).before args s = true) (hstat : (Cond.static y).before args s = true) (hinit : (Cond.initialized y.cls).before args s = true)
    (hcode : (Cond.code y bytes maxL ret).before args s = true) (hy : y.cls ≠ "java/lang/invoke/MethodHandle" ∧ y.cls ≠ "java/lang/invoke/VarHandle")
    {W : Nat} {Pre : Pt → Array Value → Prop} {Post : Pt → Array Value → Option Value → Pt → Prop} {PostX : Pt → Array Value → Addr → Pt → Prop} (hK : vx_Back l R p e below s args y 3 W Pre Post PostX)
    {g : JFrame} (hg : g.method = m) (hsize : g.locals.size = c.maxLocals) {argsL rest : List Value} (hlen : ∀ sig, parseMethodDescriptor y.desc = some sig → argsL.length = sig.parameters.length)
    (hstack : g.stack = argsL.reverse ++ rest) (hW : 2 * g.monitorRoom + (rest.map fun v => v.category).sum ≤ W) (hdg : decode c.code g.pc = .ok (.invokestatic index, 3))
    (hpre : ∀ vm₁, s.WarmedH vm₁ → Pre ⟨T.setVm vm₁, locs, cells, slots⟩ argsL.toArray) :
    (∃ (v : Option Value) (vm₁ : Vm) (B : Pt), s.WarmedH vm₁ ∧ Stand p l e R s m args below meth c B.U B.locs B.cells B.slots ∧ Post ⟨T.setVm vm₁, locs, cells, slots⟩ argsL.toArray v B ∧
      ∀ target, Steps p.tables e below (B.U.setTop { g with pc := g.pc + 3, stack := v.toList ++ rest }) target → Steps p.tables e below (T.setTop g) target) ∨
    (∃ (q : Addr) (vm₁ : Vm) (B : Pt), s.WarmedH vm₁ ∧ Stand p l e R s m args below meth c B.U B.locs B.cells B.slots ∧ PostX ⟨T.setVm vm₁, locs, cells, slots⟩ argsL.toArray q B ∧
      Steps p.tables e below (T.setTop g) ((B.U.setTop { g with stack := rest }).pushFrame (.throwing q))) := by
  obtain ⟨mk, hnamed⟩ := Cond.code_named hcode
  obtain ⟨methM, cM, hmethM, -, -, -, -, -, -, hsigM⟩ := Cond.code_spec hnamed hcode
  have hstatic : methM.isStatic = true := Cond.static_spec hnamed hmethM hstat
  obtain ⟨kP, hkP, -⟩ := className_of_methodNamed hnamed
  have hinitP : kP.init = .initialized := Cond.initialized_spec (findClass_of_methodNamed hnamed) hkP hinit
  obtain ⟨vm₁, X₁, hstep₁⟩ := X.invokestaticNest hexec hown hlink hnamed hmethM hstatic hkP hinitP hy (g := g) hg (argsL := argsL) (rest := rest) (hlen _ hsigM) hstack hdg
  rcases hK m meth c ⟨T.setVm vm₁, locs, cells, slots⟩ { g with stack := rest } (.invokestatic index) mk argsL.toArray X₁ hg hsize hdg hW (X₁.named hnamed) (hpre vm₁ X₁.warmed) with ⟨v, B, X', hpost, hsteps⟩ | ⟨q, B, X', hpost, hsteps⟩
  · exact Or.inl ⟨v, vm₁, B, X₁.warmed, X', hpost, fun target h => hstep₁ _ fun acts => by rw [doInvoke_state]; exact hsteps.trans h⟩
  · exact Or.inr ⟨q, vm₁, B, X₁.warmed, X', hpost, hstep₁ _ fun acts => by rw [doInvoke_state]; exact hsteps⟩
theorem vx_runVN {y : MethodName} {bytes cc : ByteArray} {maxL nL mc ms n index : Nat} {ret : Option FieldType} {ws : List Cond} {rm : Room} {Pc : Array Value → State → Prop} {Qc : Array Value → State → Outcome → State → Prop} {XC : String → State → State → Prop} {free : Addr → Prop} {Ts : List Cond} {own C host : String} {b : Addr} {As rest : List Value} {g : JFrame}
    (S : CallFix p m c cc nL s args Ts own) (hM : vx_Met l y ws rm Pc Qc XC mc ms free) (cw : va_CN R s args own index y host bytes maxL ret ws rm mc ms n ∧ (Cond.instanceMethod y).before args s = true ∧ (Cond.selects C y y).before args s = true) (hp : PreV s H C b Pc As)
    (hg : g.method = m) (hn : As.length = n) (hsize : g.locals.size = nL) (hstack : g.stack = As.reverse ++ .ref b :: rest) (hW : 2 * g.monitorRoom + (rest.map fun v => v.category).sum ≤ 8) (hdg : decode cc g.pc = .ok (.invokevirtual index, 3)) (hf : cells + mc ≤ R.cells ∧ slots + ms ≤ R.slots) :
    vx_Run p l e R s m args below meth c H locs cells slots mc ms g rest (Qc (Value.ref b :: As).toArray) XC free := by
  obtain ⟨⟨⟨hrc, hrs, hfr, hlo, hws, hcw⟩, hcode, hini, hy, hlen, hl⟩, hx1, hx2⟩ := cw
  have hK : vx_Back l R p e below s args y 3 8 (PreOf R mc ms Pc) (PostOf Qc mc ms free) (vx_Post XC mc ms free) := vx_back (bytes := bytes) (maxL := maxL) (ret := ret) hM hp.1 hrc hrs hfr hlo hws hcw (fun a' U hW => word_at hW (Or.inl (by first | rfl | simp [Cond.onTables, Cond.keeps, Cond.steady])) hini)
  obtain ⟨hx, hb, hml, ho, -⟩ := S
  obtain ⟨-, ⟨cellB, hcB, hoB, hclB⟩, hPc⟩ := hp
  intro T hT X
  rcases vx_callVN X hx (C := C) (bytes := bytes) (maxL := maxL) (ret := ret) ho hl hx1 hx2 hcode hy hK (by rw [hT]; exact hcB) hoB hclB hg (hsize.trans hml.symm) (argsL := As) (rest := rest) (fun sig h => hn.trans (hlen sig h)) hstack hW (by rw [hb]; exact hdg)
    (fun vm₁ hW₁ => ⟨hf.1, hf.2, hPc (T.setVm vm₁) hT hW₁⟩) with ⟨v, vm₁, ⟨U', l2, c2, s2⟩, hW₁, X', ⟨g', mk, t, L, e1, e2, hq, h1, hL, h2, h3⟩, st⟩ | ⟨q, vm₁, ⟨U', l2, c2, s2⟩, hW₁, X', ⟨g', mk, t, L, E, ce, e1, e2, hq, hce, hcv, hcl, h1, hL, h2, h3⟩, st⟩
  · dsimp only [Pt.U, Pt.locs, Pt.cells, Pt.slots] at X' e1 e2 h1 h2 h3 st
    subst h1; subst h2; subst h3
    exact Or.inl ⟨v, (T.setVm vm₁).calling g' mk (Value.ref b :: As).toArray, t, U', L, hT, X', hL, e1, e2, hq, st⟩
  · dsimp only [Pt.U, Pt.locs, Pt.cells, Pt.slots] at X' e1 e2 h1 h2 h3 st hcl
    subst h1; subst h2; subst h3
    exact Or.inr ⟨q, (T.setVm vm₁).calling g' mk (Value.ref b :: As).toArray, t, U', L, E, ce, hT, X', hL, e1, e2, hq, hce, hcv, vx_cls hW₁ hcl, st⟩
theorem vx_runSN {y : MethodName} {bytes cc : ByteArray} {maxL nL mc ms n index : Nat} {ret : Option FieldType} {ws : List Cond} {rm : Room} {Pc : Array Value → State → Prop} {Qc : Array Value → State → Outcome → State → Prop} {XC : String → State → State → Prop} {free : Addr → Prop} {Ts : List Cond} {own host : String} {As rest : List Value} {g : JFrame}
    (S : CallFix p m c cc nL s args Ts own) (hM : vx_Met l y ws rm Pc Qc XC mc ms free) (cw : va_CN R s args own index y host bytes maxL ret ws rm mc ms n ∧ (Cond.static y).before args s = true ∧ True) (hp : PreS s H Pc As)
    (hg : g.method = m) (hn : As.length = n) (hsize : g.locals.size = nL) (hstack : g.stack = As.reverse ++ rest) (hW : 2 * g.monitorRoom + (rest.map fun v => v.category).sum ≤ 8) (hdg : decode cc g.pc = .ok (.invokestatic index, 3)) (hf : cells + mc ≤ R.cells ∧ slots + ms ≤ R.slots) :
    vx_Run p l e R s m args below meth c H locs cells slots mc ms g rest (Qc As.toArray) XC free := by
  obtain ⟨⟨⟨hrc, hrs, hfr, hlo, hws, hcw⟩, hcode, hini, hy, hlen, hl⟩, hx1, hx2⟩ := cw
  have hK : vx_Back l R p e below s args y 3 8 (PreOf R mc ms Pc) (PostOf Qc mc ms free) (vx_Post XC mc ms free) := vx_back (bytes := bytes) (maxL := maxL) (ret := ret) hM hp.1 hrc hrs hfr hlo hws hcw (fun a' U hW => word_at hW (Or.inl (by first | rfl | simp [Cond.onTables, Cond.keeps, Cond.steady])) hini)
  obtain ⟨hx, hb, hml, ho, -⟩ := S
  have hPc := hp.2
  intro T hT X
  rcases vx_callSN X hx (bytes := bytes) (maxL := maxL) (ret := ret) ho hl hx1 hini hcode hy hK hg (hsize.trans hml.symm) (argsL := As) (rest := rest) (fun sig h => hn.trans (hlen sig h)) hstack hW (by rw [hb]; exact hdg)
    (fun vm₁ hW₁ => ⟨hf.1, hf.2, hPc (T.setVm vm₁) hT hW₁⟩) with ⟨v, vm₁, ⟨U', l2, c2, s2⟩, hW₁, X', ⟨g', mk, t, L, e1, e2, hq, h1, hL, h2, h3⟩, st⟩ | ⟨q, vm₁, ⟨U', l2, c2, s2⟩, hW₁, X', ⟨g', mk, t, L, E, ce, e1, e2, hq, hce, hcv, hcl, h1, hL, h2, h3⟩, st⟩
  · dsimp only [Pt.U, Pt.locs, Pt.cells, Pt.slots] at X' e1 e2 h1 h2 h3 st
    subst h1; subst h2; subst h3
    exact Or.inl ⟨v, (T.setVm vm₁).calling g' mk As.toArray, t, U', L, hT, X', hL, e1, e2, hq, st⟩
  · dsimp only [Pt.U, Pt.locs, Pt.cells, Pt.slots] at X' e1 e2 h1 h2 h3 st hcl
    subst h1; subst h2; subst h3
    exact Or.inr ⟨q, (T.setVm vm₁).calling g' mk As.toArray, t, U', L, E, ce, hT, X', hL, e1, e2, hq, hce, hcv, vx_cls hW₁ hcl, st⟩
end
/-! ===== END ===== -/
/-! ===== BEGIN calls by an interface of methods that may throw (vx_callIF, vx_runF follow va_callIF, va_runF of this kit) ===== -/
section
variable {p : Program} {l : Launch} {e : Env} {R : Room} {s : State} {m : MethodId} {args : Array Value} {below : List Frame} {meth : Method} {c : Code} {H : Heap} {locs : List Loc} {cells slots : Nat} {Q : State → Prop}
variable {mc ms : Nat} {free : Addr → Prop} {A0 A1 : Nat → Prop} {H0 : Heap} {a : Array Value} {pc : Nat} {ls : Array Slot} {st0 rest : List Value}
def vx_Run5 (p : Program) (l : Launch) (e : Env) (R : Room) (s : State) (m : MethodId) (args : Array Value) (below : List Frame) (meth : Method) (c : Code) (H : Heap) (locs : List Loc) (cells slots mc ms : Nat) (g : JFrame) (rest : List Value) (Qa : State → Outcome → State → Prop) (XC : String → State → State → Prop) (free : Addr → Prop) : Prop :=
  ∀ T : State, T.heap = H → Stand p l e R s m args below meth c T locs cells slots →
    (∃ (v : Option Value) (st₀ t T' : State) (L : List Loc), st₀.heap = H ∧ Stand p l e R s m args below meth c T' (locs ++ L) (cells + mc) (slots + ms) ∧ (∀ q ∈ L, free q.base) ∧ T'.heap = t.heap ∧ T'.vm = t.vm ∧ Qa st₀ (.returned v) t ∧
      Goes p e below T g T' { g with pc := g.pc + 5, stack := v.toList ++ rest }) ∨
    (∃ (q : Addr) (st₀ t T' : State) (L : List Loc) (E : String) (ce : Cell), st₀.heap = H ∧ Stand p l e R s m args below meth c T' (locs ++ L) (cells + mc) (slots + ms) ∧ (∀ z ∈ L, free z.base) ∧ T'.heap = t.heap ∧ T'.vm = t.vm ∧ XC E st₀ t ∧ t.heap[q]? = some ce ∧ ce.vm = .none ∧ s.vm.findClass E = some ce.cls ∧
      Steps p.tables e below (T.setTop g) ((T'.setTop { g with stack := rest }).pushFrame (.throwing q)))
theorem vx_callIF {T : State} (X : Stand p l e R s m args below meth c T locs cells slots) (hexec : p.tables.exec = Jvm.exec) {own C : String} {index count : Nat} {x y : MethodName} {bytes : ByteArray} {maxL : Nat} {ret : Option FieldType}
    (hown : s.vm.findClass own = some m.cls) (hlink : (Cond.methodLink own index x).before args s = true) (hdecl : (Cond.declares x).before args s = true) (hface : (Cond.interfaceMethod x.cls x.cls x.name x.desc).before args s = true)
    (hsel : (Cond.selects C x y).before args s = true) (hinst : (Cond.instanceMethod y).before args s = true) (hpub : (Cond.publicMethod y).before args s = true) (hunh : (Cond.unhidden C x.name x.desc).before args s = true)
    (hcast : (Cond.castable C x.cls).before args s = true) (hcode : (Cond.code y bytes maxL ret).before args s = true) (hx : x.cls ≠ "java/lang/invoke/MethodHandle" ∧ x.cls ≠ "java/lang/invoke/VarHandle")
    {W9 : Nat} {Pre : Pt → Array Value → Prop} {Post : Pt → Array Value → Option Value → Pt → Prop} {PostX : Pt → Array Value → Addr → Pt → Prop} (hK : vx_Back l R p e below s args y 5 W9 Pre Post PostX)
    {b : Addr} {cellB : Cell} {kB : Class} (hcell : T.heap[b]? = some cellB) (hobj : cellB.vm.isStatics = false) (hcls : s.vm.findClass C = some cellB.cls) (hkB : s.vm.classes[cellB.cls]? = some kB)
    {g : JFrame} (hg : g.method = m) (hsize : g.locals.size = c.maxLocals) {argsL rest : List Value} (hlen : ∀ sig, parseMethodDescriptor x.desc = some sig → argsL.length = sig.parameters.length)
    (hstack : g.stack = argsL.reverse ++ .ref b :: rest) (hW : 2 * g.monitorRoom + (rest.map fun v => v.category).sum ≤ W9) (hdg : decode c.code g.pc = .ok (.invokeinterface index count, 5))
    (hpre : ∀ vm₁, s.WarmedH vm₁ → Pre ⟨T.setVm vm₁, locs, cells, slots⟩ (Value.ref b :: argsL).toArray) :
    (∃ (v : Option Value) (vm₁ : Vm) (B : Pt), s.WarmedH vm₁ ∧ Stand p l e R s m args below meth c B.U B.locs B.cells B.slots ∧ Post ⟨T.setVm vm₁, locs, cells, slots⟩ (Value.ref b :: argsL).toArray v B ∧
      ∀ target, Steps p.tables e below (B.U.setTop { g with pc := g.pc + 5, stack := v.toList ++ rest }) target → Steps p.tables e below (T.setTop g) target) ∨
    (∃ (q : Addr) (vm₁ : Vm) (B : Pt), s.WarmedH vm₁ ∧ Stand p l e R s m args below meth c B.U B.locs B.cells B.slots ∧ PostX ⟨T.setVm vm₁, locs, cells, slots⟩ (Value.ref b :: argsL).toArray q B ∧
      Steps p.tables e below (T.setTop g) ((B.U.setTop { g with stack := rest }).pushFrame (.throwing q))) := by
  obtain ⟨r0, r, hn, hrm, hstR, hsigR⟩ := Cond.declares_spec hdecl
  obtain ⟨cL, kL, r1, hcL, hkL, hiL, hfoundL, hn1⟩ := Cond.interfaceMethod_spec hface
  cases hn.symm.trans hn1
  have hr0cls : r0.cls = cL := Option.some.inj ((findClass_of_methodNamed hn).symm.trans hcL)
  obtain ⟨hnameR, hdescR⟩ := name_of_methodNamed hn hrm
  obtain ⟨mk, methM, hnamed, hmethM, -, habM⟩ := Cond.instanceMethod_spec hinst
  obtain ⟨c2, r2, m2, q1, q2, q3, q4, -⟩ := Cond.selects_spec hsel
  cases hcls.symm.trans q1
  cases hfoundL.symm.trans q2
  cases hnamed.symm.trans q3
  have hselP : selectMethod e.platform s.vm cellB.cls r0 = .method mk := by rw [Launch.admits_selectMethod X.admits]; exact q4
  have hpubM : hasFlag methM.accessFlags Acc.public_ = true := Cond.publicMethod_spec hnamed hmethM hpub
  have hway : ((cellB.cls :: s.vm.superclasses cellB.cls).any fun k => (declaredIn s.vm r.name r.desc k).any fun (_, z) => z.isPrivate || z.isStatic) = false := by
    rw [hnameR, hdescR]; exact Cond.unhidden_spec hcls hunh
  obtain ⟨c3, t3, w1, w2, w3⟩ := Cond.castable_spec hcast
  cases hcls.symm.trans w1
  cases hcL.symm.trans w2
  obtain ⟨vm₁, X₁, hstep₁⟩ := X.invokeinterface hexec hown hlink hn hrm hstR (by rw [hr0cls]; exact hkL) hiL hx (a := b) (cell := cellB) (kcell := kB) hcell
    (fun z h => by rw [h] at hobj; cases hobj) hkB (by rw [hr0cls]; exact w3) hselP hmethM hway hpubM habM (g := g) hg (argsL := argsL) (rest := rest) (hlen _ hsigR) hstack hdg
  rcases hK m meth c ⟨T.setVm vm₁, locs, cells, slots⟩ { g with stack := rest } (.invokeinterface index count) mk (Value.ref b :: argsL).toArray X₁ hg hsize hdg hW (X₁.named hnamed) (hpre vm₁ X₁.warmed) with ⟨v, B, X', hpost, hsteps⟩ | ⟨q, B, X', hpost, hsteps⟩
  · exact Or.inl ⟨v, vm₁, B, X₁.warmed, X', hpost, fun target h => hstep₁ _ fun acts => by rw [doInvoke_state]; exact hsteps.trans h⟩
  · exact Or.inr ⟨q, vm₁, B, X₁.warmed, X', hpost, hstep₁ _ fun acts => by rw [doInvoke_state]; exact hsteps⟩
theorem vx_runF {x y : MethodName} {bytes cc : ByteArray} {maxL nL mc ms n index count : Nat} {ret : Option FieldType} {ws : List Cond} {rm : Room} {Pc : Array Value → State → Prop} {Qc : Array Value → State → Outcome → State → Prop} {XC : String → State → State → Prop} {free : Addr → Prop} {Ts : List Cond} {own C : String} {cC : ClassId} {b : Addr} {As rest : List Value} {g : JFrame}
    (hat : ClassAt s C cC) (S : CallFix p m c cc nL s args Ts own) (hM : vx_Met l y ws rm Pc Qc XC mc ms free) (cw : va_CI R s args own C index x y bytes maxL ret ws rm mc ms n) (hp : PreV s H C b Pc As)
    (hg : g.method = m) (hn : As.length = n) (hsize : g.locals.size = nL) (hstack : g.stack = As.reverse ++ .ref b :: rest) (hW : 2 * g.monitorRoom + (rest.map fun v => v.category).sum ≤ 8) (hdg : decode cc g.pc = .ok (.invokeinterface index count, 5)) (hf : cells + mc ≤ R.cells ∧ slots + ms ≤ R.slots) :
    vx_Run5 p l e R s m args below meth c H locs cells slots mc ms g rest (Qc (Value.ref b :: As).toArray) XC free := by
  obtain ⟨hrc, hrs, hfr, hlo, hws, hcw⟩ := cw.back
  have hini := cw.init
  have hK : vx_Back l R p e below s args y 5 8 (PreOf R mc ms Pc) (PostOf Qc mc ms free) (vx_Post XC mc ms free) := vx_back (bytes := bytes) (maxL := maxL) (ret := ret) hM hp.1 hrc hrs hfr hlo hws hcw (fun a' U hW => word_at hW (Or.inl (by first | rfl | simp [Cond.onTables, Cond.keeps, Cond.steady])) hini)
  obtain ⟨hx, hb, hml, ho, -⟩ := S
  obtain ⟨-, ⟨cellB, hcB, hoB, hclB⟩, hPc⟩ := hp
  obtain ⟨hfc, kB, hkB, -⟩ := hat
  cases hfc.symm.trans hclB
  intro T hT X
  rcases vx_callIF X hx (C := C) (bytes := bytes) (maxL := maxL) (ret := ret) ho cw.link cw.decl cw.face cw.sel cw.inst cw.pub cw.unh cw.cast cw.code cw.notMH hK (by rw [hT]; exact hcB) hoB hclB hkB hg (hsize.trans hml.symm) (argsL := As) (rest := rest) (fun sig h => hn.trans (cw.len sig h)) hstack hW (by rw [hb]; exact hdg)
    (fun vm₁ hW₁ => ⟨hf.1, hf.2, hPc (T.setVm vm₁) hT hW₁⟩) with ⟨v, vm₁, ⟨U', l2, c2, s2⟩, hW₁, X', ⟨g', mk, t, L, e1, e2, hq, h1, hL, h2, h3⟩, st⟩ | ⟨q, vm₁, ⟨U', l2, c2, s2⟩, hW₁, X', ⟨g', mk, t, L, E, ce, e1, e2, hq, hce, hcv, hcl, h1, hL, h2, h3⟩, st⟩
  · dsimp only [Pt.U, Pt.locs, Pt.cells, Pt.slots] at X' e1 e2 h1 h2 h3 st
    subst h1; subst h2; subst h3
    exact Or.inl ⟨v, (T.setVm vm₁).calling g' mk (Value.ref b :: As).toArray, t, U', L, hT, X', hL, e1, e2, hq, st⟩
  · dsimp only [Pt.U, Pt.locs, Pt.cells, Pt.slots] at X' e1 e2 h1 h2 h3 st hcl
    subst h1; subst h2; subst h3
    exact Or.inr ⟨q, (T.setVm vm₁).calling g' mk (Value.ref b :: As).toArray, t, U', L, E, ce, hT, X', hL, e1, e2, hq, hce, hcv, vx_cls hW₁ hcl, st⟩
theorem vx_callFv {S SX : Type} {post : S → Prop} {px : SX → Prop} {B : S → State → Prop} {BX : String → SX → State → Prop} {AX : Nat → Prop} (hr : vx_Run5 p l e R s m args below meth c H locs cells slots mc ms (F0 m pc ls st0) rest (va_Qv post B A1 a) (vx_X px BX AX) free) (hS : va_S A0 H0 H locs) (hA : ∀ q, q < H.size → A1 q → A0 q) (hf : ∀ q, free q → A0 q) (hAX : ∀ q, q < H.size → AX q → A0 q)
    (kx : ∀ (E : String) (ce : Cell) (q9 : Addr) (u : SX) (t : State) (H1 : Heap) (locs1 : List Loc), t.heap = H1 → s.vm.Alike t.vm → px u → BX E u t → H.size ≤ H1.size → (∀ q : Nat, q < H.size → ¬ AX q → H1[q]? = H[q]?) → va_S A0 H0 H1 locs1 → H1[q9]? = some ce → ce.vm = .none → s.vm.findClass E = some ce.cls → vx_W p l e R s m args below meth c H1 locs1 (cells + mc) (slots + ms) Q (F0 m pc ls rest) q9)
    (kk : ∀ (u : S) (t : State) (H1 : Heap) (locs1 : List Loc), t.heap = H1 → s.vm.Alike t.vm → post u → B u t → H.size ≤ H1.size → (∀ q : Nat, q < H.size → ¬ A1 q → H1[q]? = H[q]?) → va_S A0 H0 H1 locs1 → W p l e R s m args below meth c H1 locs1 (cells + mc) (slots + ms) Q (F0 m (pc + 5) ls (rest))) : W p l e R s m args below meth c H locs cells slots Q (F0 m pc ls st0) := by
  intro T hT X
  rcases hr T hT X with ⟨v, st₀, t, T', L, h0, X', hL, e1, e2, ⟨⟨u, hv, hp, hb⟩, hF⟩, st⟩ | ⟨q, st₀, t, T', L, E, ce, h0, X', hL, e1, e2, ⟨u, hp, hb, hF⟩, hce, hcv, hcl, st⟩
  · cases hv
    obtain ⟨k1, k2, k3⟩ := vx_keep h0 e1 hS hA hf hL hF
    obtain ⟨t2, a1, b1⟩ := kk u t T'.heap (locs ++ L) e1.symm (by rw [← e2]; exact X'.warmed.alike) hp hb k1 k2 k3 T' rfl X'
    exact ⟨t2, st t2 a1, b1⟩
  · obtain ⟨k1, k2, k3⟩ := vx_keep h0 e1 hS hAX hf hL hF
    obtain ⟨t2, a1, b1⟩ := kx E ce q u t T'.heap (locs ++ L) e1.symm (by rw [← e2]; exact X'.warmed.alike) hp hb k1 k2 k3 (by rw [e1]; exact hce) hcv hcl T' rfl X'
    exact ⟨t2, st.trans a1, b1⟩
theorem vx_callFi {S SX : Type} {post : Int32 → S → Prop} {px : SX → Prop} {B : S → State → Prop} {BX : String → SX → State → Prop} {AX : Nat → Prop} (hr : vx_Run5 p l e R s m args below meth c H locs cells slots mc ms (F0 m pc ls st0) rest (va_Qi post B A1 a) (vx_X px BX AX) free) (hS : va_S A0 H0 H locs) (hA : ∀ q, q < H.size → A1 q → A0 q) (hf : ∀ q, free q → A0 q) (hAX : ∀ q, q < H.size → AX q → A0 q)
    (kx : ∀ (E : String) (ce : Cell) (q9 : Addr) (u : SX) (t : State) (H1 : Heap) (locs1 : List Loc), t.heap = H1 → s.vm.Alike t.vm → px u → BX E u t → H.size ≤ H1.size → (∀ q : Nat, q < H.size → ¬ AX q → H1[q]? = H[q]?) → va_S A0 H0 H1 locs1 → H1[q9]? = some ce → ce.vm = .none → s.vm.findClass E = some ce.cls → vx_W p l e R s m args below meth c H1 locs1 (cells + mc) (slots + ms) Q (F0 m pc ls rest) q9)
    (kk : ∀ (r : Int32) (u : S) (t : State) (H1 : Heap) (locs1 : List Loc), t.heap = H1 → s.vm.Alike t.vm → post r u → B u t → H.size ≤ H1.size → (∀ q : Nat, q < H.size → ¬ A1 q → H1[q]? = H[q]?) → va_S A0 H0 H1 locs1 → W p l e R s m args below meth c H1 locs1 (cells + mc) (slots + ms) Q (F0 m (pc + 5) ls (.int r :: rest))) : W p l e R s m args below meth c H locs cells slots Q (F0 m pc ls st0) := by
  intro T hT X
  rcases hr T hT X with ⟨v, st₀, t, T', L, h0, X', hL, e1, e2, ⟨⟨r, u, hv, hp, hb⟩, hF⟩, st⟩ | ⟨q, st₀, t, T', L, E, ce, h0, X', hL, e1, e2, ⟨u, hp, hb, hF⟩, hce, hcv, hcl, st⟩
  · cases hv
    obtain ⟨k1, k2, k3⟩ := vx_keep h0 e1 hS hA hf hL hF
    obtain ⟨t2, a1, b1⟩ := kk r u t T'.heap (locs ++ L) e1.symm (by rw [← e2]; exact X'.warmed.alike) hp hb k1 k2 k3 T' rfl X'
    exact ⟨t2, st t2 a1, b1⟩
  · obtain ⟨k1, k2, k3⟩ := vx_keep h0 e1 hS hAX hf hL hF
    obtain ⟨t2, a1, b1⟩ := kx E ce q u t T'.heap (locs ++ L) e1.symm (by rw [← e2]; exact X'.warmed.alike) hp hb k1 k2 k3 (by rw [e1]; exact hce) hcv hcl T' rfl X'
    exact ⟨t2, st.trans a1, b1⟩
theorem vx_callFl {S SX : Type} {post : Int64 → S → Prop} {px : SX → Prop} {B : S → State → Prop} {BX : String → SX → State → Prop} {AX : Nat → Prop} (hr : vx_Run5 p l e R s m args below meth c H locs cells slots mc ms (F0 m pc ls st0) rest (va_Ql post B A1 a) (vx_X px BX AX) free) (hS : va_S A0 H0 H locs) (hA : ∀ q, q < H.size → A1 q → A0 q) (hf : ∀ q, free q → A0 q) (hAX : ∀ q, q < H.size → AX q → A0 q)
    (kx : ∀ (E : String) (ce : Cell) (q9 : Addr) (u : SX) (t : State) (H1 : Heap) (locs1 : List Loc), t.heap = H1 → s.vm.Alike t.vm → px u → BX E u t → H.size ≤ H1.size → (∀ q : Nat, q < H.size → ¬ AX q → H1[q]? = H[q]?) → va_S A0 H0 H1 locs1 → H1[q9]? = some ce → ce.vm = .none → s.vm.findClass E = some ce.cls → vx_W p l e R s m args below meth c H1 locs1 (cells + mc) (slots + ms) Q (F0 m pc ls rest) q9)
    (kk : ∀ (r : Int64) (u : S) (t : State) (H1 : Heap) (locs1 : List Loc), t.heap = H1 → s.vm.Alike t.vm → post r u → B u t → H.size ≤ H1.size → (∀ q : Nat, q < H.size → ¬ A1 q → H1[q]? = H[q]?) → va_S A0 H0 H1 locs1 → W p l e R s m args below meth c H1 locs1 (cells + mc) (slots + ms) Q (F0 m (pc + 5) ls (.long r :: rest))) : W p l e R s m args below meth c H locs cells slots Q (F0 m pc ls st0) := by
  intro T hT X
  rcases hr T hT X with ⟨v, st₀, t, T', L, h0, X', hL, e1, e2, ⟨⟨r, u, hv, hp, hb⟩, hF⟩, st⟩ | ⟨q, st₀, t, T', L, E, ce, h0, X', hL, e1, e2, ⟨u, hp, hb, hF⟩, hce, hcv, hcl, st⟩
  · cases hv
    obtain ⟨k1, k2, k3⟩ := vx_keep h0 e1 hS hA hf hL hF
    obtain ⟨t2, a1, b1⟩ := kk r u t T'.heap (locs ++ L) e1.symm (by rw [← e2]; exact X'.warmed.alike) hp hb k1 k2 k3 T' rfl X'
    exact ⟨t2, st t2 a1, b1⟩
  · obtain ⟨k1, k2, k3⟩ := vx_keep h0 e1 hS hAX hf hL hF
    obtain ⟨t2, a1, b1⟩ := kx E ce q u t T'.heap (locs ++ L) e1.symm (by rw [← e2]; exact X'.warmed.alike) hp hb k1 k2 k3 (by rw [e1]; exact hce) hcv hcl T' rfl X'
    exact ⟨t2, st.trans a1, b1⟩
theorem vx_callFf {S SX : Type} {post : UInt32 → S → Prop} {px : SX → Prop} {B : S → State → Prop} {BX : String → SX → State → Prop} {AX : Nat → Prop} (hr : vx_Run5 p l e R s m args below meth c H locs cells slots mc ms (F0 m pc ls st0) rest (va_Qf post B A1 a) (vx_X px BX AX) free) (hS : va_S A0 H0 H locs) (hA : ∀ q, q < H.size → A1 q → A0 q) (hf : ∀ q, free q → A0 q) (hAX : ∀ q, q < H.size → AX q → A0 q)
    (kx : ∀ (E : String) (ce : Cell) (q9 : Addr) (u : SX) (t : State) (H1 : Heap) (locs1 : List Loc), t.heap = H1 → s.vm.Alike t.vm → px u → BX E u t → H.size ≤ H1.size → (∀ q : Nat, q < H.size → ¬ AX q → H1[q]? = H[q]?) → va_S A0 H0 H1 locs1 → H1[q9]? = some ce → ce.vm = .none → s.vm.findClass E = some ce.cls → vx_W p l e R s m args below meth c H1 locs1 (cells + mc) (slots + ms) Q (F0 m pc ls rest) q9)
    (kk : ∀ (r : UInt32) (u : S) (t : State) (H1 : Heap) (locs1 : List Loc), t.heap = H1 → s.vm.Alike t.vm → post r u → B u t → H.size ≤ H1.size → (∀ q : Nat, q < H.size → ¬ A1 q → H1[q]? = H[q]?) → va_S A0 H0 H1 locs1 → W p l e R s m args below meth c H1 locs1 (cells + mc) (slots + ms) Q (F0 m (pc + 5) ls (.float r :: rest))) : W p l e R s m args below meth c H locs cells slots Q (F0 m pc ls st0) := by
  intro T hT X
  rcases hr T hT X with ⟨v, st₀, t, T', L, h0, X', hL, e1, e2, ⟨⟨r, u, hv, hp, hb⟩, hF⟩, st⟩ | ⟨q, st₀, t, T', L, E, ce, h0, X', hL, e1, e2, ⟨u, hp, hb, hF⟩, hce, hcv, hcl, st⟩
  · cases hv
    obtain ⟨k1, k2, k3⟩ := vx_keep h0 e1 hS hA hf hL hF
    obtain ⟨t2, a1, b1⟩ := kk r u t T'.heap (locs ++ L) e1.symm (by rw [← e2]; exact X'.warmed.alike) hp hb k1 k2 k3 T' rfl X'
    exact ⟨t2, st t2 a1, b1⟩
  · obtain ⟨k1, k2, k3⟩ := vx_keep h0 e1 hS hAX hf hL hF
    obtain ⟨t2, a1, b1⟩ := kx E ce q u t T'.heap (locs ++ L) e1.symm (by rw [← e2]; exact X'.warmed.alike) hp hb k1 k2 k3 (by rw [e1]; exact hce) hcv hcl T' rfl X'
    exact ⟨t2, st.trans a1, b1⟩
theorem vx_callFd {S SX : Type} {post : UInt64 → S → Prop} {px : SX → Prop} {B : S → State → Prop} {BX : String → SX → State → Prop} {AX : Nat → Prop} (hr : vx_Run5 p l e R s m args below meth c H locs cells slots mc ms (F0 m pc ls st0) rest (va_Qd post B A1 a) (vx_X px BX AX) free) (hS : va_S A0 H0 H locs) (hA : ∀ q, q < H.size → A1 q → A0 q) (hf : ∀ q, free q → A0 q) (hAX : ∀ q, q < H.size → AX q → A0 q)
    (kx : ∀ (E : String) (ce : Cell) (q9 : Addr) (u : SX) (t : State) (H1 : Heap) (locs1 : List Loc), t.heap = H1 → s.vm.Alike t.vm → px u → BX E u t → H.size ≤ H1.size → (∀ q : Nat, q < H.size → ¬ AX q → H1[q]? = H[q]?) → va_S A0 H0 H1 locs1 → H1[q9]? = some ce → ce.vm = .none → s.vm.findClass E = some ce.cls → vx_W p l e R s m args below meth c H1 locs1 (cells + mc) (slots + ms) Q (F0 m pc ls rest) q9)
    (kk : ∀ (r : UInt64) (u : S) (t : State) (H1 : Heap) (locs1 : List Loc), t.heap = H1 → s.vm.Alike t.vm → post r u → B u t → H.size ≤ H1.size → (∀ q : Nat, q < H.size → ¬ A1 q → H1[q]? = H[q]?) → va_S A0 H0 H1 locs1 → W p l e R s m args below meth c H1 locs1 (cells + mc) (slots + ms) Q (F0 m (pc + 5) ls (.double r :: rest))) : W p l e R s m args below meth c H locs cells slots Q (F0 m pc ls st0) := by
  intro T hT X
  rcases hr T hT X with ⟨v, st₀, t, T', L, h0, X', hL, e1, e2, ⟨⟨r, u, hv, hp, hb⟩, hF⟩, st⟩ | ⟨q, st₀, t, T', L, E, ce, h0, X', hL, e1, e2, ⟨u, hp, hb, hF⟩, hce, hcv, hcl, st⟩
  · cases hv
    obtain ⟨k1, k2, k3⟩ := vx_keep h0 e1 hS hA hf hL hF
    obtain ⟨t2, a1, b1⟩ := kk r u t T'.heap (locs ++ L) e1.symm (by rw [← e2]; exact X'.warmed.alike) hp hb k1 k2 k3 T' rfl X'
    exact ⟨t2, st t2 a1, b1⟩
  · obtain ⟨k1, k2, k3⟩ := vx_keep h0 e1 hS hAX hf hL hF
    obtain ⟨t2, a1, b1⟩ := kx E ce q u t T'.heap (locs ++ L) e1.symm (by rw [← e2]; exact X'.warmed.alike) hp hb k1 k2 k3 (by rw [e1]; exact hce) hcv hcl T' rfl X'
    exact ⟨t2, st.trans a1, b1⟩
end
/-! ===== END ===== -/
/-! ===== BEGIN by an interface, a method with a table of its own that may throw (follows va_callIFW, va_runFW) ===== -/
section
variable {p : Program} {l : Launch} {e : Env} {R : Room} {s : State} {m : MethodId} {args : Array Value} {below : List Frame} {meth : Method} {c : Code} {H : Heap} {locs : List Loc} {cells slots : Nat}
theorem vx_callIFW {T : State} (X : Stand p l e R s m args below meth c T locs cells slots) (hexec : p.tables.exec = Jvm.exec) {own C : String} {index count : Nat} {x y : MethodName} {bytes : ByteArray} {maxL : Nat} {ret : Option FieldType} {hh : List (Nat × Nat × Nat × Nat)}
    (hown : s.vm.findClass own = some m.cls) (hlink : (Cond.methodLink own index x).before args s = true) (hdecl : (Cond.declares x).before args s = true) (hface : (Cond.interfaceMethod x.cls x.cls x.name x.desc).before args s = true)
    (hsel : (Cond.selects C x y).before args s = true) (hinst : (Cond.instanceMethod y).before args s = true) (hpub : (Cond.publicMethod y).before args s = true) (hunh : (Cond.unhidden C x.name x.desc).before args s = true)
    (hcast : (Cond.castable C x.cls).before args s = true) (hcode : (Cond.codeWith y bytes maxL ret hh).before args s = true) (hx : x.cls ≠ "java/lang/invoke/MethodHandle" ∧ x.cls ≠ "java/lang/invoke/VarHandle")
    {W : Nat} {Pre : Pt → Array Value → Prop} {Post : Pt → Array Value → Option Value → Pt → Prop} {PostX : Pt → Array Value → Addr → Pt → Prop} (hK : vx_Back l R p e below s args y 5 W Pre Post PostX)
    {b : Addr} {cellB : Cell} {kB : Class} (hcell : T.heap[b]? = some cellB) (hobj : cellB.vm.isStatics = false) (hcls : s.vm.findClass C = some cellB.cls) (hkB : s.vm.classes[cellB.cls]? = some kB)
    {g : JFrame} (hg : g.method = m) (hsize : g.locals.size = c.maxLocals) {argsL rest : List Value} (hlen : ∀ sig, parseMethodDescriptor x.desc = some sig → argsL.length = sig.parameters.length)
    (hstack : g.stack = argsL.reverse ++ .ref b :: rest) (hW : 2 * g.monitorRoom + (rest.map fun v => v.category).sum ≤ W) (hdg : decode c.code g.pc = .ok (.invokeinterface index count, 5))
    (hpre : ∀ vm₁, s.WarmedH vm₁ → Pre ⟨T.setVm vm₁, locs, cells, slots⟩ (Value.ref b :: argsL).toArray) :
    (∃ (v : Option Value) (vm₁ : Vm) (B : Pt), s.WarmedH vm₁ ∧ Stand p l e R s m args below meth c B.U B.locs B.cells B.slots ∧ Post ⟨T.setVm vm₁, locs, cells, slots⟩ (Value.ref b :: argsL).toArray v B ∧
      ∀ target, Steps p.tables e below (B.U.setTop { g with pc := g.pc + 5, stack := v.toList ++ rest }) target → Steps p.tables e below (T.setTop g) target) ∨
    (∃ (q : Addr) (vm₁ : Vm) (B : Pt), s.WarmedH vm₁ ∧ Stand p l e R s m args below meth c B.U B.locs B.cells B.slots ∧ PostX ⟨T.setVm vm₁, locs, cells, slots⟩ (Value.ref b :: argsL).toArray q B ∧
      Steps p.tables e below (T.setTop g) ((B.U.setTop { g with stack := rest }).pushFrame (.throwing q))) := by
  obtain ⟨r0, r, hn, hrm, hstR, hsigR⟩ := Cond.declares_spec hdecl
  obtain ⟨cL, kL, r1, hcL, hkL, hiL, hfoundL, hn1⟩ := Cond.interfaceMethod_spec hface
  cases hn.symm.trans hn1
  have hr0cls : r0.cls = cL := Option.some.inj ((findClass_of_methodNamed hn).symm.trans hcL)
  obtain ⟨hnameR, hdescR⟩ := name_of_methodNamed hn hrm
  obtain ⟨mk, methM, hnamed, hmethM, -, habM⟩ := Cond.instanceMethod_spec hinst
  obtain ⟨c2, r2, m2, q1, q2, q3, q4, -⟩ := Cond.selects_spec hsel
  cases hcls.symm.trans q1
  cases hfoundL.symm.trans q2
  cases hnamed.symm.trans q3
  have hselP : selectMethod e.platform s.vm cellB.cls r0 = .method mk := by rw [Launch.admits_selectMethod X.admits]; exact q4
  have hpubM : hasFlag methM.accessFlags Acc.public_ = true := Cond.publicMethod_spec hnamed hmethM hpub
  have hway : ((cellB.cls :: s.vm.superclasses cellB.cls).any fun k => (declaredIn s.vm r.name r.desc k).any fun (_, z) => z.isPrivate || z.isStatic) = false := by
    rw [hnameR, hdescR]; exact Cond.unhidden_spec hcls hunh
  obtain ⟨c3, t3, w1, w2, w3⟩ := Cond.castable_spec hcast
  cases hcls.symm.trans w1
  cases hcL.symm.trans w2
  obtain ⟨vm₁, X₁, hstep₁⟩ := X.invokeinterface hexec hown hlink hn hrm hstR (by rw [hr0cls]; exact hkL) hiL hx (a := b) (cell := cellB) (kcell := kB) hcell
    (fun z h => by rw [h] at hobj; cases hobj) hkB (by rw [hr0cls]; exact w3) hselP hmethM hway hpubM habM (g := g) hg (argsL := argsL) (rest := rest) (hlen _ hsigR) hstack hdg
  rcases hK m meth c ⟨T.setVm vm₁, locs, cells, slots⟩ { g with stack := rest } (.invokeinterface index count) mk (Value.ref b :: argsL).toArray X₁ hg hsize hdg hW (X₁.named hnamed) (hpre vm₁ X₁.warmed) with ⟨v, B, X', hpost, hsteps⟩ | ⟨q, B, X', hpost, hsteps⟩
  · exact Or.inl ⟨v, vm₁, B, X₁.warmed, X', hpost, fun target h => hstep₁ _ fun acts => by rw [doInvoke_state]; exact hsteps.trans h⟩
  · exact Or.inr ⟨q, vm₁, B, X₁.warmed, X', hpost, hstep₁ _ fun acts => by rw [doInvoke_state]; exact hsteps⟩
theorem vx_runFW {x y : MethodName} {bytes cc : ByteArray} {maxL nL mc ms n index count : Nat} {ret : Option FieldType} {hh : List (Nat × Nat × Nat × Nat)} {ws : List Cond} {rm : Room} {Pc : Array Value → State → Prop} {Qc : Array Value → State → Outcome → State → Prop} {XC : String → State → State → Prop} {free : Addr → Prop} {Ts : List Cond} {own C : String} {cC : ClassId} {b : Addr} {As rest : List Value} {g : JFrame}
    (hat : ClassAt s C cC) (S : CallFix p m c cc nL s args Ts own) (hM : vx_Met l y ws rm Pc Qc XC mc ms free) (cw : va_CIW R s args own C index x y bytes maxL ret hh ws rm mc ms n) (hp : PreV s H C b Pc As)
    (hg : g.method = m) (hn : As.length = n) (hsize : g.locals.size = nL) (hstack : g.stack = As.reverse ++ .ref b :: rest) (hW : 2 * g.monitorRoom + (rest.map fun v => v.category).sum ≤ 8) (hdg : decode cc g.pc = .ok (.invokeinterface index count, 5)) (hf : cells + mc ≤ R.cells ∧ slots + ms ≤ R.slots) :
    vx_Run5 p l e R s m args below meth c H locs cells slots mc ms g rest (Qc (Value.ref b :: As).toArray) XC free := by
  obtain ⟨hrc, hrs, hfr, hlo, hws, hcw⟩ := cw.back
  have hini := cw.init
  have hK : vx_Back l R p e below s args y 5 8 (PreOf R mc ms Pc) (PostOf Qc mc ms free) (vx_Post XC mc ms free) := vx_backW (hh := hh) (bytes := bytes) (maxL := maxL) (ret := ret) hM hp.1 hrc hrs hfr hlo hws hcw (fun a' U hW => word_at hW (Or.inl (by first | rfl | simp [Cond.onTables, Cond.keeps, Cond.steady])) hini)
  obtain ⟨hx, hb, hml, ho, -⟩ := S
  obtain ⟨-, ⟨cellB, hcB, hoB, hclB⟩, hPc⟩ := hp
  obtain ⟨hfc, kB, hkB, -⟩ := hat
  cases hfc.symm.trans hclB
  intro T hT X
  rcases vx_callIFW X hx (C := C) (hh := hh) (bytes := bytes) (maxL := maxL) (ret := ret) ho cw.link cw.decl cw.face cw.sel cw.inst cw.pub cw.unh cw.cast cw.code cw.notMH hK (by rw [hT]; exact hcB) hoB hclB hkB hg (hsize.trans hml.symm) (argsL := As) (rest := rest) (fun sig h => hn.trans (cw.len sig h)) hstack hW (by rw [hb]; exact hdg)
    (fun vm₁ hW₁ => ⟨hf.1, hf.2, hPc (T.setVm vm₁) hT hW₁⟩) with ⟨v, vm₁, ⟨U', l2, c2, s2⟩, hW₁, X', ⟨g', mk, t, L, e1, e2, hq, h1, hL, h2, h3⟩, st⟩ | ⟨q, vm₁, ⟨U', l2, c2, s2⟩, hW₁, X', ⟨g', mk, t, L, E, ce, e1, e2, hq, hce, hcv, hcl, h1, hL, h2, h3⟩, st⟩
  · dsimp only [Pt.U, Pt.locs, Pt.cells, Pt.slots] at X' e1 e2 h1 h2 h3 st
    subst h1; subst h2; subst h3
    exact Or.inl ⟨v, (T.setVm vm₁).calling g' mk (Value.ref b :: As).toArray, t, U', L, hT, X', hL, e1, e2, hq, st⟩
  · dsimp only [Pt.U, Pt.locs, Pt.cells, Pt.slots] at X' e1 e2 h1 h2 h3 st hcl
    subst h1; subst h2; subst h3
    exact Or.inr ⟨q, (T.setVm vm₁).calling g' mk (Value.ref b :: As).toArray, t, U', L, E, ce, hT, X', hL, e1, e2, hq, hce, hcv, vx_cls hW₁ hcl, st⟩
end
/-! ===== END ===== -/
/-! ===== BEGIN .. of methods that hand back an object of the pool ===== -/
section
variable {p : Program} {l : Launch} {e : Env} {R : Room} {s : State} {m : MethodId} {args : Array Value} {below : List Frame} {meth : Method} {c : Code} {H : Heap} {locs : List Loc} {cells slots : Nat} {Q : State → Prop}
variable {mc ms : Nat} {free : Addr → Prop} {A0 A1 : Nat → Prop} {H0 : Heap} {a : Array Value} {pc : Nat} {ls : Array Slot} {st0 rest : List Value}
theorem vx_callq {S SX : Type} {post : Option Nat → S → Prop} {px : SX → Prop} {B : S → State → Prop} {BX : String → SX → State → Prop} {AX : Nat → Prop} (hr : vx_Run p l e R s m args below meth c H locs cells slots mc ms (F0 m pc ls st0) rest (va_Qq post B A1 a) (vx_X px BX AX) free) (hS : va_S A0 H0 H locs) (hA : ∀ q, q < H.size → A1 q → A0 q) (hf : ∀ q, free q → A0 q) (hAX : ∀ q, q < H.size → AX q → A0 q)
    (kx : ∀ (E : String) (ce : Cell) (q9 : Addr) (u : SX) (t : State) (H1 : Heap) (locs1 : List Loc), t.heap = H1 → s.vm.Alike t.vm → px u → BX E u t → H.size ≤ H1.size → (∀ q : Nat, q < H.size → ¬ AX q → H1[q]? = H[q]?) → va_S A0 H0 H1 locs1 → H1[q9]? = some ce → ce.vm = .none → s.vm.findClass E = some ce.cls → vx_W p l e R s m args below meth c H1 locs1 (cells + mc) (slots + ms) Q (F0 m pc ls rest) q9)
    (kk : ∀ (r : Option Nat) (u : S) (t : State) (H1 : Heap) (locs1 : List Loc), t.heap = H1 → s.vm.Alike t.vm → post r u → B u t → H.size ≤ H1.size → (∀ q : Nat, q < H.size → ¬ A1 q → H1[q]? = H[q]?) → va_S A0 H0 H1 locs1 → W p l e R s m args below meth c H1 locs1 (cells + mc) (slots + ms) Q (F0 m (pc + 3) ls (va_rf r :: rest))) : W p l e R s m args below meth c H locs cells slots Q (F0 m pc ls st0) := by
  intro T hT X
  rcases hr T hT X with ⟨v, st₀, t, T', L, h0, X', hL, e1, e2, ⟨⟨r, u, hv, hp, hb⟩, hF⟩, st⟩ | ⟨q, st₀, t, T', L, E, ce, h0, X', hL, e1, e2, ⟨u, hp, hb, hF⟩, hce, hcv, hcl, st⟩
  · cases hv
    obtain ⟨k1, k2, k3⟩ := vx_keep h0 e1 hS hA hf hL hF
    obtain ⟨t2, a1, b1⟩ := kk r u t T'.heap (locs ++ L) e1.symm (by rw [← e2]; exact X'.warmed.alike) hp hb k1 k2 k3 T' rfl X'
    exact ⟨t2, st t2 a1, b1⟩
  · obtain ⟨k1, k2, k3⟩ := vx_keep h0 e1 hS hAX hf hL hF
    obtain ⟨t2, a1, b1⟩ := kx E ce q u t T'.heap (locs ++ L) e1.symm (by rw [← e2]; exact X'.warmed.alike) hp hb k1 k2 k3 (by rw [e1]; exact hce) hcv hcl T' rfl X'
    exact ⟨t2, st.trans a1, b1⟩
end
/-! ===== END ===== -/
/-! ===== BEGIN .. a constant ===== -/
section
variable {p : Program} {l : Launch} {e : Env} {R : Room} {s : State} {m : MethodId} {args : Array Value} {below : List Frame} {meth : Method} {c : Code} {H : Heap} {locs : List Loc} {cells slots : Nat} {Q : State → Prop}
variable {mc ms : Nat} {free : Addr → Prop} {A0 A1 : Nat → Prop} {H0 : Heap} {a : Array Value} {pc : Nat} {ls : Array Slot} {st0 rest : List Value}
theorem vx_calle {ad : Nat → Nat} {S SX : Type} {post : Option Nat → S → Prop} {px : SX → Prop} {B : S → State → Prop} {BX : String → SX → State → Prop} {AX : Nat → Prop} (hr : vx_Run p l e R s m args below meth c H locs cells slots mc ms (F0 m pc ls st0) rest (va_Qe ad post B A1 a) (vx_X px BX AX) free) (hS : va_S A0 H0 H locs) (hA : ∀ q, q < H.size → A1 q → A0 q) (hf : ∀ q, free q → A0 q) (hAX : ∀ q, q < H.size → AX q → A0 q)
    (kx : ∀ (E : String) (ce : Cell) (q9 : Addr) (u : SX) (t : State) (H1 : Heap) (locs1 : List Loc), t.heap = H1 → s.vm.Alike t.vm → px u → BX E u t → H.size ≤ H1.size → (∀ q : Nat, q < H.size → ¬ AX q → H1[q]? = H[q]?) → va_S A0 H0 H1 locs1 → H1[q9]? = some ce → ce.vm = .none → s.vm.findClass E = some ce.cls → vx_W p l e R s m args below meth c H1 locs1 (cells + mc) (slots + ms) Q (F0 m pc ls rest) q9)
    (kk : ∀ (r : Option Nat) (u : S) (t : State) (H1 : Heap) (locs1 : List Loc), t.heap = H1 → s.vm.Alike t.vm → post r u → B u t → H.size ≤ H1.size → (∀ q : Nat, q < H.size → ¬ A1 q → H1[q]? = H[q]?) → va_S A0 H0 H1 locs1 → W p l e R s m args below meth c H1 locs1 (cells + mc) (slots + ms) Q (F0 m (pc + 3) ls (va_re ad r :: rest))) : W p l e R s m args below meth c H locs cells slots Q (F0 m pc ls st0) := by
  intro T hT X
  rcases hr T hT X with ⟨v, st₀, t, T', L, h0, X', hL, e1, e2, ⟨⟨r, u, hv, hp, hb⟩, hF⟩, st⟩ | ⟨q, st₀, t, T', L, E, ce, h0, X', hL, e1, e2, ⟨u, hp, hb, hF⟩, hce, hcv, hcl, st⟩
  · cases hv
    obtain ⟨k1, k2, k3⟩ := vx_keep h0 e1 hS hA hf hL hF
    obtain ⟨t2, a1, b1⟩ := kk r u t T'.heap (locs ++ L) e1.symm (by rw [← e2]; exact X'.warmed.alike) hp hb k1 k2 k3 T' rfl X'
    exact ⟨t2, st t2 a1, b1⟩
  · obtain ⟨k1, k2, k3⟩ := vx_keep h0 e1 hS hAX hf hL hF
    obtain ⟨t2, a1, b1⟩ := kx E ce q u t T'.heap (locs ++ L) e1.symm (by rw [← e2]; exact X'.warmed.alike) hp hb k1 k2 k3 (by rw [e1]; exact hce) hcv hcl T' rfl X'
    exact ⟨t2, st.trans a1, b1⟩
end
/-! ===== END ===== -/
/-! ===== BEGIN .. by an interface, an object ===== -/
section
variable {p : Program} {l : Launch} {e : Env} {R : Room} {s : State} {m : MethodId} {args : Array Value} {below : List Frame} {meth : Method} {c : Code} {H : Heap} {locs : List Loc} {cells slots : Nat} {Q : State → Prop}
variable {mc ms : Nat} {free : Addr → Prop} {A0 A1 : Nat → Prop} {H0 : Heap} {a : Array Value} {pc : Nat} {ls : Array Slot} {st0 rest : List Value}
theorem vx_callFq {S SX : Type} {post : Option Nat → S → Prop} {px : SX → Prop} {B : S → State → Prop} {BX : String → SX → State → Prop} {AX : Nat → Prop} (hr : vx_Run5 p l e R s m args below meth c H locs cells slots mc ms (F0 m pc ls st0) rest (va_Qq post B A1 a) (vx_X px BX AX) free) (hS : va_S A0 H0 H locs) (hA : ∀ q, q < H.size → A1 q → A0 q) (hf : ∀ q, free q → A0 q) (hAX : ∀ q, q < H.size → AX q → A0 q)
    (kx : ∀ (E : String) (ce : Cell) (q9 : Addr) (u : SX) (t : State) (H1 : Heap) (locs1 : List Loc), t.heap = H1 → s.vm.Alike t.vm → px u → BX E u t → H.size ≤ H1.size → (∀ q : Nat, q < H.size → ¬ AX q → H1[q]? = H[q]?) → va_S A0 H0 H1 locs1 → H1[q9]? = some ce → ce.vm = .none → s.vm.findClass E = some ce.cls → vx_W p l e R s m args below meth c H1 locs1 (cells + mc) (slots + ms) Q (F0 m pc ls rest) q9)
    (kk : ∀ (r : Option Nat) (u : S) (t : State) (H1 : Heap) (locs1 : List Loc), t.heap = H1 → s.vm.Alike t.vm → post r u → B u t → H.size ≤ H1.size → (∀ q : Nat, q < H.size → ¬ A1 q → H1[q]? = H[q]?) → va_S A0 H0 H1 locs1 → W p l e R s m args below meth c H1 locs1 (cells + mc) (slots + ms) Q (F0 m (pc + 5) ls (va_rf r :: rest))) : W p l e R s m args below meth c H locs cells slots Q (F0 m pc ls st0) := by
  intro T hT X
  rcases hr T hT X with ⟨v, st₀, t, T', L, h0, X', hL, e1, e2, ⟨⟨r, u, hv, hp, hb⟩, hF⟩, st⟩ | ⟨q, st₀, t, T', L, E, ce, h0, X', hL, e1, e2, ⟨u, hp, hb, hF⟩, hce, hcv, hcl, st⟩
  · cases hv
    obtain ⟨k1, k2, k3⟩ := vx_keep h0 e1 hS hA hf hL hF
    obtain ⟨t2, a1, b1⟩ := kk r u t T'.heap (locs ++ L) e1.symm (by rw [← e2]; exact X'.warmed.alike) hp hb k1 k2 k3 T' rfl X'
    exact ⟨t2, st t2 a1, b1⟩
  · obtain ⟨k1, k2, k3⟩ := vx_keep h0 e1 hS hAX hf hL hF
    obtain ⟨t2, a1, b1⟩ := kx E ce q u t T'.heap (locs ++ L) e1.symm (by rw [← e2]; exact X'.warmed.alike) hp hb k1 k2 k3 (by rw [e1]; exact hce) hcv hcl T' rfl X'
    exact ⟨t2, st.trans a1, b1⟩
end
/-! ===== END ===== -/
/-! ===== BEGIN .. by an interface, a constant ===== -/
section
variable {p : Program} {l : Launch} {e : Env} {R : Room} {s : State} {m : MethodId} {args : Array Value} {below : List Frame} {meth : Method} {c : Code} {H : Heap} {locs : List Loc} {cells slots : Nat} {Q : State → Prop}
variable {mc ms : Nat} {free : Addr → Prop} {A0 A1 : Nat → Prop} {H0 : Heap} {a : Array Value} {pc : Nat} {ls : Array Slot} {st0 rest : List Value}
theorem vx_callFe {ad : Nat → Nat} {S SX : Type} {post : Option Nat → S → Prop} {px : SX → Prop} {B : S → State → Prop} {BX : String → SX → State → Prop} {AX : Nat → Prop} (hr : vx_Run5 p l e R s m args below meth c H locs cells slots mc ms (F0 m pc ls st0) rest (va_Qe ad post B A1 a) (vx_X px BX AX) free) (hS : va_S A0 H0 H locs) (hA : ∀ q, q < H.size → A1 q → A0 q) (hf : ∀ q, free q → A0 q) (hAX : ∀ q, q < H.size → AX q → A0 q)
    (kx : ∀ (E : String) (ce : Cell) (q9 : Addr) (u : SX) (t : State) (H1 : Heap) (locs1 : List Loc), t.heap = H1 → s.vm.Alike t.vm → px u → BX E u t → H.size ≤ H1.size → (∀ q : Nat, q < H.size → ¬ AX q → H1[q]? = H[q]?) → va_S A0 H0 H1 locs1 → H1[q9]? = some ce → ce.vm = .none → s.vm.findClass E = some ce.cls → vx_W p l e R s m args below meth c H1 locs1 (cells + mc) (slots + ms) Q (F0 m pc ls rest) q9)
    (kk : ∀ (r : Option Nat) (u : S) (t : State) (H1 : Heap) (locs1 : List Loc), t.heap = H1 → s.vm.Alike t.vm → post r u → B u t → H.size ≤ H1.size → (∀ q : Nat, q < H.size → ¬ A1 q → H1[q]? = H[q]?) → va_S A0 H0 H1 locs1 → W p l e R s m args below meth c H1 locs1 (cells + mc) (slots + ms) Q (F0 m (pc + 5) ls (va_re ad r :: rest))) : W p l e R s m args below meth c H locs cells slots Q (F0 m pc ls st0) := by
  intro T hT X
  rcases hr T hT X with ⟨v, st₀, t, T', L, h0, X', hL, e1, e2, ⟨⟨r, u, hv, hp, hb⟩, hF⟩, st⟩ | ⟨q, st₀, t, T', L, E, ce, h0, X', hL, e1, e2, ⟨u, hp, hb, hF⟩, hce, hcv, hcl, st⟩
  · cases hv
    obtain ⟨k1, k2, k3⟩ := vx_keep h0 e1 hS hA hf hL hF
    obtain ⟨t2, a1, b1⟩ := kk r u t T'.heap (locs ++ L) e1.symm (by rw [← e2]; exact X'.warmed.alike) hp hb k1 k2 k3 T' rfl X'
    exact ⟨t2, st t2 a1, b1⟩
  · obtain ⟨k1, k2, k3⟩ := vx_keep h0 e1 hS hAX hf hL hF
    obtain ⟨t2, a1, b1⟩ := kx E ce q u t T'.heap (locs ++ L) e1.symm (by rw [← e2]; exact X'.warmed.alike) hp hb k1 k2 k3 (by rw [e1]; exact hce) hcv hcl T' rfl X'
    exact ⟨t2, st.trans a1, b1⟩
end
/-! ===== END ===== -/
/-! ===== BEGIN what the machine throws by itself: null at a field, at athrow ===== -/
section VXM2
variable {p : Program} {l : Launch} {e : Env} {R : Room} {s : State} {m : MethodId} {args : Array Value} {below : List Frame} {meth : Method} {c : Code} {H : Heap} {locs : List Loc} {cells slots : Nat}
variable {Q : State → Prop} {cc : ByteArray} {pc : Nat} {ls : Array Slot} {rest : List Value}
theorem vx_getfN {D cl tys} {own ref C : String} {T : u_T} {N ci index : Nat} {Ts : List Cond} (hexec : p.tables.exec = Jvm.exec) (hb : c.code = cc) (hts : ∀ w ∈ Ts, w.before args s = true) (hin : ∀ w ∈ u_ws C T N, w ∈ Ts) (hown : s.vm.findClass own = some m.cls) (hK : va_K D cl tys s) (hc : cl[ci]? = some (C, T, N)) (k : Nat) (hk : k < N) (hlink : (Cond.fieldLink own index ref (T k).2.1 (T k).2.2.1).before args s = true) (hsame : ∀ x, s.fieldFound? (T k).1 (T k).2.1 (T k).2.2.1 = some x → s.fieldFound? ref (T k).2.1 (T k).2.2.1 = some x) (hdg : decode cc pc = .ok (.getfield index, 3)) (kk : vx_NoteN p l e R s m args below meth c H locs cells slots Q (F0 m pc ls rest)) : W p l e R s m args below meth c H locs cells slots Q (F0 m pc ls (.null :: rest)) := by
  obtain ⟨hS, hfc, kC, hkC, -⟩ := hK.1 ci _ hc
  obtain ⟨cf, kf, fi, f, hi, -⟩ := hS k hk
  intro U hU X
  obtain ⟨vm', X1, st1⟩ := X.getfieldNull hexec hown hlink (hsame _ hi) (u_facts hfc hkC (u_lays hts hin hk) hi).1 (g := F0 m pc ls (.null :: rest)) rfl (rest := rest) rfl (by rw [hb]; exact hdg)
  obtain ⟨t, st, q⟩ := kk (U.setVm vm') hU X1
  exact ⟨t, st1 t st, q⟩
theorem vx_getfNN {D cl tys} {own ref C host : String} {T : u_T} {N ci index : Nat} {Ts : List Cond} (hexec : p.tables.exec = Jvm.exec) (hb : c.code = cc) (hts : ∀ w ∈ Ts, w.before args s = true) (hin : ∀ w ∈ u_ws C T N, w ∈ Ts) (hown : s.vm.findClass own = some m.cls) (hK : va_K D cl tys s) (hc : cl[ci]? = some (C, T, N)) (k : Nat) (hk : k < N) (hlink : (Cond.fieldLinkNest own index ref (T k).2.1 (T k).2.2.1 host).before args s = true) (hsame : ∀ x, s.fieldFound? (T k).1 (T k).2.1 (T k).2.2.1 = some x → s.fieldFound? ref (T k).2.1 (T k).2.2.1 = some x) (hdg : decode cc pc = .ok (.getfield index, 3)) (kk : vx_NoteN p l e R s m args below meth c H locs cells slots Q (F0 m pc ls rest)) : W p l e R s m args below meth c H locs cells slots Q (F0 m pc ls (.null :: rest)) := by
  obtain ⟨hS, hfc, kC, hkC, -⟩ := hK.1 ci _ hc
  obtain ⟨cf, kf, fi, f, hi, -⟩ := hS k hk
  intro U hU X
  obtain ⟨vm', X1, st1⟩ := X.getfieldNullNest hexec hown hlink (hsame _ hi) (u_facts hfc hkC (u_lays hts hin hk) hi).1 (g := F0 m pc ls (.null :: rest)) rfl (rest := rest) rfl (by rw [hb]; exact hdg)
  obtain ⟨t, st, q⟩ := kk (U.setVm vm') hU X1
  exact ⟨t, st1 t st, q⟩
theorem vx_putfN {D cl tys} {own ref C : String} {T : u_T} {N ci index : Nat} {Ts : List Cond} (hexec : p.tables.exec = Jvm.exec) (hb : c.code = cc) (hts : ∀ w ∈ Ts, w.before args s = true) (hin : ∀ w ∈ u_ws C T N, w ∈ Ts) (hown : s.vm.findClass own = some m.cls) (hK : va_K D cl tys s) (hc : cl[ci]? = some (C, T, N)) (k : Nat) (hk : k < N) (hlink : (Cond.fieldLink own index ref (T k).2.1 (T k).2.2.1).before args s = true) (hsame : ∀ x, s.fieldFound? (T k).1 (T k).2.1 (T k).2.2.1 = some x → s.fieldFound? ref (T k).2.1 (T k).2.2.1 = some x) (hfin : (T k).2.2.2 = false) {v : Value} (hdg : decode cc pc = .ok (.putfield index, 3)) (kk : vx_NoteN p l e R s m args below meth c H locs cells slots Q (F0 m pc ls rest)) : W p l e R s m args below meth c H locs cells slots Q (F0 m pc ls (v :: .null :: rest)) := by
  obtain ⟨hS, hfc, kC, hkC, -⟩ := hK.1 ci _ hc
  obtain ⟨cf, kf, fi, f, hi, -⟩ := hS k hk
  have hlay := hts _ (hin _ (u_in_lay hk))
  unfold u_lay at hlay
  rw [if_neg (by rw [hfin]; decide)] at hlay
  obtain ⟨c9, k9, cf9, kf9, fi9, f9, -, -, hi9, hst9, hnf9, -⟩ := Cond.lays_spec hlay
  cases hi.symm.trans hi9
  intro U hU X
  obtain ⟨vm', X1, st1⟩ := X.putfieldNull hexec hown hlink (hsame _ hi) hst9 hnf9 (g := F0 m pc ls (v :: .null :: rest)) rfl (v := v) (rest := rest) rfl (by rw [hb]; exact hdg)
  obtain ⟨t, st, q⟩ := kk (U.setVm vm') hU X1
  exact ⟨t, st1 t st, q⟩
theorem vx_putfNN {D cl tys} {own ref C host : String} {T : u_T} {N ci index : Nat} {Ts : List Cond} (hexec : p.tables.exec = Jvm.exec) (hb : c.code = cc) (hts : ∀ w ∈ Ts, w.before args s = true) (hin : ∀ w ∈ u_ws C T N, w ∈ Ts) (hown : s.vm.findClass own = some m.cls) (hK : va_K D cl tys s) (hc : cl[ci]? = some (C, T, N)) (k : Nat) (hk : k < N) (hlink : (Cond.fieldLinkNest own index ref (T k).2.1 (T k).2.2.1 host).before args s = true) (hsame : ∀ x, s.fieldFound? (T k).1 (T k).2.1 (T k).2.2.1 = some x → s.fieldFound? ref (T k).2.1 (T k).2.2.1 = some x) (hfin : (T k).2.2.2 = false) {v : Value} (hdg : decode cc pc = .ok (.putfield index, 3)) (kk : vx_NoteN p l e R s m args below meth c H locs cells slots Q (F0 m pc ls rest)) : W p l e R s m args below meth c H locs cells slots Q (F0 m pc ls (v :: .null :: rest)) := by
  obtain ⟨hS, hfc, kC, hkC, -⟩ := hK.1 ci _ hc
  obtain ⟨cf, kf, fi, f, hi, -⟩ := hS k hk
  have hlay := hts _ (hin _ (u_in_lay hk))
  unfold u_lay at hlay
  rw [if_neg (by rw [hfin]; decide)] at hlay
  obtain ⟨c9, k9, cf9, kf9, fi9, f9, -, -, hi9, hst9, hnf9, -⟩ := Cond.lays_spec hlay
  cases hi.symm.trans hi9
  intro U hU X
  obtain ⟨vm', X1, st1⟩ := X.putfieldNullNest hexec hown hlink (hsame _ hi) hst9 hnf9 (g := F0 m pc ls (v :: .null :: rest)) rfl (v := v) (rest := rest) rfl (by rw [hb]; exact hdg)
  obtain ⟨t, st, q⟩ := kk (U.setVm vm') hU X1
  exact ⟨t, st1 t st, q⟩
theorem vx_athrowN (hexec : p.tables.exec = Jvm.exec) (hb : c.code = cc) (hdg : decode cc pc = .ok (.athrow, 1)) (k : vx_NoteN p l e R s m args below meth c H locs cells slots Q (F0 m pc ls rest)) : W p l e R s m args below meth c H locs cells slots Q (F0 m pc ls (.null :: rest)) := by
  intro T hT X
  obtain ⟨t, st, q⟩ := k T hT X
  exact ⟨t, X.athrowNull hexec (g := F0 m pc ls (.null :: rest)) rfl (rest := rest) rfl (by rw [hb]; exact hdg) t st, q⟩
end VXM2
/-! ===== END ===== -/
end
section
-- printed by wip/whole/gen.py: classes, fields, methods of the claim and what the pools say
def RX0 : String := "SheepdogTrial$Course"
def TX0 : u_T := fun k => match k with
  | 0 => ("SheepdogTrial$Course", "startX", "I", false)
  | 1 => ("SheepdogTrial$Course", "startY", "I", false)
  | 2 => ("SheepdogTrial$Course", "tolerance", "I", false)
  | 3 => ("SheepdogTrial$Course", "timeLimit", "I", false)
  | 4 => ("SheepdogTrial$Course", "legCount", "I", false)
  | 5 => ("SheepdogTrial$Course", "legEndX", "[I", true)
  | 6 => ("SheepdogTrial$Course", "legEndY", "[I", true)
  | 7 => ("SheepdogTrial$Course", "legPoints", "[I", true)
  | 8 => ("SheepdogTrial$Course", "gateCount", "I", false)
  | 9 => ("SheepdogTrial$Course", "gateLeg", "[I", true)
  | 10 => ("SheepdogTrial$Course", "gateX1", "[I", true)
  | 11 => ("SheepdogTrial$Course", "gateY1", "[I", true)
  | 12 => ("SheepdogTrial$Course", "gateX2", "[I", true)
  | _ => ("SheepdogTrial$Course", "gateY2", "[I", true)
def tyX0 : Nat → FieldType := fun k => match k with
  | 0 => .int
  | 1 => .int
  | 2 => .int
  | 3 => .int
  | 4 => .int
  | 5 => .array .int
  | 6 => .array .int
  | 7 => .array .int
  | 8 => .int
  | 9 => .array .int
  | 10 => .array .int
  | 11 => .array .int
  | 12 => .array .int
  | _ => .array .int
abbrev wsX00 : List Cond := u_ws RX0 TX0 14
theorem nmX0 : ∀ a, a < 14 → ∀ b, b < 14 → a ≠ b → (TX0 a).2.1 ≠ (TX0 b).2.1 := by decide +kernel
theorem tyX0_ok : ∀ k, k < 14 → parseFieldDescriptor (TX0 k).2.2.1 = some (tyX0 k) := by decide +kernel
def RX1 : String := "SheepdogTrial$History"
def TX1 : u_T := fun k => match k with
  | 0 => ("SheepdogTrial$History", "states", "[LSheepdogTrial$State;", true)
  | 1 => ("SheepdogTrial$History", "next", "I", false)
  | _ => ("SheepdogTrial$History", "count", "I", false)
def tyX1 : Nat → FieldType := fun k => match k with
  | 0 => .array (.object "SheepdogTrial$State")
  | 1 => .int
  | _ => .int
abbrev wsX10 : List Cond := u_ws RX1 TX1 3
theorem nmX1 : ∀ a, a < 3 → ∀ b, b < 3 → a ≠ b → (TX1 a).2.1 ≠ (TX1 b).2.1 := by decide +kernel
theorem tyX1_ok : ∀ k, k < 3 → parseFieldDescriptor (TX1 k).2.2.1 = some (tyX1 k) := by decide +kernel
def RX2 : String := "SheepdogTrial$Line"
def TX2 : u_T := fun k => match k with
  | 0 => ("SheepdogTrial$Line", "signs", "[C", true)
  | _ => ("SheepdogTrial$Line", "length", "I", false)
def tyX2 : Nat → FieldType := fun k => match k with
  | 0 => .array .char
  | _ => .int
abbrev wsX20 : List Cond := u_ws RX2 TX2 2
theorem nmX2 : ∀ a, a < 2 → ∀ b, b < 2 → a ≠ b → (TX2 a).2.1 ≠ (TX2 b).2.1 := by decide +kernel
theorem tyX2_ok : ∀ k, k < 2 → parseFieldDescriptor (TX2 k).2.2.1 = some (tyX2 k) := by decide +kernel
def RX3 : String := "SheepdogTrial$Program"
def TX3 : u_T := fun k => match k with
  | 0 => ("SheepdogTrial$Program", "text", "[C", true)
  | 1 => ("SheepdogTrial$Program", "length", "I", false)
  | 2 => ("SheepdogTrial$Program", "commandCount", "I", false)
  | 3 => ("SheepdogTrial$Program", "kinds", "[I", true)
  | 4 => ("SheepdogTrial$Program", "arguments", "[I", true)
  | _ => ("SheepdogTrial$Program", "reached", "I", false)
def tyX3 : Nat → FieldType := fun k => match k with
  | 0 => .array .char
  | 1 => .int
  | 2 => .int
  | 3 => .array .int
  | 4 => .array .int
  | _ => .int
abbrev wsX30 : List Cond := u_ws RX3 TX3 6
theorem nmX3 : ∀ a, a < 6 → ∀ b, b < 6 → a ≠ b → (TX3 a).2.1 ≠ (TX3 b).2.1 := by decide +kernel
theorem tyX3_ok : ∀ k, k < 6 → parseFieldDescriptor (TX3 k).2.2.1 = some (tyX3 k) := by decide +kernel
def RX4 : String := "SheepdogTrial$Run"
def TX4 : u_T := fun k => match k with
  | 0 => ("SheepdogTrial$Run", "seconds", "I", false)
  | 1 => ("SheepdogTrial$Run", "complete", "Z", false)
  | 2 => ("SheepdogTrial$Run", "legCount", "I", false)
  | 3 => ("SheepdogTrial$Run", "points", "[I", true)
  | 4 => ("SheepdogTrial$Run", "passedGates", "I", false)
  | 5 => ("SheepdogTrial$Run", "lostOffLine", "I", false)
  | 6 => ("SheepdogTrial$Run", "lostAtGates", "I", false)
  | 7 => ("SheepdogTrial$Run", "lostByFaults", "I", false)
  | _ => ("SheepdogTrial$Run", "lostOverTime", "I", false)
def tyX4 : Nat → FieldType := fun k => match k with
  | 0 => .int
  | 1 => .boolean
  | 2 => .int
  | 3 => .array .int
  | 4 => .int
  | 5 => .int
  | 6 => .int
  | 7 => .int
  | _ => .int
abbrev wsX40 : List Cond := u_ws RX4 TX4 9
theorem nmX4 : ∀ a, a < 9 → ∀ b, b < 9 → a ≠ b → (TX4 a).2.1 ≠ (TX4 b).2.1 := by decide +kernel
theorem tyX4_ok : ∀ k, k < 9 → parseFieldDescriptor (TX4 k).2.2.1 = some (tyX4 k) := by decide +kernel
def RX5 : String := "SheepdogTrial$State"
def TX5 : u_T := fun k => match k with
  | 0 => ("SheepdogTrial$State", "course", "LSheepdogTrial$Course;", true)
  | 1 => ("SheepdogTrial$State", "runs", "[LSheepdogTrial$Run;", true)
  | 2 => ("SheepdogTrial$State", "runCount", "I", false)
  | 3 => ("SheepdogTrial$State", "running", "Z", false)
  | 4 => ("SheepdogTrial$State", "presentLeg", "I", false)
  | 5 => ("SheepdogTrial$State", "flockX", "I", false)
  | _ => ("SheepdogTrial$State", "flockY", "I", false)
def tyX5 : Nat → FieldType := fun k => match k with
  | 0 => .object "SheepdogTrial$Course"
  | 1 => .array (.object "SheepdogTrial$Run")
  | 2 => .int
  | 3 => .boolean
  | 4 => .int
  | 5 => .int
  | _ => .int
abbrev wsX50 : List Cond := u_ws RX5 TX5 7
theorem nmX5 : ∀ a, a < 7 → ∀ b, b < 7 → a ≠ b → (TX5 a).2.1 ≠ (TX5 b).2.1 := by decide +kernel
theorem tyX5_ok : ∀ k, k < 7 → parseFieldDescriptor (TX5 k).2.2.1 = some (tyX5 k) := by decide +kernel
def RX6 : String := "SheepdogTrial"
def TX6 : u_T := fun k => match k with
  | 0 => ("SheepdogTrial", "now", "LSheepdogTrial$State;", true)
  | 1 => ("SheepdogTrial", "draft", "LSheepdogTrial$State;", true)
  | 2 => ("SheepdogTrial", "saved", "LSheepdogTrial$State;", true)
  | 3 => ("SheepdogTrial", "hasSaved", "Z", false)
  | 4 => ("SheepdogTrial", "history", "LSheepdogTrial$History;", true)
  | 5 => ("SheepdogTrial", "ranking", "[I", true)
  | 6 => ("SheepdogTrial", "line", "LSheepdogTrial$Line;", true)
  | 7 => ("SheepdogTrial", "program", "LSheepdogTrial$Program;", true)
  | 8 => ("SheepdogTrial", "errorPosition", "I", false)
  | _ => ("SheepdogTrial", "failedCommand", "I", false)
def tyX6 : Nat → FieldType := fun k => match k with
  | 0 => .object "SheepdogTrial$State"
  | 1 => .object "SheepdogTrial$State"
  | 2 => .object "SheepdogTrial$State"
  | 3 => .boolean
  | 4 => .object "SheepdogTrial$History"
  | 5 => .array .int
  | 6 => .object "SheepdogTrial$Line"
  | 7 => .object "SheepdogTrial$Program"
  | 8 => .int
  | _ => .int
abbrev wsX60 : List Cond := u_ws RX6 TX6 10
theorem nmX6 : ∀ a, a < 10 → ∀ b, b < 10 → a ≠ b → (TX6 a).2.1 ≠ (TX6 b).2.1 := by decide +kernel
theorem tyX6_ok : ∀ k, k < 10 → parseFieldDescriptor (TX6 k).2.2.1 = some (tyX6 k) := by decide +kernel
def RX7 : String := "SheepdogTrialModel"
def TX7 : u_T := fun k => match k with
  | 0 => ("SheepdogTrialModel", "m", "[I", true)
  | 1 => ("SheepdogTrialModel", "aside", "[I", true)
  | 2 => ("SheepdogTrialModel", "thought", "[I", true)
  | 3 => ("SheepdogTrialModel", "saved", "[I", true)
  | 4 => ("SheepdogTrialModel", "isSaved", "Z", false)
  | 5 => ("SheepdogTrialModel", "past", "[I", true)
  | 6 => ("SheepdogTrialModel", "changes", "I", false)
  | 7 => ("SheepdogTrialModel", "errorAt", "I", false)
  | 8 => ("SheepdogTrialModel", "failed", "I", false)
  | 9 => ("SheepdogTrialModel", "thrown", "I", false)
  | 10 => ("SheepdogTrialModel", "program", "[I", true)
  | 11 => ("SheepdogTrialModel", "programMany", "I", false)
  | 12 => ("SheepdogTrialModel", "line", "[I", true)
  | 13 => ("SheepdogTrialModel", "lineMany", "I", false)
  | 14 => ("SheepdogTrialModel", "letters", "[C", true)
  | 15 => ("SheepdogTrialModel", "begins0", "[I", true)
  | 16 => ("SheepdogTrialModel", "commands", "[I", true)
  | 17 => ("SheepdogTrialModel", "commandMany", "I", false)
  | 18 => ("SheepdogTrialModel", "place0", "I", false)
  | 19 => ("SheepdogTrialModel", "size0", "I", false)
  | _ => ("SheepdogTrialModel", "isWrong", "Z", false)
def tyX7 : Nat → FieldType := fun k => match k with
  | 0 => .array .int
  | 1 => .array .int
  | 2 => .array .int
  | 3 => .array .int
  | 4 => .boolean
  | 5 => .array .int
  | 6 => .int
  | 7 => .int
  | 8 => .int
  | 9 => .int
  | 10 => .array .int
  | 11 => .int
  | 12 => .array .int
  | 13 => .int
  | 14 => .array .char
  | 15 => .array .int
  | 16 => .array .int
  | 17 => .int
  | 18 => .int
  | 19 => .int
  | _ => .boolean
abbrev wsX70 : List Cond := u_ws RX7 TX7 21
theorem nmX7 : ∀ a, a < 21 → ∀ b, b < 21 → a ≠ b → (TX7 a).2.1 ≠ (TX7 b).2.1 := by decide +kernel
theorem tyX7_ok : ∀ k, k < 21 → parseFieldDescriptor (TX7 k).2.2.1 = some (tyX7 k) := by decide +kernel
def RL : String := "SheepdogTrialLaw"
def aRn (o : Nat) : String := match o with
  | 0 => RX0
  | 1 => RX1
  | 2 => RX2
  | 3 => RX3
  | 4 => RX4
  | 5 => RX5
  | 6 => RX6
  | 7 => RX7
  | _ => RL
def aTX (o : Nat) : u_T := match o with
  | 0 => TX0
  | 1 => TX1
  | 2 => TX2
  | 3 => TX3
  | 4 => TX4
  | 5 => TX5
  | 6 => TX6
  | _ => TX7
def aTy (o : Nat) : Nat → FieldType := match o with
  | 0 => tyX0
  | 1 => tyX1
  | 2 => tyX2
  | 3 => tyX3
  | 4 => tyX4
  | 5 => tyX5
  | 6 => tyX6
  | _ => tyX7
/-- the kinds of a class's fields: 0 an int, 1 a boolean, 2 a thing -/
def aFl (o : Nat) : List Nat := match o with
  | 0 => [0, 0, 0, 0, 0, 2, 2, 2, 0, 2, 2, 2, 2, 2]
  | 1 => [2, 0, 0]
  | 2 => [2, 0]
  | 3 => [2, 0, 0, 2, 2, 0]
  | 4 => [0, 1, 0, 2, 0, 0, 0, 0, 0]
  | 5 => [2, 2, 0, 1, 0, 0, 0]
  | 6 => [2, 2, 2, 1, 2, 2, 2, 2, 0, 0]
  | _ => [2, 2, 2, 2, 1, 2, 0, 0, 0, 0, 2, 0, 2, 0, 2, 2, 2, 0, 0, 0, 1]
abbrev aCl : List vw_C := [(RX0, TX0, 14), (RX1, TX1, 3), (RX2, TX2, 2), (RX3, TX3, 6), (RX4, TX4, 9), (RX5, TX5, 7), (RX6, TX6, 10), (RX7, TX7, 21)]
abbrev cX0_init : ByteArray := prog_2_method_1_code
def yX0_init : MethodName := ⟨RX0, "<init>", "()V"⟩
abbrev nX0_init : Nat := 0
abbrev cX0_copyFrom : ByteArray := prog_2_method_2_code
def yX0_copyFrom : MethodName := ⟨RX0, "copyFrom", "(LSheepdogTrial$Course;)V"⟩
abbrev nX0_copyFrom : Nat := 1
abbrev cX0_hasLeg : ByteArray := prog_2_method_3_code
def yX0_hasLeg : MethodName := ⟨RX0, "hasLeg", "(I)Z"⟩
abbrev nX0_hasLeg : Nat := 2
abbrev cX0_sumOfPoints : ByteArray := prog_2_method_4_code
def yX0_sumOfPoints : MethodName := ⟨RX0, "sumOfPoints", "()I"⟩
abbrev nX0_sumOfPoints : Nat := 3
abbrev cX0_legBeginX : ByteArray := prog_2_method_5_code
def yX0_legBeginX : MethodName := ⟨RX0, "legBeginX", "(I)I"⟩
abbrev nX0_legBeginX : Nat := 4
abbrev cX0_legBeginY : ByteArray := prog_2_method_6_code
def yX0_legBeginY : MethodName := ⟨RX0, "legBeginY", "(I)I"⟩
abbrev nX0_legBeginY : Nat := 5
abbrev cX0_gateMeetsItsLeg : ByteArray := prog_2_method_7_code
def yX0_gateMeetsItsLeg : MethodName := ⟨RX0, "gateMeetsItsLeg", "(I)Z"⟩
abbrev nX0_gateMeetsItsLeg : Nat := 6
abbrev cX0_gateMeets : ByteArray := prog_2_method_8_code
def yX0_gateMeets : MethodName := ⟨RX0, "gateMeets", "(IIIII)Z"⟩
abbrev nX0_gateMeets : Nat := 7
abbrev cX0_side : ByteArray := prog_2_method_9_code
def yX0_side : MethodName := ⟨RX0, "side", "(IIIIII)I"⟩
abbrev nX0_side : Nat := 8
abbrev cX0_isOffLeg : ByteArray := prog_2_method_10_code
def yX0_isOffLeg : MethodName := ⟨RX0, "isOffLeg", "(III)Z"⟩
abbrev nX0_isOffLeg : Nat := 9
abbrev cX0_isNearEnd : ByteArray := prog_2_method_11_code
def yX0_isNearEnd : MethodName := ⟨RX0, "isNearEnd", "(III)Z"⟩
abbrev nX0_isNearEnd : Nat := 10
abbrev cX0_squareOfDistance : ByteArray := prog_2_method_12_code
def yX0_squareOfDistance : MethodName := ⟨RX0, "squareOfDistance", "(IIII)I"⟩
abbrev nX0_squareOfDistance : Nat := 11
abbrev cX1_init : ByteArray := prog_3_method_1_code
def yX1_init : MethodName := ⟨RX1, "<init>", "()V"⟩
abbrev nX1_init : Nat := 12
abbrev cX1_push : ByteArray := prog_3_method_2_code
def yX1_push : MethodName := ⟨RX1, "push", "(LSheepdogTrial$State;)V"⟩
abbrev nX1_push : Nat := 13
abbrev cX1_popInto : ByteArray := prog_3_method_3_code
def yX1_popInto : MethodName := ⟨RX1, "popInto", "(LSheepdogTrial$State;)V"⟩
abbrev nX1_popInto : Nat := 14
abbrev cX1_clear : ByteArray := prog_3_method_4_code
def yX1_clear : MethodName := ⟨RX1, "clear", "()V"⟩
abbrev nX1_clear : Nat := 15
abbrev cX2_init : ByteArray := prog_4_method_1_code
def yX2_init : MethodName := ⟨RX2, "<init>", "()V"⟩
abbrev nX2_init : Nat := 16
abbrev cX2_clear : ByteArray := prog_4_method_2_code
def yX2_clear : MethodName := ⟨RX2, "clear", "()V"⟩
abbrev nX2_clear : Nat := 17
abbrev cX2_put : ByteArray := prog_4_method_3_code
def yX2_put : MethodName := ⟨RX2, "put", "(C)V"⟩
abbrev nX2_put : Nat := 18
abbrev cX2_putNumber : ByteArray := prog_4_method_4_code
def yX2_putNumber : MethodName := ⟨RX2, "putNumber", "(I)V"⟩
abbrev nX2_putNumber : Nat := 19
abbrev cX2_putDigit : ByteArray := prog_4_method_5_code
def yX2_putDigit : MethodName := ⟨RX2, "putDigit", "(I)V"⟩
abbrev nX2_putDigit : Nat := 20
abbrev cX3_init : ByteArray := prog_5_method_1_code
def yX3_init : MethodName := ⟨RX3, "<init>", "()V"⟩
abbrev nX3_init : Nat := 21
abbrev cX3_append : ByteArray := prog_5_method_2_code
def yX3_append : MethodName := ⟨RX3, "append", "(C)V"⟩
abbrev nX3_append : Nat := 22
abbrev cX3_clear : ByteArray := prog_5_method_3_code
def yX3_clear : MethodName := ⟨RX3, "clear", "()V"⟩
abbrev nX3_clear : Nat := 23
abbrev cX3_parse : ByteArray := prog_5_method_4_code
def yX3_parse : MethodName := ⟨RX3, "parse", "()I"⟩
abbrev nX3_parse : Nat := 24
abbrev cX3_parseCommand : ByteArray := prog_5_method_5_code
def yX3_parseCommand : MethodName := ⟨RX3, "parseCommand", "(I)Z"⟩
abbrev nX3_parseCommand : Nat := 25
abbrev cX3_patternOf : ByteArray := prog_5_method_6_code
def yX3_patternOf : MethodName := ⟨RX3, "patternOf", "(I)Ljava/lang/String;"⟩
abbrev nX3_patternOf : Nat := 26
abbrev cX3_matches : ByteArray := prog_5_method_7_code
def yX3_matches : MethodName := ⟨RX3, "matches", "(Ljava/lang/String;I)Z"⟩
abbrev nX3_matches : Nat := 27
abbrev cX3_skipDigits : ByteArray := prog_5_method_8_code
def yX3_skipDigits : MethodName := ⟨RX3, "skipDigits", "(I)V"⟩
abbrev nX3_skipDigits : Nat := 28
abbrev cX3_valueOfDigits : ByteArray := prog_5_method_9_code
def yX3_valueOfDigits : MethodName := ⟨RX3, "valueOfDigits", "(II)I"⟩
abbrev nX3_valueOfDigits : Nat := 29
abbrev cX3_performOn : ByteArray := prog_5_method_10_code
def yX3_performOn : MethodName := ⟨RX3, "performOn", "(LSheepdogTrial$State;)I"⟩
abbrev nX3_performOn : Nat := 30
abbrev cX3_perform : ByteArray := prog_5_method_11_code
def yX3_perform : MethodName := ⟨RX3, "perform", "(LSheepdogTrial$State;I)I"⟩
abbrev nX3_perform : Nat := 31
abbrev cX4_init : ByteArray := prog_6_method_1_code
def yX4_init : MethodName := ⟨RX4, "<init>", "()V"⟩
abbrev nX4_init : Nat := 32
abbrev cX4_copyFrom : ByteArray := prog_6_method_2_code
def yX4_copyFrom : MethodName := ⟨RX4, "copyFrom", "(LSheepdogTrial$Run;)V"⟩
abbrev nX4_copyFrom : Nat := 33
abbrev cX4_begin : ByteArray := prog_6_method_3_code
def yX4_begin : MethodName := ⟨RX4, "begin", "(LSheepdogTrial$Course;)V"⟩
abbrev nX4_begin : Nat := 34
abbrev cX4_isGatePassed : ByteArray := prog_6_method_4_code
def yX4_isGatePassed : MethodName := ⟨RX4, "isGatePassed", "(I)Z"⟩
abbrev nX4_isGatePassed : Nat := 35
abbrev cX4_passGate : ByteArray := prog_6_method_5_code
def yX4_passGate : MethodName := ⟨RX4, "passGate", "(I)V"⟩
abbrev nX4_passGate : Nat := 36
abbrev cX4_deduct : ByteArray := prog_6_method_6_code
def yX4_deduct : MethodName := ⟨RX4, "deduct", "(II)I"⟩
abbrev nX4_deduct : Nat := 37
abbrev cX4_deductFrom : ByteArray := prog_6_method_7_code
def yX4_deductFrom : MethodName := ⟨RX4, "deductFrom", "(I)I"⟩
abbrev nX4_deductFrom : Nat := 38
abbrev cX4_sumOfPoints : ByteArray := prog_6_method_8_code
def yX4_sumOfPoints : MethodName := ⟨RX4, "sumOfPoints", "()I"⟩
abbrev nX4_sumOfPoints : Nat := 39
abbrev cX4_sumOfLosses : ByteArray := prog_6_method_9_code
def yX4_sumOfLosses : MethodName := ⟨RX4, "sumOfLosses", "()I"⟩
abbrev nX4_sumOfLosses : Nat := 40
abbrev cX4_compareForRank : ByteArray := prog_6_method_10_code
def yX4_compareForRank : MethodName := ⟨RX4, "compareForRank", "(LSheepdogTrial$Run;)I"⟩
abbrev nX4_compareForRank : Nat := 41
abbrev cX5_init : ByteArray := prog_7_method_1_code
def yX5_init : MethodName := ⟨RX5, "<init>", "()V"⟩
abbrev nX5_init : Nat := 42
abbrev cX5_copyFrom : ByteArray := prog_7_method_2_code
def yX5_copyFrom : MethodName := ⟨RX5, "copyFrom", "(LSheepdogTrial$State;)V"⟩
abbrev nX5_copyFrom : Nat := 43
abbrev cX5_placeStart : ByteArray := prog_7_method_3_code
def yX5_placeStart : MethodName := ⟨RX5, "placeStart", "(II)I"⟩
abbrev nX5_placeStart : Nat := 44
abbrev cX5_appendLeg : ByteArray := prog_7_method_4_code
def yX5_appendLeg : MethodName := ⟨RX5, "appendLeg", "(III)I"⟩
abbrev nX5_appendLeg : Nat := 45
abbrev cX5_appendGate : ByteArray := prog_7_method_5_code
def yX5_appendGate : MethodName := ⟨RX5, "appendGate", "(IIIII)I"⟩
abbrev nX5_appendGate : Nat := 46
abbrev cX5_changeTolerance : ByteArray := prog_7_method_6_code
def yX5_changeTolerance : MethodName := ⟨RX5, "changeTolerance", "(I)I"⟩
abbrev nX5_changeTolerance : Nat := 47
abbrev cX5_changeTimeLimit : ByteArray := prog_7_method_7_code
def yX5_changeTimeLimit : MethodName := ⟨RX5, "changeTimeLimit", "(I)I"⟩
abbrev nX5_changeTimeLimit : Nat := 48
abbrev cX5_beginRun : ByteArray := prog_7_method_8_code
def yX5_beginRun : MethodName := ⟨RX5, "beginRun", "()I"⟩
abbrev nX5_beginRun : Nat := 49
abbrev cX5_makeStep : ByteArray := prog_7_method_9_code
def yX5_makeStep : MethodName := ⟨RX5, "makeStep", "(III)I"⟩
abbrev nX5_makeStep : Nat := 50
abbrev cX5_deductFault : ByteArray := prog_7_method_10_code
def yX5_deductFault : MethodName := ⟨RX5, "deductFault", "(I)I"⟩
abbrev nX5_deductFault : Nat := 51
abbrev cX5_giveUpRun : ByteArray := prog_7_method_11_code
def yX5_giveUpRun : MethodName := ⟨RX5, "giveUpRun", "()I"⟩
abbrev nX5_giveUpRun : Nat := 52
abbrev cX5_passGates : ByteArray := prog_7_method_12_code
def yX5_passGates : MethodName := ⟨RX5, "passGates", "(II)I"⟩
abbrev nX5_passGates : Nat := 53
abbrev cX5_firstOpenGate : ByteArray := prog_7_method_13_code
def yX5_firstOpenGate : MethodName := ⟨RX5, "firstOpenGate", "()I"⟩
abbrev nX5_firstOpenGate : Nat := 54
abbrev cX5_endOverTime : ByteArray := prog_7_method_14_code
def yX5_endOverTime : MethodName := ⟨RX5, "endOverTime", "(LSheepdogTrial$Run;)I"⟩
abbrev nX5_endOverTime : Nat := 55
abbrev cX5_leaveLine : ByteArray := prog_7_method_15_code
def yX5_leaveLine : MethodName := ⟨RX5, "leaveLine", "(LSheepdogTrial$Run;)I"⟩
abbrev nX5_leaveLine : Nat := 56
abbrev cX5_completeLeg : ByteArray := prog_7_method_16_code
def yX5_completeLeg : MethodName := ⟨RX5, "completeLeg", "(LSheepdogTrial$Run;)I"⟩
abbrev nX5_completeLeg : Nat := 57
abbrev cX5_countOpenGates : ByteArray := prog_7_method_17_code
def yX5_countOpenGates : MethodName := ⟨RX5, "countOpenGates", "(LSheepdogTrial$Run;)I"⟩
abbrev nX5_countOpenGates : Nat := 58
abbrev cX5_runGoingOn : ByteArray := prog_7_method_18_code
def yX5_runGoingOn : MethodName := ⟨RX5, "runGoingOn", "()LSheepdogTrial$Run;"⟩
abbrev nX5_runGoingOn : Nat := 59
abbrev cX5_isGoingOn : ByteArray := prog_7_method_19_code
def yX5_isGoingOn : MethodName := ⟨RX5, "isGoingOn", "(I)Z"⟩
abbrev nX5_isGoingOn : Nat := 60
abbrev cX5_isRankedBefore : ByteArray := prog_7_method_20_code
def yX5_isRankedBefore : MethodName := ⟨RX5, "isRankedBefore", "(II)Z"⟩
abbrev nX5_isRankedBefore : Nat := 61
abbrev cX5_countRunsBefore : ByteArray := prog_7_method_21_code
def yX5_countRunsBefore : MethodName := ⟨RX5, "countRunsBefore", "(I)I"⟩
abbrev nX5_countRunsBefore : Nat := 62
abbrev cX5_sortRuns : ByteArray := prog_7_method_22_code
def yX5_sortRuns : MethodName := ⟨RX5, "sortRuns", "([I)V"⟩
abbrev nX5_sortRuns : Nat := 63
abbrev cX5_bestRunOn : ByteArray := prog_7_method_23_code
def yX5_bestRunOn : MethodName := ⟨RX5, "bestRunOn", "(I)I"⟩
abbrev nX5_bestRunOn : Nat := 64
abbrev cX5_sumOfScores : ByteArray := prog_7_method_24_code
def yX5_sumOfScores : MethodName := ⟨RX5, "sumOfScores", "()I"⟩
abbrev nX5_sumOfScores : Nat := 65
abbrev cX5_countRunsThrough : ByteArray := prog_7_method_25_code
def yX5_countRunsThrough : MethodName := ⟨RX5, "countRunsThrough", "(I)I"⟩
abbrev nX5_countRunsThrough : Nat := 66
abbrev cX5_isSound : ByteArray := prog_7_method_26_code
def yX5_isSound : MethodName := ⟨RX5, "isSound", "(I)Z"⟩
abbrev nX5_isSound : Nat := 67
abbrev cX6_init : ByteArray := prog_1_method_1_code
def yX6_init : MethodName := ⟨RX6, "<init>", "()V"⟩
abbrev nX6_init : Nat := 68
abbrev cX6_setStart : ByteArray := prog_1_method_2_code
def yX6_setStart : MethodName := ⟨RX6, "setStart", "(II)I"⟩
abbrev nX6_setStart : Nat := 69
abbrev cX6_addLeg : ByteArray := prog_1_method_3_code
def yX6_addLeg : MethodName := ⟨RX6, "addLeg", "(III)I"⟩
abbrev nX6_addLeg : Nat := 70
abbrev cX6_addGate : ByteArray := prog_1_method_4_code
def yX6_addGate : MethodName := ⟨RX6, "addGate", "(IIIII)I"⟩
abbrev nX6_addGate : Nat := 71
abbrev cX6_setTolerance : ByteArray := prog_1_method_5_code
def yX6_setTolerance : MethodName := ⟨RX6, "setTolerance", "(I)I"⟩
abbrev nX6_setTolerance : Nat := 72
abbrev cX6_setTimeLimit : ByteArray := prog_1_method_6_code
def yX6_setTimeLimit : MethodName := ⟨RX6, "setTimeLimit", "(I)I"⟩
abbrev nX6_setTimeLimit : Nat := 73
abbrev cX6_startRun : ByteArray := prog_1_method_7_code
def yX6_startRun : MethodName := ⟨RX6, "startRun", "()I"⟩
abbrev nX6_startRun : Nat := 74
abbrev cX6_walk : ByteArray := prog_1_method_8_code
def yX6_walk : MethodName := ⟨RX6, "walk", "(III)I"⟩
abbrev nX6_walk : Nat := 75
abbrev cX6_fault : ByteArray := prog_1_method_9_code
def yX6_fault : MethodName := ⟨RX6, "fault", "(I)I"⟩
abbrev nX6_fault : Nat := 76
abbrev cX6_retire : ByteArray := prog_1_method_10_code
def yX6_retire : MethodName := ⟨RX6, "retire", "()I"⟩
abbrev nX6_retire : Nat := 77
abbrev cX6_legs : ByteArray := prog_1_method_11_code
def yX6_legs : MethodName := ⟨RX6, "legs", "()I"⟩
abbrev nX6_legs : Nat := 78
abbrev cX6_legPoints : ByteArray := prog_1_method_12_code
def yX6_legPoints : MethodName := ⟨RX6, "legPoints", "(I)I"⟩
abbrev nX6_legPoints : Nat := 79
abbrev cX6_totalPoints : ByteArray := prog_1_method_13_code
def yX6_totalPoints : MethodName := ⟨RX6, "totalPoints", "()I"⟩
abbrev nX6_totalPoints : Nat := 80
abbrev cX6_gates : ByteArray := prog_1_method_14_code
def yX6_gates : MethodName := ⟨RX6, "gates", "()I"⟩
abbrev nX6_gates : Nat := 81
abbrev cX6_legOf : ByteArray := prog_1_method_15_code
def yX6_legOf : MethodName := ⟨RX6, "legOf", "(I)I"⟩
abbrev nX6_legOf : Nat := 82
abbrev cX6_isOnLine : ByteArray := prog_1_method_16_code
def yX6_isOnLine : MethodName := ⟨RX6, "isOnLine", "(I)Z"⟩
abbrev nX6_isOnLine : Nat := 83
abbrev cX6_tolerance : ByteArray := prog_1_method_17_code
def yX6_tolerance : MethodName := ⟨RX6, "tolerance", "()I"⟩
abbrev nX6_tolerance : Nat := 84
abbrev cX6_timeLimit : ByteArray := prog_1_method_18_code
def yX6_timeLimit : MethodName := ⟨RX6, "timeLimit", "()I"⟩
abbrev nX6_timeLimit : Nat := 85
abbrev cX6_isRunning : ByteArray := prog_1_method_19_code
def yX6_isRunning : MethodName := ⟨RX6, "isRunning", "()Z"⟩
abbrev nX6_isRunning : Nat := 86
abbrev cX6_presentLeg : ByteArray := prog_1_method_20_code
def yX6_presentLeg : MethodName := ⟨RX6, "presentLeg", "()I"⟩
abbrev nX6_presentLeg : Nat := 87
abbrev cX6_flockX : ByteArray := prog_1_method_21_code
def yX6_flockX : MethodName := ⟨RX6, "flockX", "()I"⟩
abbrev nX6_flockX : Nat := 88
abbrev cX6_flockY : ByteArray := prog_1_method_22_code
def yX6_flockY : MethodName := ⟨RX6, "flockY", "()I"⟩
abbrev nX6_flockY : Nat := 89
abbrev cX6_nextGate : ByteArray := prog_1_method_23_code
def yX6_nextGate : MethodName := ⟨RX6, "nextGate", "()I"⟩
abbrev nX6_nextGate : Nat := 90
abbrev cX6_gatesPassedTo : ByteArray := prog_1_method_24_code
def yX6_gatesPassedTo : MethodName := ⟨RX6, "gatesPassedTo", "(II)I"⟩
abbrev nX6_gatesPassedTo : Nat := 91
abbrev cX6_isOffLine : ByteArray := prog_1_method_25_code
def yX6_isOffLine : MethodName := ⟨RX6, "isOffLine", "(II)Z"⟩
abbrev nX6_isOffLine : Nat := 92
abbrev cX6_lossOfStep : ByteArray := prog_1_method_26_code
def yX6_lossOfStep : MethodName := ⟨RX6, "lossOfStep", "(III)I"⟩
abbrev nX6_lossOfStep : Nat := 93
abbrev cX6_runs : ByteArray := prog_1_method_27_code
def yX6_runs : MethodName := ⟨RX6, "runs", "()I"⟩
abbrev nX6_runs : Nat := 94
abbrev cX6_isComplete : ByteArray := prog_1_method_28_code
def yX6_isComplete : MethodName := ⟨RX6, "isComplete", "(I)Z"⟩
abbrev nX6_isComplete : Nat := 95
abbrev cX6_time : ByteArray := prog_1_method_29_code
def yX6_time : MethodName := ⟨RX6, "time", "(I)I"⟩
abbrev nX6_time : Nat := 96
abbrev cX6_hasPassed : ByteArray := prog_1_method_30_code
def yX6_hasPassed : MethodName := ⟨RX6, "hasPassed", "(II)Z"⟩
abbrev nX6_hasPassed : Nat := 97
abbrev cX6_pointsOn : ByteArray := prog_1_method_31_code
def yX6_pointsOn : MethodName := ⟨RX6, "pointsOn", "(II)I"⟩
abbrev nX6_pointsOn : Nat := 98
abbrev cX6_score : ByteArray := prog_1_method_32_code
def yX6_score : MethodName := ⟨RX6, "score", "(I)I"⟩
abbrev nX6_score : Nat := 99
abbrev cX6_scoreByLosses : ByteArray := prog_1_method_33_code
def yX6_scoreByLosses : MethodName := ⟨RX6, "scoreByLosses", "(I)I"⟩
abbrev nX6_scoreByLosses : Nat := 100
abbrev cX6_lineLoss : ByteArray := prog_1_method_34_code
def yX6_lineLoss : MethodName := ⟨RX6, "lineLoss", "(I)I"⟩
abbrev nX6_lineLoss : Nat := 101
abbrev cX6_gateLoss : ByteArray := prog_1_method_35_code
def yX6_gateLoss : MethodName := ⟨RX6, "gateLoss", "(I)I"⟩
abbrev nX6_gateLoss : Nat := 102
abbrev cX6_faultLoss : ByteArray := prog_1_method_36_code
def yX6_faultLoss : MethodName := ⟨RX6, "faultLoss", "(I)I"⟩
abbrev nX6_faultLoss : Nat := 103
abbrev cX6_timeLoss : ByteArray := prog_1_method_37_code
def yX6_timeLoss : MethodName := ⟨RX6, "timeLoss", "(I)I"⟩
abbrev nX6_timeLoss : Nat := 104
abbrev cX6_runAt : ByteArray := prog_1_method_38_code
def yX6_runAt : MethodName := ⟨RX6, "runAt", "(I)I"⟩
abbrev nX6_runAt : Nat := 105
abbrev cX6_rankOf : ByteArray := prog_1_method_39_code
def yX6_rankOf : MethodName := ⟨RX6, "rankOf", "(I)I"⟩
abbrev nX6_rankOf : Nat := 106
abbrev cX6_bestOn : ByteArray := prog_1_method_40_code
def yX6_bestOn : MethodName := ⟨RX6, "bestOn", "(I)I"⟩
abbrev nX6_bestOn : Nat := 107
abbrev cX6_meanScore : ByteArray := prog_1_method_41_code
def yX6_meanScore : MethodName := ⟨RX6, "meanScore", "()D"⟩
abbrev nX6_meanScore : Nat := 108
abbrev cX6_passRate : ByteArray := prog_1_method_42_code
def yX6_passRate : MethodName := ⟨RX6, "passRate", "(I)F"⟩
abbrev nX6_passRate : Nat := 109
abbrev cX6_isConsistent : ByteArray := prog_1_method_43_code
def yX6_isConsistent : MethodName := ⟨RX6, "isConsistent", "()Z"⟩
abbrev nX6_isConsistent : Nat := 110
abbrev cX6_writeRun : ByteArray := prog_1_method_44_code
def yX6_writeRun : MethodName := ⟨RX6, "writeRun", "(I)I"⟩
abbrev nX6_writeRun : Nat := 111
abbrev cX6_writeRanking : ByteArray := prog_1_method_45_code
def yX6_writeRanking : MethodName := ⟨RX6, "writeRanking", "()I"⟩
abbrev nX6_writeRanking : Nat := 112
abbrev cX6_charAt : ByteArray := prog_1_method_46_code
def yX6_charAt : MethodName := ⟨RX6, "charAt", "(I)C"⟩
abbrev nX6_charAt : Nat := 113
abbrev cX6_type : ByteArray := prog_1_method_47_code
def yX6_type : MethodName := ⟨RX6, "type", "(C)I"⟩
abbrev nX6_type : Nat := 114
abbrev cX6_execute : ByteArray := prog_1_method_48_code
def yX6_execute : MethodName := ⟨RX6, "execute", "()I"⟩
abbrev nX6_execute : Nat := 115
abbrev cX6_errorPosition : ByteArray := prog_1_method_49_code
def yX6_errorPosition : MethodName := ⟨RX6, "errorPosition", "()I"⟩
abbrev nX6_errorPosition : Nat := 116
abbrev cX6_failedCommand : ByteArray := prog_1_method_50_code
def yX6_failedCommand : MethodName := ⟨RX6, "failedCommand", "()I"⟩
abbrev nX6_failedCommand : Nat := 117
abbrev cX6_undo : ByteArray := prog_1_method_51_code
def yX6_undo : MethodName := ⟨RX6, "undo", "()I"⟩
abbrev nX6_undo : Nat := 118
abbrev cX6_save : ByteArray := prog_1_method_52_code
def yX6_save : MethodName := ⟨RX6, "save", "()I"⟩
abbrev nX6_save : Nat := 119
abbrev cX6_restore : ByteArray := prog_1_method_53_code
def yX6_restore : MethodName := ⟨RX6, "restore", "()I"⟩
abbrev nX6_restore : Nat := 120
abbrev cX6_freshDraft : ByteArray := prog_1_method_54_code
def yX6_freshDraft : MethodName := ⟨RX6, "freshDraft", "()LSheepdogTrial$State;"⟩
abbrev nX6_freshDraft : Nat := 121
abbrev cX6_settle : ByteArray := prog_1_method_55_code
def yX6_settle : MethodName := ⟨RX6, "settle", "(I)I"⟩
abbrev nX6_settle : Nat := 122
abbrev cX6_accepted : ByteArray := prog_1_method_56_code
def yX6_accepted : MethodName := ⟨RX6, "accepted", "(I)I"⟩
abbrev nX6_accepted : Nat := 123
abbrev cX6_requireLeg : ByteArray := prog_1_method_57_code
def yX6_requireLeg : MethodName := ⟨RX6, "requireLeg", "(I)V"⟩
abbrev nX6_requireLeg : Nat := 124
abbrev cX6_requireGate : ByteArray := prog_1_method_58_code
def yX6_requireGate : MethodName := ⟨RX6, "requireGate", "(I)V"⟩
abbrev nX6_requireGate : Nat := 125
abbrev cX6_requireRun : ByteArray := prog_1_method_59_code
def yX6_requireRun : MethodName := ⟨RX6, "requireRun", "(I)V"⟩
abbrev nX6_requireRun : Nat := 126
abbrev cX6_runNumbered : ByteArray := prog_1_method_60_code
def yX6_runNumbered : MethodName := ⟨RX6, "runNumbered", "(I)LSheepdogTrial$Run;"⟩
abbrev nX6_runNumbered : Nat := 127
abbrev cX6_requireRunning : ByteArray := prog_1_method_61_code
def yX6_requireRunning : MethodName := ⟨RX6, "requireRunning", "()V"⟩
abbrev nX6_requireRunning : Nat := 128
abbrev cX6_requirePoint : ByteArray := prog_1_method_62_code
def yX6_requirePoint : MethodName := ⟨RX6, "requirePoint", "(II)V"⟩
abbrev nX6_requirePoint : Nat := 129
abbrev cX6_isPoint : ByteArray := prog_1_method_63_code
def yX6_isPoint : MethodName := ⟨RX6, "isPoint", "(II)Z"⟩
abbrev nX6_isPoint : Nat := 130
abbrev cX6_isWithin : ByteArray := prog_1_method_64_code
def yX6_isWithin : MethodName := ⟨RX6, "isWithin", "(III)Z"⟩
abbrev nX6_isWithin : Nat := 131
abbrev cX7_init : ByteArray := prog_9_method_1_code
def yX7_init : MethodName := ⟨RX7, "<init>", "()V"⟩
abbrev nX7_init : Nat := 132
abbrev cX7_thrown : ByteArray := prog_9_method_2_code
def yX7_thrown : MethodName := ⟨RX7, "thrown", "()I"⟩
abbrev nX7_thrown : Nat := 133
abbrev cX7_throwing : ByteArray := prog_9_method_3_code
def yX7_throwing : MethodName := ⟨RX7, "throwing", "(I)I"⟩
abbrev nX7_throwing : Nat := 134
abbrev cX7_in : ByteArray := prog_9_method_4_code
def yX7_in : MethodName := ⟨RX7, "in", "(JJJ)Z"⟩
abbrev nX7_in : Nat := 135
abbrev cX7_isPoint : ByteArray := prog_9_method_5_code
def yX7_isPoint : MethodName := ⟨RX7, "isPoint", "(II)Z"⟩
abbrev nX7_isPoint : Nat := 136
abbrev cX7_starts : ByteArray := prog_9_method_6_code
def yX7_starts : MethodName := ⟨RX7, "starts", "()V"⟩
abbrev nX7_starts : Nat := 137
abbrev cX7_changed : ByteArray := prog_9_method_7_code
def yX7_changed : MethodName := ⟨RX7, "changed", "(I)I"⟩
abbrev nX7_changed : Nat := 138
abbrev cX7_legAt : ByteArray := prog_9_method_8_code
def yX7_legAt : MethodName := ⟨RX7, "legAt", "(I)I"⟩
abbrev nX7_legAt : Nat := 139
abbrev cX7_gateAt : ByteArray := prog_9_method_9_code
def yX7_gateAt : MethodName := ⟨RX7, "gateAt", "(I)I"⟩
abbrev nX7_gateAt : Nat := 140
abbrev cX7_runAtPlace : ByteArray := prog_9_method_10_code
def yX7_runAtPlace : MethodName := ⟨RX7, "runAtPlace", "(I)I"⟩
abbrev nX7_runAtPlace : Nat := 141
abbrev cX7_isLeg : ByteArray := prog_9_method_11_code
def yX7_isLeg : MethodName := ⟨RX7, "isLeg", "(I)Z"⟩
abbrev nX7_isLeg : Nat := 142
abbrev cX7_isGate : ByteArray := prog_9_method_12_code
def yX7_isGate : MethodName := ⟨RX7, "isGate", "(I)Z"⟩
abbrev nX7_isGate : Nat := 143
abbrev cX7_isRun : ByteArray := prog_9_method_13_code
def yX7_isRun : MethodName := ⟨RX7, "isRun", "(I)Z"⟩
abbrev nX7_isRun : Nat := 144
abbrev cX7_beginOf : ByteArray := prog_9_method_14_code
def yX7_beginOf : MethodName := ⟨RX7, "beginOf", "(I)I"⟩
abbrev nX7_beginOf : Nat := 145
abbrev cX7_side : ByteArray := prog_9_method_15_code
def yX7_side : MethodName := ⟨RX7, "side", "(IIIIII)I"⟩
abbrev nX7_side : Nat := 146
abbrev cX7_isBetween : ByteArray := prog_9_method_16_code
def yX7_isBetween : MethodName := ⟨RX7, "isBetween", "(III)Z"⟩
abbrev nX7_isBetween : Nat := 147
abbrev cX7_isOn : ByteArray := prog_9_method_17_code
def yX7_isOn : MethodName := ⟨RX7, "isOn", "(IIIIII)Z"⟩
abbrev nX7_isOn : Nat := 148
abbrev cX7_meets : ByteArray := prog_9_method_18_code
def yX7_meets : MethodName := ⟨RX7, "meets", "(IIIII)Z"⟩
abbrev nX7_meets : Nat := 149
abbrev cX7_squareOf : ByteArray := prog_9_method_19_code
def yX7_squareOf : MethodName := ⟨RX7, "squareOf", "(II)I"⟩
abbrev nX7_squareOf : Nat := 150
abbrev cX7_isFar : ByteArray := prog_9_method_20_code
def yX7_isFar : MethodName := ⟨RX7, "isFar", "(II)Z"⟩
abbrev nX7_isFar : Nat := 151
abbrev cX7_isFixed : ByteArray := prog_9_method_21_code
def yX7_isFixed : MethodName := ⟨RX7, "isFixed", "()Z"⟩
abbrev nX7_isFixed : Nat := 152
abbrev cX7_startIt : ByteArray := prog_9_method_22_code
def yX7_startIt : MethodName := ⟨RX7, "startIt", "(II)I"⟩
abbrev nX7_startIt : Nat := 153
abbrev cX7_setStart : ByteArray := prog_9_method_23_code
def yX7_setStart : MethodName := ⟨RX7, "setStart", "(II)I"⟩
abbrev nX7_setStart : Nat := 154
abbrev cX7_legIt : ByteArray := prog_9_method_24_code
def yX7_legIt : MethodName := ⟨RX7, "legIt", "(III)I"⟩
abbrev nX7_legIt : Nat := 155
abbrev cX7_addLeg : ByteArray := prog_9_method_25_code
def yX7_addLeg : MethodName := ⟨RX7, "addLeg", "(III)I"⟩
abbrev nX7_addLeg : Nat := 156
abbrev cX7_gateIt : ByteArray := prog_9_method_26_code
def yX7_gateIt : MethodName := ⟨RX7, "gateIt", "(IIIII)I"⟩
abbrev nX7_gateIt : Nat := 157
abbrev cX7_addGate : ByteArray := prog_9_method_27_code
def yX7_addGate : MethodName := ⟨RX7, "addGate", "(IIIII)I"⟩
abbrev nX7_addGate : Nat := 158
abbrev cX7_setsIt : ByteArray := prog_9_method_28_code
def yX7_setsIt : MethodName := ⟨RX7, "setsIt", "(IIII)I"⟩
abbrev nX7_setsIt : Nat := 159
abbrev cX7_setTolerance : ByteArray := prog_9_method_29_code
def yX7_setTolerance : MethodName := ⟨RX7, "setTolerance", "(I)I"⟩
abbrev nX7_setTolerance : Nat := 160
abbrev cX7_setTimeLimit : ByteArray := prog_9_method_30_code
def yX7_setTimeLimit : MethodName := ⟨RX7, "setTimeLimit", "(I)I"⟩
abbrev nX7_setTimeLimit : Nat := 161
abbrev cX7_runIt : ByteArray := prog_9_method_31_code
def yX7_runIt : MethodName := ⟨RX7, "runIt", "()I"⟩
abbrev nX7_runIt : Nat := 162
abbrev cX7_startRun : ByteArray := prog_9_method_32_code
def yX7_startRun : MethodName := ⟨RX7, "startRun", "()I"⟩
abbrev nX7_startRun : Nat := 163
abbrev cX7_loses : ByteArray := prog_9_method_33_code
def yX7_loses : MethodName := ⟨RX7, "loses", "(III)I"⟩
abbrev nX7_loses : Nat := 164
abbrev cX7_losesRest : ByteArray := prog_9_method_34_code
def yX7_losesRest : MethodName := ⟨RX7, "losesRest", "(I)I"⟩
abbrev nX7_losesRest : Nat := 165
abbrev cX7_isPassed : ByteArray := prog_9_method_35_code
def yX7_isPassed : MethodName := ⟨RX7, "isPassed", "(I)Z"⟩
abbrev nX7_isPassed : Nat := 166
abbrev cX7_gatesTo : ByteArray := prog_9_method_36_code
def yX7_gatesTo : MethodName := ⟨RX7, "gatesTo", "(II)I"⟩
abbrev nX7_gatesTo : Nat := 167
abbrev cX7_endsRun : ByteArray := prog_9_method_37_code
def yX7_endsRun : MethodName := ⟨RX7, "endsRun", "()V"⟩
abbrev nX7_endsRun : Nat := 168
abbrev cX7_completesLeg : ByteArray := prog_9_method_38_code
def yX7_completesLeg : MethodName := ⟨RX7, "completesLeg", "()I"⟩
abbrev nX7_completesLeg : Nat := 169
abbrev cX7_walkIt : ByteArray := prog_9_method_39_code
def yX7_walkIt : MethodName := ⟨RX7, "walkIt", "(III)I"⟩
abbrev nX7_walkIt : Nat := 170
abbrev cX7_walk : ByteArray := prog_9_method_40_code
def yX7_walk : MethodName := ⟨RX7, "walk", "(III)I"⟩
abbrev nX7_walk : Nat := 171
abbrev cX7_faultIt : ByteArray := prog_9_method_41_code
def yX7_faultIt : MethodName := ⟨RX7, "faultIt", "(I)I"⟩
abbrev nX7_faultIt : Nat := 172
abbrev cX7_fault : ByteArray := prog_9_method_42_code
def yX7_fault : MethodName := ⟨RX7, "fault", "(I)I"⟩
abbrev nX7_fault : Nat := 173
abbrev cX7_retireIt : ByteArray := prog_9_method_43_code
def yX7_retireIt : MethodName := ⟨RX7, "retireIt", "()I"⟩
abbrev nX7_retireIt : Nat := 174
abbrev cX7_retire : ByteArray := prog_9_method_44_code
def yX7_retire : MethodName := ⟨RX7, "retire", "()I"⟩
abbrev nX7_retire : Nat := 175
abbrev cX7_total : ByteArray := prog_9_method_45_code
def yX7_total : MethodName := ⟨RX7, "total", "(I)I"⟩
abbrev nX7_total : Nat := 176
abbrev cX7_legs : ByteArray := prog_9_method_46_code
def yX7_legs : MethodName := ⟨RX7, "legs", "()I"⟩
abbrev nX7_legs : Nat := 177
abbrev cX7_legPoints : ByteArray := prog_9_method_47_code
def yX7_legPoints : MethodName := ⟨RX7, "legPoints", "(I)I"⟩
abbrev nX7_legPoints : Nat := 178
abbrev cX7_totalPoints : ByteArray := prog_9_method_48_code
def yX7_totalPoints : MethodName := ⟨RX7, "totalPoints", "()I"⟩
abbrev nX7_totalPoints : Nat := 179
abbrev cX7_gates : ByteArray := prog_9_method_49_code
def yX7_gates : MethodName := ⟨RX7, "gates", "()I"⟩
abbrev nX7_gates : Nat := 180
abbrev cX7_legOf : ByteArray := prog_9_method_50_code
def yX7_legOf : MethodName := ⟨RX7, "legOf", "(I)I"⟩
abbrev nX7_legOf : Nat := 181
abbrev cX7_isOnLine : ByteArray := prog_9_method_51_code
def yX7_isOnLine : MethodName := ⟨RX7, "isOnLine", "(I)Z"⟩
abbrev nX7_isOnLine : Nat := 182
abbrev cX7_tolerance : ByteArray := prog_9_method_52_code
def yX7_tolerance : MethodName := ⟨RX7, "tolerance", "()I"⟩
abbrev nX7_tolerance : Nat := 183
abbrev cX7_timeLimit : ByteArray := prog_9_method_53_code
def yX7_timeLimit : MethodName := ⟨RX7, "timeLimit", "()I"⟩
abbrev nX7_timeLimit : Nat := 184
abbrev cX7_isRunning : ByteArray := prog_9_method_54_code
def yX7_isRunning : MethodName := ⟨RX7, "isRunning", "()Z"⟩
abbrev nX7_isRunning : Nat := 185
abbrev cX7_ofGoing : ByteArray := prog_9_method_55_code
def yX7_ofGoing : MethodName := ⟨RX7, "ofGoing", "(I)I"⟩
abbrev nX7_ofGoing : Nat := 186
abbrev cX7_presentLeg : ByteArray := prog_9_method_56_code
def yX7_presentLeg : MethodName := ⟨RX7, "presentLeg", "()I"⟩
abbrev nX7_presentLeg : Nat := 187
abbrev cX7_flockX : ByteArray := prog_9_method_57_code
def yX7_flockX : MethodName := ⟨RX7, "flockX", "()I"⟩
abbrev nX7_flockX : Nat := 188
abbrev cX7_flockY : ByteArray := prog_9_method_58_code
def yX7_flockY : MethodName := ⟨RX7, "flockY", "()I"⟩
abbrev nX7_flockY : Nat := 189
abbrev cX7_nextGate : ByteArray := prog_9_method_59_code
def yX7_nextGate : MethodName := ⟨RX7, "nextGate", "()I"⟩
abbrev nX7_nextGate : Nat := 190
abbrev cX7_asks : ByteArray := prog_9_method_60_code
def yX7_asks : MethodName := ⟨RX7, "asks", "(II)Z"⟩
abbrev nX7_asks : Nat := 191
abbrev cX7_gatesPassedTo : ByteArray := prog_9_method_61_code
def yX7_gatesPassedTo : MethodName := ⟨RX7, "gatesPassedTo", "(II)I"⟩
abbrev nX7_gatesPassedTo : Nat := 192
abbrev cX7_isOffLine : ByteArray := prog_9_method_62_code
def yX7_isOffLine : MethodName := ⟨RX7, "isOffLine", "(II)Z"⟩
abbrev nX7_isOffLine : Nat := 193
abbrev cX7_lossOfStep : ByteArray := prog_9_method_63_code
def yX7_lossOfStep : MethodName := ⟨RX7, "lossOfStep", "(III)I"⟩
abbrev nX7_lossOfStep : Nat := 194
abbrev cX7_runs : ByteArray := prog_9_method_64_code
def yX7_runs : MethodName := ⟨RX7, "runs", "()I"⟩
abbrev nX7_runs : Nat := 195
abbrev cX7_ofRun : ByteArray := prog_9_method_65_code
def yX7_ofRun : MethodName := ⟨RX7, "ofRun", "(II)I"⟩
abbrev nX7_ofRun : Nat := 196
abbrev cX7_isComplete : ByteArray := prog_9_method_66_code
def yX7_isComplete : MethodName := ⟨RX7, "isComplete", "(I)Z"⟩
abbrev nX7_isComplete : Nat := 197
abbrev cX7_time : ByteArray := prog_9_method_67_code
def yX7_time : MethodName := ⟨RX7, "time", "(I)I"⟩
abbrev nX7_time : Nat := 198
abbrev cX7_hasRunPassed : ByteArray := prog_9_method_68_code
def yX7_hasRunPassed : MethodName := ⟨RX7, "hasRunPassed", "(II)Z"⟩
abbrev nX7_hasRunPassed : Nat := 199
abbrev cX7_hasPassed : ByteArray := prog_9_method_69_code
def yX7_hasPassed : MethodName := ⟨RX7, "hasPassed", "(II)Z"⟩
abbrev nX7_hasPassed : Nat := 200
abbrev cX7_pointsOn : ByteArray := prog_9_method_70_code
def yX7_pointsOn : MethodName := ⟨RX7, "pointsOn", "(II)I"⟩
abbrev nX7_pointsOn : Nat := 201
abbrev cX7_scoreOf : ByteArray := prog_9_method_71_code
def yX7_scoreOf : MethodName := ⟨RX7, "scoreOf", "(I)I"⟩
abbrev nX7_scoreOf : Nat := 202
abbrev cX7_score : ByteArray := prog_9_method_72_code
def yX7_score : MethodName := ⟨RX7, "score", "(I)I"⟩
abbrev nX7_score : Nat := 203
abbrev cX7_scoreByLosses : ByteArray := prog_9_method_73_code
def yX7_scoreByLosses : MethodName := ⟨RX7, "scoreByLosses", "(I)I"⟩
abbrev nX7_scoreByLosses : Nat := 204
abbrev cX7_lineLoss : ByteArray := prog_9_method_74_code
def yX7_lineLoss : MethodName := ⟨RX7, "lineLoss", "(I)I"⟩
abbrev nX7_lineLoss : Nat := 205
abbrev cX7_gateLoss : ByteArray := prog_9_method_75_code
def yX7_gateLoss : MethodName := ⟨RX7, "gateLoss", "(I)I"⟩
abbrev nX7_gateLoss : Nat := 206
abbrev cX7_faultLoss : ByteArray := prog_9_method_76_code
def yX7_faultLoss : MethodName := ⟨RX7, "faultLoss", "(I)I"⟩
abbrev nX7_faultLoss : Nat := 207
abbrev cX7_timeLoss : ByteArray := prog_9_method_77_code
def yX7_timeLoss : MethodName := ⟨RX7, "timeLoss", "(I)I"⟩
abbrev nX7_timeLoss : Nat := 208
abbrev cX7_isAhead : ByteArray := prog_9_method_78_code
def yX7_isAhead : MethodName := ⟨RX7, "isAhead", "(II)Z"⟩
abbrev nX7_isAhead : Nat := 209
abbrev cX7_rankOfRun : ByteArray := prog_9_method_79_code
def yX7_rankOfRun : MethodName := ⟨RX7, "rankOfRun", "(I)I"⟩
abbrev nX7_rankOfRun : Nat := 210
abbrev cX7_runRanked : ByteArray := prog_9_method_80_code
def yX7_runRanked : MethodName := ⟨RX7, "runRanked", "(I)I"⟩
abbrev nX7_runRanked : Nat := 211
abbrev cX7_runAt : ByteArray := prog_9_method_81_code
def yX7_runAt : MethodName := ⟨RX7, "runAt", "(I)I"⟩
abbrev nX7_runAt : Nat := 212
abbrev cX7_rankOf : ByteArray := prog_9_method_82_code
def yX7_rankOf : MethodName := ⟨RX7, "rankOf", "(I)I"⟩
abbrev nX7_rankOf : Nat := 213
abbrev cX7_bestOn : ByteArray := prog_9_method_83_code
def yX7_bestOn : MethodName := ⟨RX7, "bestOn", "(I)I"⟩
abbrev nX7_bestOn : Nat := 214
abbrev cX7_meanScore : ByteArray := prog_9_method_84_code
def yX7_meanScore : MethodName := ⟨RX7, "meanScore", "()D"⟩
abbrev nX7_meanScore : Nat := 215
abbrev cX7_passRate : ByteArray := prog_9_method_85_code
def yX7_passRate : MethodName := ⟨RX7, "passRate", "(I)F"⟩
abbrev nX7_passRate : Nat := 216
abbrev cX7_isConsistent : ByteArray := prog_9_method_86_code
def yX7_isConsistent : MethodName := ⟨RX7, "isConsistent", "()Z"⟩
abbrev nX7_isConsistent : Nat := 217
abbrev cX7_sign : ByteArray := prog_9_method_87_code
def yX7_sign : MethodName := ⟨RX7, "sign", "(I)V"⟩
abbrev nX7_sign : Nat := 218
abbrev cX7_writesNumber : ByteArray := prog_9_method_88_code
def yX7_writesNumber : MethodName := ⟨RX7, "writesNumber", "(I)V"⟩
abbrev nX7_writesNumber : Nat := 219
abbrev cX7_writeRun : ByteArray := prog_9_method_89_code
def yX7_writeRun : MethodName := ⟨RX7, "writeRun", "(I)I"⟩
abbrev nX7_writeRun : Nat := 220
abbrev cX7_writeRanking : ByteArray := prog_9_method_90_code
def yX7_writeRanking : MethodName := ⟨RX7, "writeRanking", "()I"⟩
abbrev nX7_writeRanking : Nat := 221
abbrev cX7_charAt : ByteArray := prog_9_method_91_code
def yX7_charAt : MethodName := ⟨RX7, "charAt", "(I)C"⟩
abbrev nX7_charAt : Nat := 222
abbrev cX7_type : ByteArray := prog_9_method_92_code
def yX7_type : MethodName := ⟨RX7, "type", "(C)I"⟩
abbrev nX7_type : Nat := 223
abbrev cX7_here : ByteArray := prog_9_method_93_code
def yX7_here : MethodName := ⟨RX7, "here", "()I"⟩
abbrev nX7_here : Nat := 224
abbrev cX7_expects : ByteArray := prog_9_method_94_code
def yX7_expects : MethodName := ⟨RX7, "expects", "(I)V"⟩
abbrev nX7_expects : Nat := 225
abbrev cX7_digit : ByteArray := prog_9_method_95_code
def yX7_digit : MethodName := ⟨RX7, "digit", "()I"⟩
abbrev nX7_digit : Nat := 226
abbrev cX7_number : ByteArray := prog_9_method_96_code
def yX7_number : MethodName := ⟨RX7, "number", "()I"⟩
abbrev nX7_number : Nat := 227
abbrev cX7_numberBehind : ByteArray := prog_9_method_97_code
def yX7_numberBehind : MethodName := ⟨RX7, "numberBehind", "(I)I"⟩
abbrev nX7_numberBehind : Nat := 228
abbrev cX7_likeness : ByteArray := prog_9_method_98_code
def yX7_likeness : MethodName := ⟨RX7, "likeness", "(I)I"⟩
abbrev nX7_likeness : Nat := 229
abbrev cX7_readArguments : ByteArray := prog_9_method_99_code
def yX7_readArguments : MethodName := ⟨RX7, "readArguments", "(II)V"⟩
abbrev nX7_readArguments : Nat := 230
abbrev cX7_readCommand : ByteArray := prog_9_method_100_code
def yX7_readCommand : MethodName := ⟨RX7, "readCommand", "()V"⟩
abbrev nX7_readCommand : Nat := 231
abbrev cX7_does : ByteArray := prog_9_method_101_code
def yX7_does : MethodName := ⟨RX7, "does", "(I)V"⟩
abbrev nX7_does : Nat := 232
abbrev cX7_execute : ByteArray := prog_9_method_102_code
def yX7_execute : MethodName := ⟨RX7, "execute", "()I"⟩
abbrev nX7_execute : Nat := 233
abbrev cX7_errorPosition : ByteArray := prog_9_method_103_code
def yX7_errorPosition : MethodName := ⟨RX7, "errorPosition", "()I"⟩
abbrev nX7_errorPosition : Nat := 234
abbrev cX7_failedCommand : ByteArray := prog_9_method_104_code
def yX7_failedCommand : MethodName := ⟨RX7, "failedCommand", "()I"⟩
abbrev nX7_failedCommand : Nat := 235
abbrev cX7_undo : ByteArray := prog_9_method_105_code
def yX7_undo : MethodName := ⟨RX7, "undo", "()I"⟩
abbrev nX7_undo : Nat := 236
abbrev cX7_save : ByteArray := prog_9_method_106_code
def yX7_save : MethodName := ⟨RX7, "save", "()I"⟩
abbrev nX7_save : Nat := 237
abbrev cX7_restore : ByteArray := prog_9_method_107_code
def yX7_restore : MethodName := ⟨RX7, "restore", "()I"⟩
abbrev nX7_restore : Nat := 238
abbrev cL_setStart : ByteArray := method_3_code
def yL_setStart : MethodName := ⟨RL, "setStart", "(LSheepdogTrial;II[J)I"⟩
abbrev nL_setStart : Nat := 239
abbrev cL_addLeg : ByteArray := method_4_code
def yL_addLeg : MethodName := ⟨RL, "addLeg", "(LSheepdogTrial;III[J)I"⟩
abbrev nL_addLeg : Nat := 240
abbrev cL_addGate : ByteArray := method_5_code
def yL_addGate : MethodName := ⟨RL, "addGate", "(LSheepdogTrial;IIIII[J)I"⟩
abbrev nL_addGate : Nat := 241
abbrev cL_setTolerance : ByteArray := method_6_code
def yL_setTolerance : MethodName := ⟨RL, "setTolerance", "(LSheepdogTrial;I[J)I"⟩
abbrev nL_setTolerance : Nat := 242
abbrev cL_setTimeLimit : ByteArray := method_7_code
def yL_setTimeLimit : MethodName := ⟨RL, "setTimeLimit", "(LSheepdogTrial;I[J)I"⟩
abbrev nL_setTimeLimit : Nat := 243
abbrev cL_startRun : ByteArray := method_8_code
def yL_startRun : MethodName := ⟨RL, "startRun", "(LSheepdogTrial;[J)I"⟩
abbrev nL_startRun : Nat := 244
abbrev cL_walk : ByteArray := method_9_code
def yL_walk : MethodName := ⟨RL, "walk", "(LSheepdogTrial;III[J)I"⟩
abbrev nL_walk : Nat := 245
abbrev cL_fault : ByteArray := method_10_code
def yL_fault : MethodName := ⟨RL, "fault", "(LSheepdogTrial;I[J)I"⟩
abbrev nL_fault : Nat := 246
abbrev cL_retire : ByteArray := method_11_code
def yL_retire : MethodName := ⟨RL, "retire", "(LSheepdogTrial;[J)I"⟩
abbrev nL_retire : Nat := 247
abbrev cL_legPoints : ByteArray := method_12_code
def yL_legPoints : MethodName := ⟨RL, "legPoints", "(LSheepdogTrial;I[J)I"⟩
abbrev nL_legPoints : Nat := 248
abbrev cL_legOf : ByteArray := method_13_code
def yL_legOf : MethodName := ⟨RL, "legOf", "(LSheepdogTrial;I[J)I"⟩
abbrev nL_legOf : Nat := 249
abbrev cL_isOnLine : ByteArray := method_14_code
def yL_isOnLine : MethodName := ⟨RL, "isOnLine", "(LSheepdogTrial;I[J)I"⟩
abbrev nL_isOnLine : Nat := 250
abbrev cL_presentLeg : ByteArray := method_15_code
def yL_presentLeg : MethodName := ⟨RL, "presentLeg", "(LSheepdogTrial;[J)I"⟩
abbrev nL_presentLeg : Nat := 251
abbrev cL_flockX : ByteArray := method_16_code
def yL_flockX : MethodName := ⟨RL, "flockX", "(LSheepdogTrial;[J)I"⟩
abbrev nL_flockX : Nat := 252
abbrev cL_flockY : ByteArray := method_17_code
def yL_flockY : MethodName := ⟨RL, "flockY", "(LSheepdogTrial;[J)I"⟩
abbrev nL_flockY : Nat := 253
abbrev cL_nextGate : ByteArray := method_18_code
def yL_nextGate : MethodName := ⟨RL, "nextGate", "(LSheepdogTrial;[J)I"⟩
abbrev nL_nextGate : Nat := 254
abbrev cL_gatesPassedTo : ByteArray := method_19_code
def yL_gatesPassedTo : MethodName := ⟨RL, "gatesPassedTo", "(LSheepdogTrial;II[J)I"⟩
abbrev nL_gatesPassedTo : Nat := 255
abbrev cL_isOffLine : ByteArray := method_20_code
def yL_isOffLine : MethodName := ⟨RL, "isOffLine", "(LSheepdogTrial;II[J)I"⟩
abbrev nL_isOffLine : Nat := 256
abbrev cL_lossOfStep : ByteArray := method_21_code
def yL_lossOfStep : MethodName := ⟨RL, "lossOfStep", "(LSheepdogTrial;III[J)I"⟩
abbrev nL_lossOfStep : Nat := 257
abbrev cL_isComplete : ByteArray := method_22_code
def yL_isComplete : MethodName := ⟨RL, "isComplete", "(LSheepdogTrial;I[J)I"⟩
abbrev nL_isComplete : Nat := 258
abbrev cL_time : ByteArray := method_23_code
def yL_time : MethodName := ⟨RL, "time", "(LSheepdogTrial;I[J)I"⟩
abbrev nL_time : Nat := 259
abbrev cL_hasPassed : ByteArray := method_24_code
def yL_hasPassed : MethodName := ⟨RL, "hasPassed", "(LSheepdogTrial;II[J)I"⟩
abbrev nL_hasPassed : Nat := 260
abbrev cL_pointsOn : ByteArray := method_25_code
def yL_pointsOn : MethodName := ⟨RL, "pointsOn", "(LSheepdogTrial;II[J)I"⟩
abbrev nL_pointsOn : Nat := 261
abbrev cL_score : ByteArray := method_26_code
def yL_score : MethodName := ⟨RL, "score", "(LSheepdogTrial;I[J)I"⟩
abbrev nL_score : Nat := 262
abbrev cL_scoreByLosses : ByteArray := method_27_code
def yL_scoreByLosses : MethodName := ⟨RL, "scoreByLosses", "(LSheepdogTrial;I[J)I"⟩
abbrev nL_scoreByLosses : Nat := 263
abbrev cL_lineLoss : ByteArray := method_28_code
def yL_lineLoss : MethodName := ⟨RL, "lineLoss", "(LSheepdogTrial;I[J)I"⟩
abbrev nL_lineLoss : Nat := 264
abbrev cL_gateLoss : ByteArray := method_29_code
def yL_gateLoss : MethodName := ⟨RL, "gateLoss", "(LSheepdogTrial;I[J)I"⟩
abbrev nL_gateLoss : Nat := 265
abbrev cL_faultLoss : ByteArray := method_30_code
def yL_faultLoss : MethodName := ⟨RL, "faultLoss", "(LSheepdogTrial;I[J)I"⟩
abbrev nL_faultLoss : Nat := 266
abbrev cL_timeLoss : ByteArray := method_31_code
def yL_timeLoss : MethodName := ⟨RL, "timeLoss", "(LSheepdogTrial;I[J)I"⟩
abbrev nL_timeLoss : Nat := 267
abbrev cL_runAt : ByteArray := method_32_code
def yL_runAt : MethodName := ⟨RL, "runAt", "(LSheepdogTrial;I[J)I"⟩
abbrev nL_runAt : Nat := 268
abbrev cL_rankOf : ByteArray := method_33_code
def yL_rankOf : MethodName := ⟨RL, "rankOf", "(LSheepdogTrial;I[J)I"⟩
abbrev nL_rankOf : Nat := 269
abbrev cL_bestOn : ByteArray := method_34_code
def yL_bestOn : MethodName := ⟨RL, "bestOn", "(LSheepdogTrial;I[J)I"⟩
abbrev nL_bestOn : Nat := 270
abbrev cL_meanScore : ByteArray := method_35_code
def yL_meanScore : MethodName := ⟨RL, "meanScore", "(LSheepdogTrial;[D)I"⟩
abbrev nL_meanScore : Nat := 271
abbrev cL_passRate : ByteArray := method_36_code
def yL_passRate : MethodName := ⟨RL, "passRate", "(LSheepdogTrial;I[D)I"⟩
abbrev nL_passRate : Nat := 272
abbrev cL_writeRun : ByteArray := method_37_code
def yL_writeRun : MethodName := ⟨RL, "writeRun", "(LSheepdogTrial;I[J)I"⟩
abbrev nL_writeRun : Nat := 273
abbrev cL_charAt : ByteArray := method_38_code
def yL_charAt : MethodName := ⟨RL, "charAt", "(LSheepdogTrial;I[J)I"⟩
abbrev nL_charAt : Nat := 274
abbrev cL_type : ByteArray := method_39_code
def yL_type : MethodName := ⟨RL, "type", "(LSheepdogTrial;C[J)I"⟩
abbrev nL_type : Nat := 275
abbrev cL_execute : ByteArray := method_40_code
def yL_execute : MethodName := ⟨RL, "execute", "(LSheepdogTrial;[J)I"⟩
abbrev nL_execute : Nat := 276
abbrev cL_errorPosition : ByteArray := method_41_code
def yL_errorPosition : MethodName := ⟨RL, "errorPosition", "(LSheepdogTrial;[J)I"⟩
abbrev nL_errorPosition : Nat := 277
abbrev cL_failedCommand : ByteArray := method_42_code
def yL_failedCommand : MethodName := ⟨RL, "failedCommand", "(LSheepdogTrial;[J)I"⟩
abbrev nL_failedCommand : Nat := 278
abbrev cL_undo : ByteArray := method_43_code
def yL_undo : MethodName := ⟨RL, "undo", "(LSheepdogTrial;[J)I"⟩
abbrev nL_undo : Nat := 279
abbrev cL_restore : ByteArray := method_44_code
def yL_restore : MethodName := ⟨RL, "restore", "(LSheepdogTrial;[J)I"⟩
abbrev nL_restore : Nat := 280
abbrev cL_law : ByteArray := code
def yL_law : MethodName := ⟨RL, "law", "([I)Z"⟩
abbrev nL_law : Nat := 281
def aMt0 : List (MethodName × ByteArray × Nat × Option FieldType × List (Nat × Nat × Nat × Nat)) := [(yX0_init, cX0_init, 1, none, []), (yX0_copyFrom, cX0_copyFrom, 2, none, []), (yX0_hasLeg, cX0_hasLeg, 2, (some FieldType.boolean), []), (yX0_sumOfPoints, cX0_sumOfPoints, 3, (some FieldType.int), []), (yX0_legBeginX, cX0_legBeginX, 2, (some FieldType.int), []), (yX0_legBeginY, cX0_legBeginY, 2, (some FieldType.int), []), (yX0_gateMeetsItsLeg, cX0_gateMeetsItsLeg, 3, (some FieldType.boolean), []), (yX0_gateMeets, cX0_gateMeets, 14, (some FieldType.boolean), []), (yX0_side, cX0_side, 6, (some FieldType.int), []), (yX0_isOffLeg, cX0_isOffLeg, 11, (some FieldType.boolean), []), (yX0_isNearEnd, cX0_isNearEnd, 4, (some FieldType.boolean), []), (yX0_squareOfDistance, cX0_squareOfDistance, 4, (some FieldType.int), []), (yX1_init, cX1_init, 2, none, []), (yX1_push, cX1_push, 2, none, []), (yX1_popInto, cX1_popInto, 2, none, []), (yX1_clear, cX1_clear, 1, none, []), (yX2_init, cX2_init, 1, none, []), (yX2_clear, cX2_clear, 1, none, []), (yX2_put, cX2_put, 2, none, []), (yX2_putNumber, cX2_putNumber, 2, none, []), (yX2_putDigit, cX2_putDigit, 2, none, []), (yX3_init, cX3_init, 1, none, []), (yX3_append, cX3_append, 2, none, []), (yX3_clear, cX3_clear, 1, none, []), (yX3_parse, cX3_parse, 2, (some FieldType.int), []), (yX3_parseCommand, cX3_parseCommand, 4, (some FieldType.boolean), []), (yX3_patternOf, cX3_patternOf, 1, (some (FieldType.object "java/lang/String")), []), (yX3_matches, cX3_matches, 7, (some FieldType.boolean), []), (yX3_skipDigits, cX3_skipDigits, 3, none, []), (yX3_valueOfDigits, cX3_valueOfDigits, 5, (some FieldType.int), []), (yX3_performOn, cX3_performOn, 3, (some FieldType.int), []), (yX3_perform, cX3_perform, 7, (some FieldType.int), []), (yX4_init, cX4_init, 1, none, []), (yX4_copyFrom, cX4_copyFrom, 2, none, []), (yX4_begin, cX4_begin, 2, none, []), (yX4_isGatePassed, cX4_isGatePassed, 2, (some FieldType.boolean), []), (yX4_passGate, cX4_passGate, 2, none, []), (yX4_deduct, cX4_deduct, 4, (some FieldType.int), []), (yX4_deductFrom, cX4_deductFrom, 4, (some FieldType.int), []), (yX4_sumOfPoints, cX4_sumOfPoints, 3, (some FieldType.int), [])]
def aMt1 : List (MethodName × ByteArray × Nat × Option FieldType × List (Nat × Nat × Nat × Nat)) := [(yX4_sumOfLosses, cX4_sumOfLosses, 1, (some FieldType.int), []), (yX4_compareForRank, cX4_compareForRank, 4, (some FieldType.int), []), (yX5_init, cX5_init, 2, none, []), (yX5_copyFrom, cX5_copyFrom, 3, none, []), (yX5_placeStart, cX5_placeStart, 3, (some FieldType.int), []), (yX5_appendLeg, cX5_appendLeg, 5, (some FieldType.int), []), (yX5_appendGate, cX5_appendGate, 7, (some FieldType.int), []), (yX5_changeTolerance, cX5_changeTolerance, 3, (some FieldType.int), []), (yX5_changeTimeLimit, cX5_changeTimeLimit, 3, (some FieldType.int), []), (yX5_beginRun, cX5_beginRun, 2, (some FieldType.int), []), (yX5_makeStep, cX5_makeStep, 6, (some FieldType.int), []), (yX5_deductFault, cX5_deductFault, 4, (some FieldType.int), []), (yX5_giveUpRun, cX5_giveUpRun, 3, (some FieldType.int), []), (yX5_passGates, cX5_passGates, 6, (some FieldType.int), []), (yX5_firstOpenGate, cX5_firstOpenGate, 3, (some FieldType.int), []), (yX5_endOverTime, cX5_endOverTime, 3, (some FieldType.int), []), (yX5_leaveLine, cX5_leaveLine, 3, (some FieldType.int), []), (yX5_completeLeg, cX5_completeLeg, 3, (some FieldType.int), []), (yX5_countOpenGates, cX5_countOpenGates, 4, (some FieldType.int), []), (yX5_runGoingOn, cX5_runGoingOn, 1, (some (FieldType.object "SheepdogTrial$Run")), []), (yX5_isGoingOn, cX5_isGoingOn, 2, (some FieldType.boolean), []), (yX5_isRankedBefore, cX5_isRankedBefore, 4, (some FieldType.boolean), []), (yX5_countRunsBefore, cX5_countRunsBefore, 4, (some FieldType.int), []), (yX5_sortRuns, cX5_sortRuns, 4, none, []), (yX5_bestRunOn, cX5_bestRunOn, 4, (some FieldType.int), []), (yX5_sumOfScores, cX5_sumOfScores, 3, (some FieldType.int), []), (yX5_countRunsThrough, cX5_countRunsThrough, 4, (some FieldType.int), []), (yX5_isSound, cX5_isSound, 4, (some FieldType.boolean), []), (yX6_init, cX6_init, 1, none, []), (yX6_setStart, cX6_setStart, 3, (some FieldType.int), []), (yX6_addLeg, cX6_addLeg, 4, (some FieldType.int), []), (yX6_addGate, cX6_addGate, 6, (some FieldType.int), []), (yX6_setTolerance, cX6_setTolerance, 2, (some FieldType.int), []), (yX6_setTimeLimit, cX6_setTimeLimit, 2, (some FieldType.int), []), (yX6_startRun, cX6_startRun, 1, (some FieldType.int), []), (yX6_walk, cX6_walk, 4, (some FieldType.int), []), (yX6_fault, cX6_fault, 2, (some FieldType.int), []), (yX6_retire, cX6_retire, 1, (some FieldType.int), []), (yX6_legs, cX6_legs, 1, (some FieldType.int), []), (yX6_legPoints, cX6_legPoints, 2, (some FieldType.int), [])]
def aMt2 : List (MethodName × ByteArray × Nat × Option FieldType × List (Nat × Nat × Nat × Nat)) := [(yX6_totalPoints, cX6_totalPoints, 1, (some FieldType.int), []), (yX6_gates, cX6_gates, 1, (some FieldType.int), []), (yX6_legOf, cX6_legOf, 2, (some FieldType.int), []), (yX6_isOnLine, cX6_isOnLine, 2, (some FieldType.boolean), []), (yX6_tolerance, cX6_tolerance, 1, (some FieldType.int), []), (yX6_timeLimit, cX6_timeLimit, 1, (some FieldType.int), []), (yX6_isRunning, cX6_isRunning, 1, (some FieldType.boolean), []), (yX6_presentLeg, cX6_presentLeg, 1, (some FieldType.int), []), (yX6_flockX, cX6_flockX, 1, (some FieldType.int), []), (yX6_flockY, cX6_flockY, 1, (some FieldType.int), []), (yX6_nextGate, cX6_nextGate, 2, (some FieldType.int), []), (yX6_gatesPassedTo, cX6_gatesPassedTo, 3, (some FieldType.int), []), (yX6_isOffLine, cX6_isOffLine, 3, (some FieldType.boolean), []), (yX6_lossOfStep, cX6_lossOfStep, 4, (some FieldType.int), []), (yX6_runs, cX6_runs, 1, (some FieldType.int), []), (yX6_isComplete, cX6_isComplete, 2, (some FieldType.boolean), []), (yX6_time, cX6_time, 2, (some FieldType.int), []), (yX6_hasPassed, cX6_hasPassed, 4, (some FieldType.boolean), []), (yX6_pointsOn, cX6_pointsOn, 4, (some FieldType.int), []), (yX6_score, cX6_score, 2, (some FieldType.int), []), (yX6_scoreByLosses, cX6_scoreByLosses, 2, (some FieldType.int), []), (yX6_lineLoss, cX6_lineLoss, 2, (some FieldType.int), []), (yX6_gateLoss, cX6_gateLoss, 2, (some FieldType.int), []), (yX6_faultLoss, cX6_faultLoss, 2, (some FieldType.int), []), (yX6_timeLoss, cX6_timeLoss, 2, (some FieldType.int), []), (yX6_runAt, cX6_runAt, 2, (some FieldType.int), []), (yX6_rankOf, cX6_rankOf, 2, (some FieldType.int), []), (yX6_bestOn, cX6_bestOn, 2, (some FieldType.int), []), (yX6_meanScore, cX6_meanScore, 2, (some FieldType.double), []), (yX6_passRate, cX6_passRate, 3, (some FieldType.float), []), (yX6_isConsistent, cX6_isConsistent, 2, (some FieldType.boolean), []), (yX6_writeRun, cX6_writeRun, 4, (some FieldType.int), []), (yX6_writeRanking, cX6_writeRanking, 3, (some FieldType.int), []), (yX6_charAt, cX6_charAt, 2, (some FieldType.char), []), (yX6_type, cX6_type, 2, (some FieldType.int), []), (yX6_execute, cX6_execute, 3, (some FieldType.int), []), (yX6_errorPosition, cX6_errorPosition, 1, (some FieldType.int), []), (yX6_failedCommand, cX6_failedCommand, 1, (some FieldType.int), []), (yX6_undo, cX6_undo, 1, (some FieldType.int), []), (yX6_save, cX6_save, 1, (some FieldType.int), [])]
def aMt3 : List (MethodName × ByteArray × Nat × Option FieldType × List (Nat × Nat × Nat × Nat)) := [(yX6_restore, cX6_restore, 1, (some FieldType.int), []), (yX6_freshDraft, cX6_freshDraft, 1, (some (FieldType.object "SheepdogTrial$State")), []), (yX6_settle, cX6_settle, 2, (some FieldType.int), []), (yX6_accepted, cX6_accepted, 1, (some FieldType.int), []), (yX6_requireLeg, cX6_requireLeg, 2, none, []), (yX6_requireGate, cX6_requireGate, 2, none, []), (yX6_requireRun, cX6_requireRun, 2, none, []), (yX6_runNumbered, cX6_runNumbered, 2, (some (FieldType.object "SheepdogTrial$Run")), []), (yX6_requireRunning, cX6_requireRunning, 1, none, []), (yX6_requirePoint, cX6_requirePoint, 2, none, []), (yX6_isPoint, cX6_isPoint, 2, (some FieldType.boolean), []), (yX6_isWithin, cX6_isWithin, 3, (some FieldType.boolean), []), (yX7_init, cX7_init, 1, none, []), (yX7_thrown, cX7_thrown, 1, (some FieldType.int), []), (yX7_throwing, cX7_throwing, 2, (some FieldType.int), []), (yX7_in, cX7_in, 6, (some FieldType.boolean), []), (yX7_isPoint, cX7_isPoint, 2, (some FieldType.boolean), []), (yX7_starts, cX7_starts, 2, none, []), (yX7_changed, cX7_changed, 3, (some FieldType.int), []), (yX7_legAt, cX7_legAt, 1, (some FieldType.int), []), (yX7_gateAt, cX7_gateAt, 1, (some FieldType.int), []), (yX7_runAtPlace, cX7_runAtPlace, 1, (some FieldType.int), []), (yX7_isLeg, cX7_isLeg, 2, (some FieldType.boolean), []), (yX7_isGate, cX7_isGate, 2, (some FieldType.boolean), []), (yX7_isRun, cX7_isRun, 2, (some FieldType.boolean), []), (yX7_beginOf, cX7_beginOf, 1, (some FieldType.int), []), (yX7_side, cX7_side, 7, (some FieldType.int), []), (yX7_isBetween, cX7_isBetween, 3, (some FieldType.boolean), []), (yX7_isOn, cX7_isOn, 6, (some FieldType.boolean), []), (yX7_meets, cX7_meets, 14, (some FieldType.boolean), []), (yX7_squareOf, cX7_squareOf, 2, (some FieldType.int), []), (yX7_isFar, cX7_isFar, 14, (some FieldType.boolean), []), (yX7_isFixed, cX7_isFixed, 1, (some FieldType.boolean), []), (yX7_startIt, cX7_startIt, 3, (some FieldType.int), []), (yX7_setStart, cX7_setStart, 3, (some FieldType.int), []), (yX7_legIt, cX7_legIt, 5, (some FieldType.int), []), (yX7_addLeg, cX7_addLeg, 4, (some FieldType.int), []), (yX7_gateIt, cX7_gateIt, 7, (some FieldType.int), []), (yX7_addGate, cX7_addGate, 6, (some FieldType.int), []), (yX7_setsIt, cX7_setsIt, 6, (some FieldType.int), [])]
def aMt4 : List (MethodName × ByteArray × Nat × Option FieldType × List (Nat × Nat × Nat × Nat)) := [(yX7_setTolerance, cX7_setTolerance, 2, (some FieldType.int), []), (yX7_setTimeLimit, cX7_setTimeLimit, 2, (some FieldType.int), []), (yX7_runIt, cX7_runIt, 3, (some FieldType.int), []), (yX7_startRun, cX7_startRun, 1, (some FieldType.int), []), (yX7_loses, cX7_loses, 6, (some FieldType.int), []), (yX7_losesRest, cX7_losesRest, 4, (some FieldType.int), []), (yX7_isPassed, cX7_isPassed, 2, (some FieldType.boolean), []), (yX7_gatesTo, cX7_gatesTo, 6, (some FieldType.int), []), (yX7_endsRun, cX7_endsRun, 1, none, []), (yX7_completesLeg, cX7_completesLeg, 3, (some FieldType.int), []), (yX7_walkIt, cX7_walkIt, 7, (some FieldType.int), []), (yX7_walk, cX7_walk, 4, (some FieldType.int), []), (yX7_faultIt, cX7_faultIt, 2, (some FieldType.int), []), (yX7_fault, cX7_fault, 2, (some FieldType.int), []), (yX7_retireIt, cX7_retireIt, 2, (some FieldType.int), []), (yX7_retire, cX7_retire, 1, (some FieldType.int), []), (yX7_total, cX7_total, 2, (some FieldType.int), []), (yX7_legs, cX7_legs, 1, (some FieldType.int), []), (yX7_legPoints, cX7_legPoints, 2, (some FieldType.int), []), (yX7_totalPoints, cX7_totalPoints, 3, (some FieldType.int), []), (yX7_gates, cX7_gates, 1, (some FieldType.int), []), (yX7_legOf, cX7_legOf, 2, (some FieldType.int), []), (yX7_isOnLine, cX7_isOnLine, 4, (some FieldType.boolean), []), (yX7_tolerance, cX7_tolerance, 1, (some FieldType.int), []), (yX7_timeLimit, cX7_timeLimit, 1, (some FieldType.int), []), (yX7_isRunning, cX7_isRunning, 1, (some FieldType.boolean), []), (yX7_ofGoing, cX7_ofGoing, 2, (some FieldType.int), []), (yX7_presentLeg, cX7_presentLeg, 1, (some FieldType.int), []), (yX7_flockX, cX7_flockX, 1, (some FieldType.int), []), (yX7_flockY, cX7_flockY, 1, (some FieldType.int), []), (yX7_nextGate, cX7_nextGate, 2, (some FieldType.int), []), (yX7_asks, cX7_asks, 3, (some FieldType.boolean), []), (yX7_gatesPassedTo, cX7_gatesPassedTo, 6, (some FieldType.int), []), (yX7_isOffLine, cX7_isOffLine, 3, (some FieldType.boolean), []), (yX7_lossOfStep, cX7_lossOfStep, 6, (some FieldType.int), []), (yX7_runs, cX7_runs, 1, (some FieldType.int), []), (yX7_ofRun, cX7_ofRun, 3, (some FieldType.int), []), (yX7_isComplete, cX7_isComplete, 2, (some FieldType.boolean), []), (yX7_time, cX7_time, 2, (some FieldType.int), []), (yX7_hasRunPassed, cX7_hasRunPassed, 3, (some FieldType.boolean), [])]
def aMt5 : List (MethodName × ByteArray × Nat × Option FieldType × List (Nat × Nat × Nat × Nat)) := [(yX7_hasPassed, cX7_hasPassed, 3, (some FieldType.boolean), []), (yX7_pointsOn, cX7_pointsOn, 3, (some FieldType.int), []), (yX7_scoreOf, cX7_scoreOf, 4, (some FieldType.int), []), (yX7_score, cX7_score, 2, (some FieldType.int), []), (yX7_scoreByLosses, cX7_scoreByLosses, 2, (some FieldType.int), []), (yX7_lineLoss, cX7_lineLoss, 2, (some FieldType.int), []), (yX7_gateLoss, cX7_gateLoss, 2, (some FieldType.int), []), (yX7_faultLoss, cX7_faultLoss, 2, (some FieldType.int), []), (yX7_timeLoss, cX7_timeLoss, 2, (some FieldType.int), []), (yX7_isAhead, cX7_isAhead, 5, (some FieldType.boolean), []), (yX7_rankOfRun, cX7_rankOfRun, 4, (some FieldType.int), []), (yX7_runRanked, cX7_runRanked, 3, (some FieldType.int), []), (yX7_runAt, cX7_runAt, 3, (some FieldType.int), []), (yX7_rankOf, cX7_rankOf, 2, (some FieldType.int), []), (yX7_bestOn, cX7_bestOn, 4, (some FieldType.int), []), (yX7_meanScore, cX7_meanScore, 3, (some FieldType.double), []), (yX7_passRate, cX7_passRate, 4, (some FieldType.float), []), (yX7_isConsistent, cX7_isConsistent, 1, (some FieldType.boolean), []), (yX7_sign, cX7_sign, 2, none, []), (yX7_writesNumber, cX7_writesNumber, 3, none, []), (yX7_writeRun, cX7_writeRun, 3, (some FieldType.int), []), (yX7_writeRanking, cX7_writeRanking, 2, (some FieldType.int), []), (yX7_charAt, cX7_charAt, 2, (some FieldType.char), []), (yX7_type, cX7_type, 2, (some FieldType.int), []), (yX7_here, cX7_here, 1, (some FieldType.int), []), (yX7_expects, cX7_expects, 2, none, []), (yX7_digit, cX7_digit, 2, (some FieldType.int), []), (yX7_number, cX7_number, 3, (some FieldType.int), []), (yX7_numberBehind, cX7_numberBehind, 2, (some FieldType.int), []), (yX7_likeness, cX7_likeness, 4, (some FieldType.int), []), (yX7_readArguments, cX7_readArguments, 3, none, []), (yX7_readCommand, cX7_readCommand, 4, none, []), (yX7_does, cX7_does, 5, none, []), (yX7_execute, cX7_execute, 4, (some FieldType.int), []), (yX7_errorPosition, cX7_errorPosition, 1, (some FieldType.int), []), (yX7_failedCommand, cX7_failedCommand, 1, (some FieldType.int), []), (yX7_undo, cX7_undo, 2, (some FieldType.int), []), (yX7_save, cX7_save, 2, (some FieldType.int), []), (yX7_restore, cX7_restore, 2, (some FieldType.int), []), (yL_setStart, cL_setStart, 5, (some FieldType.int), [(0, 10, 13, 13), (0, 10, 17, 15)])]
def aMt6 : List (MethodName × ByteArray × Nat × Option FieldType × List (Nat × Nat × Nat × Nat)) := [(yL_addLeg, cL_addLeg, 6, (some FieldType.int), [(0, 12, 15, 13), (0, 12, 19, 15)]), (yL_addGate, cL_addGate, 8, (some FieldType.int), [(0, 16, 19, 25), (0, 16, 23, 13), (0, 16, 27, 15)]), (yL_setTolerance, cL_setTolerance, 4, (some FieldType.int), [(0, 9, 12, 13), (0, 9, 15, 15)]), (yL_setTimeLimit, cL_setTimeLimit, 4, (some FieldType.int), [(0, 9, 12, 13), (0, 9, 15, 15)]), (yL_startRun, cL_startRun, 3, (some FieldType.int), [(0, 8, 11, 15)]), (yL_walk, cL_walk, 6, (some FieldType.int), [(0, 12, 15, 13), (0, 12, 19, 15)]), (yL_fault, cL_fault, 4, (some FieldType.int), [(0, 9, 12, 13), (0, 9, 15, 15)]), (yL_retire, cL_retire, 3, (some FieldType.int), [(0, 8, 11, 15)]), (yL_legPoints, cL_legPoints, 4, (some FieldType.int), [(0, 9, 12, 25)]), (yL_legOf, cL_legOf, 4, (some FieldType.int), [(0, 9, 12, 25)]), (yL_isOnLine, cL_isOnLine, 4, (some FieldType.int), [(0, 16, 19, 25)]), (yL_presentLeg, cL_presentLeg, 3, (some FieldType.int), [(0, 8, 11, 15)]), (yL_flockX, cL_flockX, 3, (some FieldType.int), [(0, 8, 11, 15)]), (yL_flockY, cL_flockY, 3, (some FieldType.int), [(0, 8, 11, 15)]), (yL_nextGate, cL_nextGate, 3, (some FieldType.int), [(0, 8, 11, 15), (0, 8, 14, 69)]), (yL_gatesPassedTo, cL_gatesPassedTo, 5, (some FieldType.int), [(0, 10, 13, 13), (0, 10, 17, 15)]), (yL_isOffLine, cL_isOffLine, 5, (some FieldType.int), [(0, 17, 20, 13), (0, 17, 24, 15)]), (yL_lossOfStep, cL_lossOfStep, 6, (some FieldType.int), [(0, 12, 15, 13), (0, 12, 19, 15)]), (yL_isComplete, cL_isComplete, 4, (some FieldType.int), [(0, 16, 19, 25)]), (yL_time, cL_time, 4, (some FieldType.int), [(0, 9, 12, 25)]), (yL_hasPassed, cL_hasPassed, 5, (some FieldType.int), [(0, 17, 20, 25)]), (yL_pointsOn, cL_pointsOn, 5, (some FieldType.int), [(0, 10, 13, 25)]), (yL_score, cL_score, 4, (some FieldType.int), [(0, 9, 12, 25)]), (yL_scoreByLosses, cL_scoreByLosses, 4, (some FieldType.int), [(0, 9, 12, 25)]), (yL_lineLoss, cL_lineLoss, 4, (some FieldType.int), [(0, 9, 12, 25)]), (yL_gateLoss, cL_gateLoss, 4, (some FieldType.int), [(0, 9, 12, 25)]), (yL_faultLoss, cL_faultLoss, 4, (some FieldType.int), [(0, 9, 12, 25)]), (yL_timeLoss, cL_timeLoss, 4, (some FieldType.int), [(0, 9, 12, 25)]), (yL_runAt, cL_runAt, 4, (some FieldType.int), [(0, 9, 12, 69)]), (yL_rankOf, cL_rankOf, 4, (some FieldType.int), [(0, 9, 12, 25)]), (yL_bestOn, cL_bestOn, 4, (some FieldType.int), [(0, 9, 12, 25), (0, 9, 15, 69)]), (yL_meanScore, cL_meanScore, 3, (some FieldType.int), [(0, 7, 10, 124)]), (yL_passRate, cL_passRate, 4, (some FieldType.int), [(0, 9, 12, 25), (0, 9, 15, 124)]), (yL_writeRun, cL_writeRun, 4, (some FieldType.int), [(0, 9, 12, 25)]), (yL_charAt, cL_charAt, 4, (some FieldType.int), [(0, 9, 12, 25)]), (yL_type, cL_type, 4, (some FieldType.int), [(0, 9, 12, 15)]), (yL_execute, cL_execute, 3, (some FieldType.int), [(0, 8, 11, 13), (0, 8, 14, 144)]), (yL_errorPosition, cL_errorPosition, 3, (some FieldType.int), [(0, 8, 11, 69)]), (yL_failedCommand, cL_failedCommand, 3, (some FieldType.int), [(0, 8, 11, 69)]), (yL_undo, cL_undo, 3, (some FieldType.int), [(0, 8, 11, 15)])]
def aMt7 : List (MethodName × ByteArray × Nat × Option FieldType × List (Nat × Nat × Nat × Nat)) := [(yL_restore, cL_restore, 3, (some FieldType.int), [(0, 8, 11, 15)]), (yL_law, cL_law, 9, (some FieldType.boolean), [])]
/-- a method by its number: name, code, room for locals, answer, handlers -/
def aMs : List (MethodName × ByteArray × Nat × Option FieldType × List (Nat × Nat × Nat × Nat)) := aMt0 ++ (aMt1 ++ (aMt2 ++ (aMt3 ++ (aMt4 ++ (aMt5 ++ (aMt6 ++ (aMt7)))))))
def aMt (y : Nat) : MethodName × ByteArray × Nat × Option FieldType × List (Nat × Nat × Nat × Nat) := aMs.getD y (yL_law, cL_law, 9, none, [])
/-- a word that stays true as the machine warms up -/
def aWarm (w : Cond) : Bool := goodWord w || match w with
  | .castable .. => true
  | .declares .. => true
  | .methodLinkNest .. => true
  | _ => false
def aIn (w : Cond) : Bool := decide (w ∈ lw_tbl) && aWarm w
abbrev aEx : List String := ["java/lang/IllegalArgumentException", "java/lang/IllegalStateException", "java/lang/IndexOutOfBoundsException", "java/util/NoSuchElementException", "java/lang/ArithmeticException", "java/lang/UnsupportedOperationException"]
/-- fields by the pools: class, place in its pool; class of the field, its place -/
def aPfs : List (Nat × Nat × Nat × Nat) := [(0, 9, 0, 0), (0, 15, 0, 1), (0, 18, 0, 2), (0, 21, 0, 3), (0, 24, 0, 4), (0, 27, 0, 5), (0, 31, 0, 6), (0, 34, 0, 7), (0, 37, 0, 8), (0, 40, 0, 9), (0, 43, 0, 10), (0, 46, 0, 11), (0, 49, 0, 12), (0, 52, 0, 13), (1, 11, 1, 0), (1, 17, 1, 1), (1, 21, 1, 2), (2, 9, 2, 0), (2, 13, 2, 1), (3, 11, 3, 0), (3, 15, 3, 1), (3, 19, 3, 2), (3, 22, 3, 3), (3, 26, 3, 4), (3, 29, 3, 5), (4, 9, 4, 0), (4, 15, 4, 1), (4, 19, 4, 2), (4, 22, 4, 3), (4, 26, 4, 4), (4, 29, 4, 5), (4, 32, 4, 6), (4, 35, 4, 7), (4, 38, 4, 8), (4, 47, 0, 4), (4, 50, 0, 7), (5, 12, 5, 0), (5, 20, 5, 1), (5, 24, 5, 2), (5, 28, 5, 3), (5, 32, 5, 4), (5, 35, 5, 5), (5, 38, 5, 6), (5, 53, 0, 0), (5, 56, 0, 1), (5, 59, 0, 4), (5, 66, 0, 5), (5, 70, 0, 6), (5, 73, 0, 7), (5, 80, 0, 8), (5, 83, 0, 9), (5, 86, 0, 10), (5, 89, 0, 11), (5, 92, 0, 12), (5, 95, 0, 13), (5, 98, 0, 2), (5, 101, 0, 3), (5, 111, 4, 0), (5, 134, 4, 7), (5, 156, 4, 8), (5, 162, 4, 5), (5, 168, 4, 6), (5, 171, 4, 1), (5, 185, 4, 3), (6, 10, 6, 0), (6, 16, 6, 1), (6, 19, 6, 2), (6, 22, 6, 3), (6, 29, 6, 4), (6, 33, 6, 5), (6, 40, 6, 6), (6, 47, 6, 7), (6, 51, 6, 8), (6, 55, 6, 9), (6, 97, 5, 0), (6, 101, 0, 4), (6, 110, 0, 7), (6, 116, 0, 8), (6, 122, 0, 9), (6, 129, 0, 2), (6, 132, 0, 3), (6, 135, 5, 3), (6, 141, 5, 4), (6, 144, 5, 5), (6, 147, 5, 6), (6, 174, 5, 2), (6, 181, 4, 1), (6, 186, 4, 0), (6, 192, 4, 3), (6, 199, 4, 5), (6, 202, 4, 6), (6, 205, 4, 7), (6, 208, 4, 8), (6, 246, 4, 2), (6, 254, 2, 1), (6, 257, 5, 1), (6, 266, 2, 0), (6, 270, 3, 1), (6, 297, 3, 2), (6, 304, 1, 2), (7, 9, 7, 0), (7, 13, 7, 1), (7, 16, 7, 2), (7, 19, 7, 3), (7, 22, 7, 5), (7, 25, 7, 7), (7, 29, 7, 8), (7, 32, 7, 10), (7, 35, 7, 12), (7, 38, 7, 14), (7, 42, 7, 15), (7, 45, 7, 16), (7, 48, 7, 9), (7, 57, 7, 6), (7, 213, 7, 13), (7, 223, 7, 11), (7, 226, 7, 18), (7, 229, 7, 19), (7, 232, 7, 20), (7, 255, 7, 17), (7, 271, 7, 4)]
def aPfW (q : Nat × Nat × Nat × Nat) : Cond := .fieldLink (aRn q.1) q.2.1 (aTX q.2.2.1 q.2.2.2).1 (aTX q.2.2.1 q.2.2.2).2.1 (aTX q.2.2.1 q.2.2.2).2.2.1
set_option maxRecDepth 100000 in
theorem aPfs_at : aPfs.map aPfW = [108, 110, 112, 115, 118, 122, 124, 126, 130, 133, 136, 138, 140, 142, 262, 263, 264, 279, 281, 295, 296, 298, 300, 301, 302, 181, 184, 187, 189, 192, 193, 196, 199, 202, 119, 127, 224, 226, 228, 230, 232, 234, 236, 109, 111, 120, 123, 125, 128, 131, 134, 137, 139, 141, 143, 113, 116, 182, 200, 203, 194, 197, 185, 190, 316, 317, 318, 319, 320, 321, 322, 323, 324, 325, 225, 121, 129, 132, 135, 114, 117, 231, 233, 235, 237, 229, 186, 183, 191, 195, 198, 201, 204, 188, 282, 227, 280, 297, 299, 265, 1260, 1261, 1262, 1263, 1265, 1267, 1268, 1270, 1272, 1274, 1275, 1276, 1269, 1266, 1273, 1271, 1278, 1279, 1280, 1277, 1264].filterMap (fun i => lw_tbl[i]?) := rfl
set_option maxRecDepth 100000 in
theorem aPfs_ok : aPfs.all (fun q => aWarm (aPfW q) && decide (q.2.2.2 < (aFl q.2.2.1).length) && decide (q.2.2.1 < 8)) = true := by decide +kernel
def aWd (y : Nat) : Cond := match (aMt y).2.2.2.2 with
  | [] => .code (aMt y).1 (aMt y).2.1 (aMt y).2.2.1 (aMt y).2.2.2.1
  | h => .codeWith (aMt y).1 (aMt y).2.1 (aMt y).2.2.1 (aMt y).2.2.2.1 h
def aObjW : List Cond := [.instanceMethod objectInit, .code objectInit ⟨#[0xb1]⟩ 1 none]
def aPmW (q : Nat × Nat × Nat × Nat) : List Cond :=
  let o := aRn q.1; let i := q.2.1; let y := q.2.2.2; let m := (aMt y).1
  match q.2.2.1 with
  | 0 => [.methodLink o i m, .instanceMethod m, .selects m.cls m m, .initialized m.cls, aWd y]
  | 1 => [.methodLink o i m, .static m, .initialized m.cls, aWd y]
  | 2 => [.methodLink o i objectInit, .instanceMethod objectInit, .code objectInit ⟨#[0xb1]⟩ 1 none]
  | 3 => [.methodLink o i m, .instanceMethod m, .initialized m.cls, aWd y]
  | 4 => [.methodLinkNest o i m "SheepdogTrial", .instanceMethod m, .initialized m.cls, aWd y]
  | 5 => [.methodLinkNest o i m "SheepdogTrial", .static m, .initialized m.cls, aWd y]
  | 6 => [.methodLink o i Lib.Math.max.name, .static Lib.Math.max.name, .initialized "java/lang/Math", .code Lib.Math.max.name Lib.Math.max.code 2 (some .int)]
  | 7 => [.methodLink o i Lib.Math.min.name, .static Lib.Math.min.name, .initialized "java/lang/Math", .code Lib.Math.min.name Lib.Math.min.code 2 (some .int)]
  | 8 => [.methodLink o i arraycopyName, .native arraycopyName, .static arraycopyName, .initialized "java/lang/System"]
  | _ => []
def aPmT (q : Nat × Nat × Nat × Nat) : Bool :=
  let y := q.2.2.2; let m := (aMt y).1
  match q.2.2.1 with
  | 0 | 1 | 3 | 4 | 5 => decide (m.cls ≠ "java/lang/invoke/MethodHandle") && decide (m.cls ≠ "java/lang/invoke/VarHandle") && plainName m.cls && decide ((aMt y).2.2.1 ≤ 40) && decide (q.2.2.1 = 1 → m.cls = aRn q.1) && decide (q.2.2.1 = 3 ∨ q.2.2.1 = 4 → m.name = "<init>" ∧ (aMt y).2.2.2.1 = none)
  | _ => true
def aPms0 : List (Nat × Nat × Nat × Nat) := [(0, 3, 2, 0), (0, 55, 8, 0), (0, 61, 0, 4), (0, 65, 0, 5), (0, 68, 0, 7), (0, 72, 6, 0), (0, 78, 7, 0), (0, 81, 1, 8), (0, 85, 1, 11), (1, 3, 2, 0), (1, 24, 3, 42), (1, 25, 0, 43), (1, 29, 7, 0), (2, 1, 2, 0), (2, 17, 0, 20), (2, 21, 0, 18), (3, 5, 2, 0), (3, 32, 0, 25), (3, 36, 1, 26), (3, 40, 0, 27), (3, 44, 6, 0), (3, 68, 9, 0), (3, 73, 10, 0), (3, 77, 0, 28), (3, 81, 0, 29), (3, 84, 7, 0), (3, 87, 5, 131), (3, 91, 0, 31), (3, 95, 0, 44), (3, 100, 0, 45)]
set_option maxRecDepth 100000 in
theorem aPms_at0 : aPms0.flatMap aPmW = [107, 94, 95, 451, 453, 452, 72, 750, 751, 752, 66, 753, 754, 755, 756, 66, 757, 831, 730, 731, 66, 732, 733, 702, 79, 703, 734, 599, 79, 600, 735, 736, 66, 737, 758, 759, 66, 760, 258, 94, 95, 261, 99, 65, 100, 597, 444, 445, 65, 446, 598, 599, 79, 600, 278, 94, 95, 433, 435, 1, 69, 436, 437, 426, 427, 69, 428, 294, 94, 95, 1097, 1099, 15, 70, 1100, 1101, 1102, 70, 1103, 1113, 1115, 16, 70, 1116, 1175, 702, 79, 703, 1165, 1167, 17, 70, 1168, 1171, 1173, 18, 70, 1174, 1169, 599, 79, 600, 1170, 480, 64, 481, 1185, 1187, 19, 70, 1188, 1189, 473, 474, 65, 475, 1190, 609, 610, 65, 611].filterMap (fun i => lw_tbl[i]?) := rfl
set_option maxRecDepth 100000 in
theorem aPms_ok0 : aPms0.all (fun q => (aPmW q).all aWarm && aPmT q) = true := by decide +kernel
def aPms1 : List (Nat × Nat × Nat × Nat) := [(3, 104, 0, 46), (3, 108, 0, 48), (3, 112, 0, 47), (3, 115, 0, 49), (3, 118, 0, 50), (3, 121, 0, 51), (3, 124, 0, 52), (4, 3, 2, 0), (4, 41, 8, 0), (4, 53, 7, 0), (4, 59, 0, 37), (4, 62, 0, 39), (5, 3, 2, 0), (5, 11, 4, 0), (5, 41, 4, 32), (5, 42, 0, 1), (5, 46, 0, 33), (5, 49, 5, 130), (5, 62, 5, 131), (5, 76, 0, 2), (5, 104, 0, 34), (5, 107, 0, 59), (5, 114, 0, 55), (5, 118, 0, 53), (5, 122, 0, 56), (5, 125, 0, 10), (5, 128, 0, 57), (5, 131, 0, 37), (5, 137, 0, 38), (5, 141, 0, 54)]
set_option maxRecDepth 100000 in
theorem aPms_at1 : aPms1.flatMap aPmW = [1191, 642, 643, 65, 644, 1192, 668, 669, 65, 670, 1193, 657, 658, 65, 659, 1194, 679, 680, 65, 681, 1195, 694, 695, 65, 696, 1196, 782, 783, 65, 784, 1197, 793, 794, 65, 795, 180, 94, 95, 458, 453, 452, 72, 716, 599, 79, 600, 712, 713, 714, 67, 715, 395, 396, 397, 67, 398, 101, 94, 95, 104, 105, 66, 106, 177, 178, 67, 179, 447, 448, 449, 66, 450, 454, 455, 456, 67, 457, 476, 477, 64, 478, 612, 480, 64, 481, 645, 646, 647, 66, 648, 682, 683, 684, 67, 685, 697, 699, 5, 65, 700, 704, 706, 6, 65, 707, 717, 718, 719, 65, 720, 742, 744, 7, 65, 745, 762, 763, 764, 66, 765, 766, 768, 8, 65, 769, 761, 713, 714, 67, 715, 708, 709, 710, 67, 711, 721, 722, 723, 65, 724].filterMap (fun i => lw_tbl[i]?) := rfl
set_option maxRecDepth 100000 in
theorem aPms_ok1 : aPms1.all (fun q => (aPmW q).all aWarm && aPmT q) = true := by decide +kernel
def aPms2 : List (Nat × Nat × Nat × Nat) := [(5, 145, 0, 7), (5, 149, 0, 36), (5, 153, 0, 35), (5, 159, 0, 9), (5, 165, 0, 58), (5, 174, 6, 0), (5, 179, 0, 41), (5, 182, 0, 61), (5, 188, 0, 39), (5, 191, 0, 3), (5, 192, 0, 40), (5, 195, 0, 60), (6, 1, 2, 0), (6, 9, 3, 42), (6, 28, 3, 12), (6, 39, 4, 16), (6, 46, 4, 21), (6, 58, 0, 121), (6, 62, 0, 44), (6, 66, 0, 122), (6, 70, 0, 45), (6, 74, 0, 46), (6, 78, 0, 47), (6, 81, 0, 48), (6, 84, 0, 49), (6, 88, 0, 50), (6, 91, 0, 51), (6, 94, 0, 52), (6, 106, 0, 124), (6, 113, 0, 3)]
set_option maxRecDepth 100000 in
theorem aPms_at2 : aPms2.flatMap aPmW = [729, 730, 731, 66, 732, 738, 739, 740, 67, 741, 725, 726, 727, 67, 728, 746, 747, 748, 66, 749, 770, 772, 9, 65, 773, 701, 702, 79, 703, 391, 392, 393, 67, 394, 387, 389, 0, 65, 390, 407, 396, 397, 67, 398, 408, 356, 357, 66, 358, 409, 410, 411, 67, 412, 413, 414, 415, 65, 416, 93, 94, 95, 98, 99, 65, 100, 255, 256, 68, 257, 275, 276, 69, 277, 291, 292, 70, 293, 468, 470, 2, 64, 471, 472, 473, 474, 65, 475, 482, 484, 3, 64, 485, 608, 609, 610, 65, 611, 641, 642, 643, 65, 644, 656, 657, 658, 65, 659, 667, 668, 669, 65, 670, 678, 679, 680, 65, 681, 693, 694, 695, 65, 696, 781, 782, 783, 65, 784, 792, 793, 794, 65, 795, 803, 805, 10, 64, 806, 355, 356, 357, 66, 358].filterMap (fun i => lw_tbl[i]?) := rfl
set_option maxRecDepth 100000 in
theorem aPms_ok2 : aPms2.all (fun q => (aPmW q).all aWarm && aPmT q) = true := by decide +kernel
def aPms3 : List (Nat × Nat × Nat × Nat) := [(6, 119, 0, 125), (6, 125, 0, 6), (6, 138, 0, 128), (6, 150, 0, 54), (6, 160, 1, 129), (6, 164, 0, 53), (6, 167, 0, 9), (6, 171, 1, 123), (6, 177, 0, 127), (6, 189, 0, 35), (6, 195, 0, 39), (6, 196, 0, 40), (6, 213, 0, 63), (6, 217, 0, 126), (6, 220, 0, 62), (6, 225, 0, 64), (6, 231, 0, 65), (6, 234, 0, 66), (6, 237, 0, 67), (6, 240, 0, 17), (6, 243, 0, 19), (6, 247, 0, 18), (6, 251, 0, 60), (6, 276, 0, 22), (6, 279, 0, 24), (6, 282, 0, 23), (6, 288, 0, 30), (6, 309, 0, 14), (6, 313, 0, 43), (6, 318, 0, 15)]
set_option maxRecDepth 100000 in
theorem aPms_at3 : aPms3.flatMap aPmW = [815, 817, 11, 64, 818, 827, 828, 829, 66, 830, 839, 841, 12, 64, 842, 866, 722, 723, 65, 724, 890, 891, 64, 892, 895, 718, 719, 65, 720, 903, 747, 748, 66, 749, 486, 487, 64, 488, 918, 920, 13, 64, 921, 941, 726, 727, 67, 728, 438, 396, 397, 67, 398, 963, 410, 411, 67, 412, 383, 384, 385, 65, 386, 922, 924, 14, 64, 925, 399, 400, 401, 65, 402, 1015, 1016, 1017, 65, 1018, 1042, 1043, 1044, 65, 1045, 1053, 1054, 1055, 65, 1056, 403, 404, 405, 65, 406, 421, 422, 423, 69, 424, 429, 430, 431, 69, 432, 425, 426, 427, 69, 428, 1064, 414, 415, 65, 416, 1081, 1082, 1083, 70, 1084, 1093, 1094, 1095, 70, 1096, 1176, 1177, 1178, 70, 1179, 1181, 1182, 1183, 70, 1184, 1238, 1239, 1240, 68, 1241, 443, 444, 445, 65, 446, 1250, 1251, 1252, 68, 1253].filterMap (fun i => lw_tbl[i]?) := rfl
set_option maxRecDepth 100000 in
theorem aPms_ok3 : aPms3.all (fun q => (aPmW q).all aWarm && aPmT q) = true := by decide +kernel
def aPms4 : List (Nat × Nat × Nat × Nat) := [(6, 319, 0, 13), (6, 328, 0, 2), (6, 337, 1, 130), (6, 343, 1, 131), (7, 1, 2, 0), (7, 53, 1, 135), (7, 60, 1, 139), (7, 64, 7, 0), (7, 70, 6, 0), (7, 73, 1, 146), (7, 77, 1, 147), (7, 81, 1, 140), (7, 84, 1, 148), (7, 88, 1, 145), (7, 91, 1, 150), (7, 94, 1, 136), (7, 98, 0, 134), (7, 101, 0, 152), (7, 105, 0, 137), (7, 108, 0, 153), (7, 111, 0, 138), (7, 116, 0, 155), (7, 120, 0, 142), (7, 124, 0, 157), (7, 128, 0, 159), (7, 132, 1, 141), (7, 135, 0, 162), (7, 139, 0, 164), (7, 142, 0, 166), (7, 145, 0, 149)]
set_option maxRecDepth 100000 in
theorem aPms_at4 : aPms4.flatMap aPmW = [593, 594, 595, 68, 596, 807, 646, 647, 66, 648, 893, 477, 64, 478, 479, 480, 64, 481, 1259, 94, 95, 1344, 1345, 71, 1346, 1368, 1369, 71, 1370, 1426, 599, 79, 600, 1452, 702, 79, 703, 1443, 1444, 71, 1445, 1449, 1450, 71, 1451, 1383, 1384, 71, 1385, 1446, 1447, 71, 1448, 1457, 1458, 71, 1459, 1460, 1461, 71, 1462, 1340, 1341, 71, 1342, 1347, 1349, 22, 71, 1350, 1351, 1353, 23, 71, 1354, 1332, 1334, 20, 71, 1335, 1336, 1338, 21, 71, 1339, 1355, 1357, 24, 71, 1358, 1363, 1365, 25, 71, 1366, 1379, 1381, 27, 71, 1382, 1375, 1377, 26, 71, 1378, 1390, 1392, 28, 71, 1393, 1406, 1407, 71, 1408, 1402, 1404, 29, 71, 1405, 1422, 1424, 32, 71, 1425, 1435, 1437, 35, 71, 1438, 1439, 1441, 36, 71, 1442].filterMap (fun i => lw_tbl[i]?) := rfl
set_option maxRecDepth 100000 in
theorem aPms_ok4 : aPms4.all (fun q => (aPmW q).all aWarm && aPmT q) = true := by decide +kernel
def aPms5 : List (Nat × Nat × Nat × Nat) := [(7, 149, 0, 168), (7, 154, 0, 165), (7, 157, 0, 167), (7, 160, 0, 151), (7, 163, 0, 169), (7, 166, 0, 170), (7, 171, 0, 172), (7, 174, 0, 174), (7, 177, 0, 176), (7, 180, 0, 143), (7, 183, 0, 186), (7, 186, 0, 191), (7, 189, 0, 144), (7, 192, 0, 196), (7, 195, 0, 199), (7, 198, 0, 202), (7, 201, 0, 203), (7, 204, 0, 209), (7, 207, 0, 210), (7, 210, 0, 211), (7, 216, 0, 218), (7, 220, 0, 219), (7, 236, 0, 224), (7, 243, 0, 226), (7, 246, 0, 225), (7, 249, 0, 227), (7, 252, 0, 228), (7, 258, 0, 229), (7, 261, 0, 230), (7, 265, 0, 231)]
set_option maxRecDepth 100000 in
theorem aPms_at5 : aPms5.flatMap aPmW = [1427, 1429, 33, 71, 1430, 1418, 1420, 31, 71, 1421, 1431, 1433, 34, 71, 1434, 1453, 1455, 37, 71, 1456, 1463, 1465, 38, 71, 1466, 1413, 1415, 30, 71, 1416, 1471, 1473, 39, 71, 1474, 1480, 1482, 40, 71, 1483, 1488, 1490, 41, 71, 1491, 1508, 1510, 42, 71, 1511, 1532, 1534, 43, 71, 1535, 1552, 1554, 44, 71, 1555, 1576, 1578, 46, 71, 1579, 1572, 1574, 45, 71, 1575, 1588, 1590, 47, 71, 1591, 1600, 1602, 48, 71, 1603, 1608, 1597, 1598, 71, 1599, 1637, 1639, 51, 71, 1640, 1633, 1635, 50, 71, 1636, 1629, 1631, 49, 71, 1632, 1669, 1671, 53, 71, 1672, 1665, 1667, 52, 71, 1668, 1709, 1711, 59, 71, 1712, 1705, 1707, 58, 71, 1708, 1719, 1721, 61, 71, 1722, 1701, 1703, 57, 71, 1704, 1715, 1717, 60, 71, 1718, 1693, 1695, 55, 71, 1696, 1697, 1699, 56, 71, 1700, 1689, 1691, 54, 71, 1692].filterMap (fun i => lw_tbl[i]?) := rfl
set_option maxRecDepth 100000 in
theorem aPms_ok5 : aPms5.all (fun q => (aPmW q).all aWarm && aPmT q) = true := by decide +kernel
def aPms6 : List (Nat × Nat × Nat × Nat) := [(7, 268, 0, 232), (8, 7, 0, 69), (8, 17, 0, 70), (8, 21, 0, 71), (8, 27, 0, 72), (8, 31, 0, 73), (8, 34, 0, 74), (8, 38, 0, 75), (8, 41, 0, 76), (8, 44, 0, 77), (8, 47, 0, 79), (8, 50, 0, 82), (8, 53, 0, 83), (8, 57, 0, 87), (8, 60, 0, 88), (8, 63, 0, 89), (8, 66, 0, 90), (8, 71, 0, 91), (8, 74, 0, 92), (8, 78, 0, 93), (8, 81, 0, 95), (8, 84, 0, 96), (8, 87, 0, 97), (8, 90, 0, 98), (8, 93, 0, 99), (8, 96, 0, 100), (8, 99, 0, 101), (8, 102, 0, 102), (8, 105, 0, 103), (8, 108, 0, 104)]
set_option maxRecDepth 100000 in
theorem aPms_at6 : aPms6.flatMap aPmW = [1723, 1725, 62, 71, 1726, 464, 465, 466, 64, 467, 604, 605, 606, 64, 607, 637, 638, 639, 64, 640, 652, 653, 654, 64, 655, 663, 664, 665, 64, 666, 674, 675, 676, 64, 677, 689, 690, 691, 64, 692, 777, 778, 779, 64, 780, 788, 789, 790, 64, 791, 799, 800, 801, 64, 802, 811, 812, 813, 64, 814, 823, 824, 825, 64, 826, 835, 836, 837, 64, 838, 847, 848, 849, 64, 850, 854, 855, 856, 64, 857, 862, 863, 864, 64, 865, 886, 887, 888, 64, 889, 899, 900, 901, 64, 902, 907, 908, 909, 64, 910, 914, 915, 916, 64, 917, 930, 931, 932, 64, 933, 937, 938, 939, 64, 940, 945, 946, 947, 64, 948, 952, 953, 954, 64, 955, 959, 960, 961, 64, 962, 967, 968, 969, 64, 970, 974, 975, 976, 64, 977, 981, 982, 983, 64, 984, 988, 989, 990, 64, 991].filterMap (fun i => lw_tbl[i]?) := rfl
set_option maxRecDepth 100000 in
theorem aPms_ok6 : aPms6.all (fun q => (aPmW q).all aWarm && aPmT q) = true := by decide +kernel
def aPms7 : List (Nat × Nat × Nat × Nat) := [(8, 111, 0, 105), (8, 114, 0, 106), (8, 117, 0, 107), (8, 120, 0, 108), (8, 126, 0, 109), (8, 130, 0, 111), (8, 133, 0, 113), (8, 137, 0, 114), (8, 141, 0, 115), (8, 146, 0, 116), (8, 149, 0, 117), (8, 152, 0, 118), (8, 155, 0, 120), (8, 158, 3, 68), (8, 161, 3, 132), (8, 162, 1, 239), (8, 167, 0, 154), (8, 168, 0, 133), (8, 171, 1, 240), (8, 174, 0, 156), (8, 175, 1, 241), (8, 178, 0, 158), (8, 179, 1, 242), (8, 182, 0, 160), (8, 183, 1, 243), (8, 185, 0, 161), (8, 186, 1, 244), (8, 189, 0, 163), (8, 190, 1, 245), (8, 192, 0, 171)]
set_option maxRecDepth 100000 in
theorem aPms_at7 : aPms7.flatMap aPmW = [995, 996, 997, 64, 998, 1003, 1004, 1005, 64, 1006, 1010, 1011, 1012, 64, 1013, 1036, 1037, 1038, 64, 1039, 1049, 1050, 1051, 64, 1052, 1060, 1061, 1062, 64, 1063, 1068, 1069, 1070, 64, 1071, 1076, 1077, 1078, 64, 1079, 1089, 1090, 1091, 64, 1092, 1217, 1218, 1219, 64, 1220, 1225, 1226, 1227, 64, 1228, 1233, 1234, 1235, 64, 1236, 1245, 1246, 1247, 64, 1248, 90, 91, 64, 92, 1256, 1257, 71, 1258, 459, 460, 63, 461, 1328, 1329, 1330, 71, 1331, 1324, 1325, 1326, 71, 1327, 601, 602, 63, 603, 1359, 1360, 1361, 71, 1362, 613, 614, 63, 615, 1371, 1372, 1373, 71, 1374, 649, 650, 63, 651, 1386, 1387, 1388, 71, 1389, 660, 661, 63, 662, 1394, 1395, 1396, 71, 1397, 671, 672, 63, 673, 1398, 1399, 1400, 71, 1401, 686, 687, 63, 688, 1409, 1410, 1411, 71, 1412].filterMap (fun i => lw_tbl[i]?) := rfl
set_option maxRecDepth 100000 in
theorem aPms_ok7 : aPms7.all (fun q => (aPmW q).all aWarm && aPmT q) = true := by decide +kernel
def aPms8 : List (Nat × Nat × Nat × Nat) := [(8, 193, 1, 246), (8, 195, 0, 173), (8, 196, 1, 247), (8, 198, 0, 175), (8, 199, 0, 78), (8, 202, 0, 177), (8, 203, 1, 248), (8, 205, 0, 178), (8, 206, 0, 80), (8, 209, 0, 179), (8, 210, 0, 81), (8, 213, 0, 180), (8, 214, 1, 249), (8, 216, 0, 181), (8, 217, 1, 250), (8, 219, 0, 182), (8, 220, 0, 84), (8, 223, 0, 183), (8, 224, 0, 85), (8, 227, 0, 184), (8, 228, 0, 86), (8, 232, 0, 185), (8, 233, 1, 251), (8, 235, 0, 187), (8, 236, 1, 252), (8, 238, 0, 188), (8, 239, 1, 253), (8, 241, 0, 189), (8, 242, 1, 254), (8, 244, 0, 190)]
set_option maxRecDepth 100000 in
theorem aPms_at8 : aPms8.flatMap aPmW = [774, 775, 63, 776, 1467, 1468, 1469, 71, 1470, 785, 786, 63, 787, 1476, 1477, 1478, 71, 1479, 347, 348, 349, 64, 350, 1484, 1485, 1486, 71, 1487, 796, 797, 63, 798, 1492, 1493, 1494, 71, 1495, 351, 352, 353, 64, 354, 1496, 1497, 1498, 71, 1499, 359, 360, 361, 64, 362, 1500, 1501, 1502, 71, 1503, 808, 809, 63, 810, 1504, 1505, 1506, 71, 1507, 820, 821, 63, 822, 1512, 1513, 1514, 71, 1515, 363, 364, 365, 64, 366, 1516, 1517, 1518, 71, 1519, 367, 368, 369, 64, 370, 1520, 1521, 1522, 71, 1523, 371, 372, 373, 64, 374, 1524, 1525, 1526, 71, 1527, 832, 833, 63, 834, 1528, 1529, 1530, 71, 1531, 844, 845, 63, 846, 1536, 1537, 1538, 71, 1539, 851, 852, 63, 853, 1540, 1541, 1542, 71, 1543, 858, 859, 63, 860, 1544, 1545, 1546, 71, 1547].filterMap (fun i => lw_tbl[i]?) := rfl
set_option maxRecDepth 100000 in
theorem aPms_ok8 : aPms8.all (fun q => (aPmW q).all aWarm && aPmT q) = true := by decide +kernel
def aPms9 : List (Nat × Nat × Nat × Nat) := [(8, 245, 1, 255), (8, 247, 0, 192), (8, 248, 1, 256), (8, 250, 0, 193), (8, 251, 1, 257), (8, 253, 0, 194), (8, 254, 0, 94), (8, 257, 0, 195), (8, 258, 1, 258), (8, 260, 0, 197), (8, 261, 1, 259), (8, 263, 0, 198), (8, 264, 1, 260), (8, 266, 0, 200), (8, 267, 1, 261), (8, 269, 0, 201), (8, 270, 1, 262), (8, 272, 0, 203), (8, 273, 1, 263), (8, 275, 0, 204), (8, 276, 1, 264), (8, 278, 0, 205), (8, 279, 1, 265), (8, 281, 0, 206), (8, 282, 1, 266), (8, 284, 0, 207), (8, 285, 1, 267), (8, 287, 0, 208), (8, 288, 1, 268), (8, 290, 0, 212)]
set_option maxRecDepth 100000 in
theorem aPms_at9 : aPms9.flatMap aPmW = [883, 884, 63, 885, 1548, 1549, 1550, 71, 1551, 896, 897, 63, 898, 1556, 1557, 1558, 71, 1559, 904, 905, 63, 906, 1560, 1561, 1562, 71, 1563, 375, 376, 377, 64, 378, 1564, 1565, 1566, 71, 1567, 911, 912, 63, 913, 1568, 1569, 1570, 71, 1571, 927, 928, 63, 929, 1580, 1581, 1582, 71, 1583, 934, 935, 63, 936, 1584, 1585, 1586, 71, 1587, 942, 943, 63, 944, 1592, 1593, 1594, 71, 1595, 949, 950, 63, 951, 1596, 1597, 1598, 71, 1599, 956, 957, 63, 958, 1604, 1605, 1606, 71, 1607, 964, 965, 63, 966, 1609, 1610, 1611, 71, 1612, 971, 972, 63, 973, 1613, 1614, 1615, 71, 1616, 978, 979, 63, 980, 1617, 1618, 1619, 71, 1620, 985, 986, 63, 987, 1621, 1622, 1623, 71, 1624, 992, 993, 63, 994, 1625, 1626, 1627, 71, 1628].filterMap (fun i => lw_tbl[i]?) := rfl
set_option maxRecDepth 100000 in
theorem aPms_ok9 : aPms9.all (fun q => (aPmW q).all aWarm && aPmT q) = true := by decide +kernel
def aPms10 : List (Nat × Nat × Nat × Nat) := [(8, 291, 1, 269), (8, 293, 0, 213), (8, 294, 1, 270), (8, 296, 0, 214), (8, 297, 1, 271), (8, 300, 0, 215), (8, 301, 1, 272), (8, 304, 0, 216), (8, 305, 0, 110), (8, 308, 0, 217), (8, 309, 1, 273), (8, 311, 0, 220), (8, 312, 0, 112), (8, 315, 0, 221), (8, 316, 1, 274), (8, 318, 0, 222), (8, 319, 1, 275), (8, 322, 0, 223), (8, 323, 1, 276), (8, 325, 0, 233), (8, 326, 1, 277), (8, 328, 0, 234), (8, 329, 1, 278), (8, 331, 0, 235), (8, 332, 1, 279), (8, 334, 0, 236), (8, 335, 0, 119), (8, 338, 0, 237), (8, 339, 1, 280), (8, 341, 0, 238)]
set_option maxRecDepth 100000 in
theorem aPms_at10 : aPms10.flatMap aPmW = [1000, 1001, 63, 1002, 1641, 1642, 1643, 71, 1644, 1007, 1008, 63, 1009, 1645, 1646, 1647, 71, 1648, 1019, 1020, 63, 1021, 1649, 1650, 1651, 71, 1652, 1046, 1047, 63, 1048, 1653, 1654, 1655, 71, 1656, 379, 380, 381, 64, 382, 1657, 1658, 1659, 71, 1660, 1057, 1058, 63, 1059, 1661, 1662, 1663, 71, 1664, 417, 418, 419, 64, 420, 1673, 1674, 1675, 71, 1676, 1065, 1066, 63, 1067, 1677, 1678, 1679, 71, 1680, 1073, 1074, 63, 1075, 1681, 1682, 1683, 71, 1684, 1085, 1086, 63, 1087, 1685, 1686, 1687, 71, 1688, 1214, 1215, 63, 1216, 1727, 1728, 1729, 71, 1730, 1222, 1223, 63, 1224, 1731, 1732, 1733, 71, 1734, 1230, 1231, 63, 1232, 1735, 1736, 1737, 71, 1738, 439, 440, 441, 64, 442, 1739, 1740, 1741, 71, 1742, 1242, 1243, 63, 1244, 1743, 1744, 1745, 71, 1746].filterMap (fun i => lw_tbl[i]?) := rfl
set_option maxRecDepth 100000 in
theorem aPms_ok10 : aPms10.all (fun q => (aPmW q).all aWarm && aPmT q) = true := by decide +kernel
def aPms : List (Nat × Nat × Nat × Nat) := aPms0 ++ (aPms1 ++ (aPms2 ++ (aPms3 ++ (aPms4 ++ (aPms5 ++ (aPms6 ++ (aPms7 ++ (aPms8 ++ (aPms9 ++ (aPms10))))))))))
theorem aPms_in : ∀ q ∈ aPms, (∀ w ∈ aPmW q, w ∈ lw_tbl ∧ aWarm w = true) ∧ aPmT q = true := by
  have key : ∀ (l : List (Nat × Nat × Nat × Nat)) (ps : List Nat), l.flatMap aPmW = ps.filterMap (fun i => lw_tbl[i]?) → l.all (fun q => (aPmW q).all aWarm && aPmT q) = true → ∀ q ∈ l, (∀ w ∈ aPmW q, w ∈ lw_tbl ∧ aWarm w = true) ∧ aPmT q = true := by
    intro l ps h1 h2 q hq
    have h3 := List.all_eq_true.mp h2 q hq
    rw [Bool.and_eq_true] at h3
    refine ⟨fun w hw => ⟨?_, List.all_eq_true.mp h3.1 w hw⟩, h3.2⟩
    have h4 : w ∈ l.flatMap aPmW := List.mem_flatMap.mpr ⟨q, hq, hw⟩
    rw [h1] at h4
    obtain ⟨i, -, hi⟩ := List.mem_filterMap.mp h4
    exact List.mem_of_getElem? hi
  unfold aPms
  simp only [List.forall_mem_append]
  exact ⟨key _ _ aPms_at0 aPms_ok0, ⟨key _ _ aPms_at1 aPms_ok1, ⟨key _ _ aPms_at2 aPms_ok2, ⟨key _ _ aPms_at3 aPms_ok3, ⟨key _ _ aPms_at4 aPms_ok4, ⟨key _ _ aPms_at5 aPms_ok5, ⟨key _ _ aPms_at6 aPms_ok6, ⟨key _ _ aPms_at7 aPms_ok7, ⟨key _ _ aPms_at8 aPms_ok8, ⟨key _ _ aPms_at9 aPms_ok9, key _ _ aPms_at10 aPms_ok10⟩⟩⟩⟩⟩⟩⟩⟩⟩⟩
/-- classes by the pools -/
def aPcs : List (Nat × Nat × Nat) := [(1, 9, 5), (5, 9, 0), (5, 18, 4), (6, 7, 5), (6, 26, 1), (6, 37, 2), (6, 44, 3), (8, 8, 6), (8, 159, 7)]
set_option maxRecDepth 100000 in
theorem aPcs_ok : aPcs.all (fun q => aIn (.classLink (aRn q.1) q.2.1 (aRn q.2.2)) && aIn (.instantiable (aRn q.2.2) (aFl q.2.2).length) && aIn (.initialized (aRn q.2.2))) = true := by decide +kernel
/-- the throws: class, which exception, its text, places in the pool of the exception, the text, the constructor; the length of the text's row -/
def aThs : List (Nat × Nat × String × Nat × Nat × Nat × Nat) := [(6, 3, "every gate of the present leg is passed", 153, 155, 157, 2), (6, 3, "there is no such rank", 153, 211, 157, 2), (6, 3, "there are no runs", 153, 223, 157, 2), (6, 4, "there are no runs", 228, 223, 230, 2), (6, 4, "there are no runs", 228, 223, 230, 2), (6, 2, "the output line has no such index", 261, 263, 265, 3), (6, 1, "the program buffer is full", 271, 273, 275, 3), (6, 0, "the text is not a program", 283, 285, 287, 3), (6, 5, "a command failed", 292, 294, 296, 3), (6, 3, "every text was a program", 153, 300, 157, 3), (6, 3, "no command failed", 153, 302, 157, 3), (6, 1, "no change can be undone", 271, 307, 275, 3), (6, 1, "no state was saved", 271, 316, 275, 3), (6, 2, "there is no such leg", 261, 322, 265, 3), (6, 0, "an argument is out of range", 283, 324, 287, 3), (6, 1, "the state of the trial forbids this", 271, 326, 275, 3), (6, 2, "there is no such leg", 261, 322, 265, 3), (6, 2, "there is no such gate", 261, 331, 265, 3), (6, 2, "there is no such run", 261, 333, 265, 3), (6, 1, "no run is going on", 271, 335, 275, 3), (6, 0, "a coordinate is out of range", 283, 341, 287, 3)]
abbrev aUp : List String := ["java/lang/RuntimeException", "java/lang/Exception"]
def aThW (q : Nat × Nat × String × Nat × Nat × Nat × Nat) : List Cond := let o := aRn q.1; let x := aEx.getD q.2.1 ""
  Cond.classLink o q.2.2.2.1 x :: Cond.initialized x :: vx_atS o q.2.2.2.2.2.1 x aUp
set_option maxRecDepth 100000 in
theorem aTh4_at : aThW (6, 4, "", 228, 0, 230, 0) = [1040, 83, 73, 511, 520, 528, 531, 533, 512, 513, 94, 95, 514, 519, 529, 549, 501, 550, 503, 551, 505, 515, 517, 507, 545, 546, 548, 507, 1024, 1025, 1026, 539, 493, 539, 540, 541, 542, 495, 542, 543, 544, 545, 497, 1041, 1023, 1034, 1035, 522, 1029, 1030, 1032, 1028, 510, 509, 1027].filterMap (fun i => lw_tbl[i]?) := by decide +kernel
set_option maxRecDepth 100000 in
theorem aTh4_ok : (aThW (6, 4, "", 228, 0, 230, 0)).all (fun w => aWarm w && vx_ot w) = true := by decide +kernel
set_option maxRecDepth 100000 in
theorem aTh2_at : aThW (6, 2, "", 261, 0, 265, 0) = [489, 76, 73, 511, 520, 528, 531, 533, 512, 513, 94, 95, 514, 519, 529, 549, 501, 550, 503, 551, 505, 515, 517, 507, 545, 546, 548, 507, 536, 537, 538, 539, 493, 539, 540, 541, 542, 495, 542, 543, 544, 545, 497, 535, 490, 491, 498, 499, 500, 502, 504, 506, 510, 509, 508].filterMap (fun i => lw_tbl[i]?) := by decide +kernel
set_option maxRecDepth 100000 in
theorem aTh2_ok : (aThW (6, 2, "", 261, 0, 265, 0)).all (fun w => aWarm w && vx_ot w) = true := by decide +kernel
set_option maxRecDepth 100000 in
theorem aTh1_at : aThW (6, 1, "", 271, 0, 275, 0) = [577, 78, 73, 511, 520, 528, 531, 533, 512, 513, 94, 95, 514, 519, 529, 549, 501, 550, 503, 551, 505, 515, 517, 507, 545, 546, 548, 507, 588, 589, 590, 539, 493, 539, 540, 541, 542, 495, 542, 543, 544, 545, 497, 587, 578, 579, 580, 525, 581, 582, 583, 584, 510, 509, 585].filterMap (fun i => lw_tbl[i]?) := by decide +kernel
set_option maxRecDepth 100000 in
theorem aTh1_ok : (aThW (6, 1, "", 271, 0, 275, 0)).all (fun w => aWarm w && vx_ot w) = true := by decide +kernel
set_option maxRecDepth 100000 in
theorem aTh0_at : aThW (6, 0, "", 283, 0, 287, 0) = [561, 77, 73, 511, 520, 528, 531, 533, 512, 513, 94, 95, 514, 519, 529, 549, 501, 550, 503, 551, 505, 515, 517, 507, 545, 546, 548, 507, 572, 573, 574, 539, 493, 539, 540, 541, 542, 495, 542, 543, 544, 545, 497, 571, 562, 563, 564, 524, 565, 566, 567, 568, 510, 509, 569].filterMap (fun i => lw_tbl[i]?) := by decide +kernel
set_option maxRecDepth 100000 in
theorem aTh0_ok : (aThW (6, 0, "", 283, 0, 287, 0)).all (fun w => aWarm w && vx_ot w) = true := by decide +kernel
set_option maxRecDepth 100000 in
theorem aTh5_at : aThW (6, 5, "", 292, 0, 296, 0) = [1198, 87, 73, 511, 520, 528, 531, 533, 512, 513, 94, 95, 514, 519, 529, 549, 501, 550, 503, 551, 505, 515, 517, 507, 545, 546, 548, 507, 1209, 1210, 1211, 539, 493, 539, 540, 541, 542, 495, 542, 543, 544, 545, 497, 1208, 1199, 1200, 1201, 526, 1202, 1203, 1204, 1205, 510, 509, 1206].filterMap (fun i => lw_tbl[i]?) := by decide +kernel
set_option maxRecDepth 100000 in
theorem aTh5_ok : (aThW (6, 5, "", 292, 0, 296, 0)).all (fun w => aWarm w && vx_ot w) = true := by decide +kernel
theorem aUp_ok : ∀ n ∈ aUp, Bundle.fit n = true := by decide +kernel
set_option maxRecDepth 100000 in
theorem aTh_str : aThs.all (fun q => decide (Cond.stringRef (aRn q.1) q.2.2.2.2.1 q.2.2.1 ∈ lw_tbl)) = true := by decide +kernel
/-- the texts that a walk may hold: place in the pool of Program, the text -/
def aPts : List (Nat × String) := [(50, "start #,#"), (52, "leg #,#=#"), (54, "gate ? #,#-#,#"), (56, "limit #"), (58, "width #"), (60, "run"), (62, "walk #,#+#"), (64, "fault ?"), (66, "retire")]
/-- the long constants: class, place, number -/
def aLcs : List (Nat × Nat × Int) := [(7, 51, 99), (7, 114, 30), (7, 152, 999), (7, 169, 9), (7, 239, 48), (7, 241, 57)]
set_option maxRecDepth 100000 in
theorem aLcs_ok : aLcs.all (fun q => aIn (.constantLong (aRn q.1) q.2.1 (Int64.ofInt q.2.2))) = true := by decide +kernel
set_option maxRecDepth 100000 in
theorem aInX0_at : wsX00 = [144, 146, 148, 150, 152, 154, 156, 158, 160, 162, 164, 166, 168, 170].filterMap (fun i => lw_tbl[i]?) := rfl
theorem aInX0_ok : wsX00.all aWarm = true := by decide +kernel
set_option maxRecDepth 100000 in
theorem aInX1_at : wsX10 = [266, 268, 270].filterMap (fun i => lw_tbl[i]?) := rfl
theorem aInX1_ok : wsX10.all aWarm = true := by decide +kernel
set_option maxRecDepth 100000 in
theorem aInX2_at : wsX20 = [283, 285].filterMap (fun i => lw_tbl[i]?) := rfl
theorem aInX2_ok : wsX20.all aWarm = true := by decide +kernel
set_option maxRecDepth 100000 in
theorem aInX3_at : wsX30 = [303, 305, 307, 309, 311, 313].filterMap (fun i => lw_tbl[i]?) := rfl
theorem aInX3_ok : wsX30.all aWarm = true := by decide +kernel
set_option maxRecDepth 100000 in
theorem aInX4_at : wsX40 = [205, 207, 209, 211, 213, 215, 217, 219, 221].filterMap (fun i => lw_tbl[i]?) := rfl
theorem aInX4_ok : wsX40.all aWarm = true := by decide +kernel
set_option maxRecDepth 100000 in
theorem aInX5_at : wsX50 = [238, 240, 242, 244, 246, 248, 250].filterMap (fun i => lw_tbl[i]?) := rfl
theorem aInX5_ok : wsX50.all aWarm = true := by decide +kernel
set_option maxRecDepth 100000 in
theorem aInX6_at : wsX60 = [326, 328, 330, 332, 334, 336, 338, 340, 342, 344].filterMap (fun i => lw_tbl[i]?) := rfl
theorem aInX6_ok : wsX60.all aWarm = true := by decide +kernel
set_option maxRecDepth 100000 in
theorem aInX7_at : wsX70 = [1281, 1283, 1285, 1287, 1289, 1291, 1293, 1295, 1297, 1299, 1301, 1303, 1305, 1307, 1309, 1311, 1313, 1315, 1317, 1319, 1321].filterMap (fun i => lw_tbl[i]?) := rfl
theorem aInX7_ok : wsX70.all aWarm = true := by decide +kernel
end
section
-- printed by wip/whole/gen.py: which class a method is of
def aMc (y : Nat) : Nat :=
  match Nat.blt y 12 with
  | true => 0
  | false =>
  match Nat.blt y 16 with
  | true => 1
  | false =>
  match Nat.blt y 21 with
  | true => 2
  | false =>
  match Nat.blt y 32 with
  | true => 3
  | false =>
  match Nat.blt y 42 with
  | true => 4
  | false =>
  match Nat.blt y 68 with
  | true => 5
  | false =>
  match Nat.blt y 132 with
  | true => 6
  | false =>
  match Nat.blt y 239 with
  | true => 7
  | false => 8
set_option maxRecDepth 100000 in
theorem aPms_cl : aPms.all (fun q => decide (q.2.2.1 = 0 → aRn (aMc q.2.2.2) = (aMt q.2.2.2).1.cls ∧ aMc q.2.2.2 < 8) && decide (q.2.2.1 = 0 ∨ q.2.2.1 = 3 ∨ q.2.2.1 = 4 ∨ q.2.2.1 = 5 → (aMt q.2.2.2).2.2.2.2 = [])) = true := by decide +kernel
set_option maxRecDepth 100000 in
theorem aCx_at : [Cond.classLink RL 13 "java/lang/IllegalArgumentException", Cond.classLink RL 15 "java/lang/IllegalStateException", Cond.classLink RL 25 "java/lang/IndexOutOfBoundsException", Cond.classLink RL 69 "java/util/NoSuchElementException", Cond.classLink RL 124 "java/lang/ArithmeticException", Cond.classLink RL 144 "java/lang/UnsupportedOperationException"] = [462, 463, 616, 861, 1022, 1088].filterMap (fun i => lw_tbl[i]?) := rfl
set_option maxRecDepth 100000 in
theorem aCst_at : aEx.map (fun e => Cond.castable e e) = [563, 579, 491, 869, 1034, 1200].filterMap (fun i => lw_tbl[i]?) := rfl
end
section
/-! THE WALK'S OWN MACHINE: values and memory as numbers, things by names, a step as what must hold for it. Everything behind it is proved over this machine; part 05 ties it to the JVM. -/
def iZ (n : Int) : Int32 := Int32.ofInt n
def lZ (n : Int) : Int64 := Int64.ofInt n
abbrev aP : Type := Nat × Int × Int
abbrev aV : Type := Int ⊕ (Int ⊕ (aP ⊕ Value))
abbrev aM : Type := aP → Int → Int
abbrev aSt : Type := Option (Nat × (aP → Int → Bool))
abbrev aK : Type := aSt × Nat × Nat
abbrev aI : Type := Instr × Nat × Nat × Nat × Nat × List (Int × Nat)
/-- the run's constants: classes, classes of arrays, addresses of texts, the heap at the law's entry, the script -/
abbrev aG : Type := va_G × (Nat → ClassId) × (Nat → Nat) × Heap × (Nat × Nat)
def aBase (g : aG) : Nat := g.2.2.2.1.size
def aSb (i : Int) : Nat := if i.toNat < 3 then 1 + 27 * i.toNat else 3 + 27 * i.toNat
/-- where a thing lies, from the first cell that the law makes -/
def aOff (p : aP) : Nat := match p.1 with
  | 0 => 0
  | 1 => aSb p.2.1
  | 2 => aSb p.2.1 + 1
  | 3 => aSb p.2.1 + 2 + p.2.2.toNat
  | 4 => aSb p.2.1 + 10
  | 5 => aSb p.2.1 + 11 + 2 * p.2.2.toNat
  | 6 => aSb p.2.1 + 12 + 2 * p.2.2.toNat
  | 7 => 82
  | 8 => 83
  | 9 => 300
  | 10 => 301
  | 11 => 302
  | 12 => 303
  | 13 => 304
  | 14 => 305
  | 15 => 306
  | 16 => 307
  | 17 => 308 + p.2.1.toNat
  | 18 => 318
  | 19 => 319
  | _ => 320
def aBlk (s : Nat) : List aP := (1, (s : Int), 0) :: (2, (s : Int), 0) :: ((List.range 8).map (fun (j : Nat) => ((3, (s : Int), (j : Int)) : aP)) ++ (4, (s : Int), 0) :: (List.range 8).flatMap (fun (r : Nat) => [((5, (s : Int), (r : Int)) : aP), (6, (s : Int), (r : Int))]))
def aAll : List aP := (0, 0, 0) :: (aBlk 0 ++ (aBlk 1 ++ (aBlk 2 ++ ((7, 0, 0) :: (8, 0, 0) :: ((List.range 8).flatMap (fun i => aBlk (3 + i)) ++ ((9, 0, 0) :: (10, 0, 0) :: (11, 0, 0) :: (12, 0, 0) :: (13, 0, 0) :: (14, 0, 0) :: (15, 0, 0) :: (16, 0, 0) :: ((List.range 10).map (fun (j : Nat) => ((17, (j : Int), 0) : aP)) ++ [(18, 0, 0), (19, 0, 0)])))))))
/-- a thing's kind: an object of a class, or an array (of ints 0, chars 1, runs 2, states 3, longs 4, doubles 5; 9: the script, a text) and its length -/
def aSh (p : aP) : Nat ⊕ (Nat × Int) := match p.1 with
  | 0 => .inl 6
  | 1 => .inl 5
  | 2 => .inl 0
  | 3 => .inr (0, 6)
  | 4 => .inr (2, 8)
  | 5 => .inl 4
  | 6 => .inr (0, 6)
  | 7 => .inl 1
  | 8 => .inr (3, 8)
  | 9 => .inr (0, 8)
  | 10 => .inl 2
  | 11 => .inr (1, 64)
  | 12 => .inl 3
  | 13 => .inr (1, 60)
  | 14 => .inr (0, 16)
  | 15 => .inr (0, 80)
  | 16 => .inl 7
  | 17 => match p.2.1.toNat with
    | 4 => .inr (0, 1304)
    | 5 => .inr (0, 60)
    | 6 => .inr (0, 80)
    | 7 => .inr (1, 47)
    | 8 => .inr (0, 10)
    | 9 => .inr (0, 366)
    | _ => .inr (0, 163)
  | 18 => .inr (4, 1)
  | 19 => .inr (5, 1)
  | _ => .inr (9, 0)
/-- what a thing's place of a reference holds, once it is made -/
def aRf (p : aP) (k : Int) : aP := match p with
  | (kd, i, j) => match kd with
  | 0 => match k.toNat with
    | 0 => (1, 0, 0)
    | 1 => (1, 1, 0)
    | 2 => (1, 2, 0)
    | 4 => (7, 0, 0)
    | 5 => (9, 0, 0)
    | 6 => (10, 0, 0)
    | _ => (12, 0, 0)
  | 1 => match k.toNat with
    | 0 => (2, i, 0)
    | _ => (4, i, 0)
  | 2 => match k.toNat with
    | 5 => (3, i, 0)
    | 6 => (3, i, 1)
    | 7 => (3, i, 2)
    | 9 => (3, i, 3)
    | 10 => (3, i, 4)
    | 11 => (3, i, 5)
    | 12 => (3, i, 6)
    | _ => (3, i, 7)
  | 4 => (5, i, k)
  | 5 => (6, i, j)
  | 7 => (8, 0, 0)
  | 8 => (1, 3 + k, 0)
  | 10 => (11, 0, 0)
  | 12 => match k.toNat with
    | 0 => (13, 0, 0)
    | 3 => (14, 0, 0)
    | _ => (15, 0, 0)
  | 16 => match k.toNat with
    | 0 => (17, 0, 0)
    | 1 => (17, 1, 0)
    | 2 => (17, 2, 0)
    | 3 => (17, 3, 0)
    | 5 => (17, 4, 0)
    | 10 => (17, 5, 0)
    | 12 => (17, 6, 0)
    | 14 => (17, 7, 0)
    | 15 => (17, 8, 0)
    | _ => (17, 9, 0)
  | _ => (0, 0, 0)
def aWr (z : aM) (p : aP) (k x : Int) : aM := fun q j => if q = p ∧ j = k then x else z q j
def aCp (z : aM) (p : aP) (sp : Int) (q : aP) (dp n : Int) : aM := fun r j => if r = q ∧ dp ≤ j ∧ j < dp + n then z p (sp + (j - dp)) else z r j
def aZr (z : aM) (p : aP) : aM := fun q j => if q = p then 0 else z q j
def aBt (r : aP → Int → Bool) (p : aP) (k : Int) : aP → Int → Bool := fun q j => if q = p ∧ j = k then true else r q j
def aBf (r : aP → Int → Bool) (p : aP) : aP → Int → Bool := fun q j => if q = p then false else r q j
def aAd (g : aG) (p : aP) : Nat := match p.1 with
  | 30 => g.2.2.1 p.2.1.toNat
  | 31 => g.2.2.2.2.1
  | _ => aBase g + aOff p
/-- a value of the walk, as the machine has it -/
def aC (g : aG) (v : aV) : Value := match v with
  | .inl n => .int (iZ n)
  | .inr (.inl n) => .long (lZ n)
  | .inr (.inr (.inl p)) => .ref (aAd g p)
  | .inr (.inr (.inr v)) => v
def aCnt (s : aSt) : Nat := match s with
  | none => 320
  | some (n, _) => n
/-- a thing that is there -/
def aLp (s : aSt) (p : aP) : Prop := (aAll[aOff p]? = some p ∧ aOff p < aCnt s) ∨ (p.1 = 30 ∧ p.2.1.toNat < 9) ∨ p.1 = 31
def aLv (s : aSt) (v : aV) : Prop := match v with
  | .inr (.inr (.inl p)) => aLp s p
  | _ => True
/-- a place of a reference, as the machine has it -/
def aRv (g : aG) (s : aSt) (p : aP) (k : Int) : Option Nat := match s with
  | none => some (aAd g (aRf p k))
  | some (_, r) => if r p k = true then some (aAd g (aRf p k)) else none
def aFv (g : aG) (s : aSt) (z : aM) (p : aP) (ci k : Nat) : Value := if (aFl ci)[k]? = some 2 then va_rf (aRv g s p (k : Int)) else .int (iZ (z p (k : Int)))
def aAr (g : aG) (s : aSt) (z : aM) (p : aP) (ty : Nat) : (Nat → Int32) ⊕ (Nat → Int64) ⊕ (Nat → UInt32) ⊕ (Nat → UInt64) ⊕ (Nat → Option Nat) := match ty with
  | 0 => .inl (fun k => iZ (z p (k : Int)))
  | 1 => .inl (fun k => iZ (z p (k : Int)))
  | 4 => .inr (.inl (fun k => lZ (z p (k : Int))))
  | 5 => .inr (.inr (.inr (.inl (fun k => UInt64.ofNat (z p (k : Int)).toNat))))
  | _ => .inr (.inr (.inr (.inr (fun k => aRv g s p (k : Int)))))
def aCe (g : aG) (s : aSt) (z : aM) (p : aP) : va_E := match aSh p with
  | .inl ci => .inr (ci, (List.range (aFl ci).length).map (aFv g s z p ci))
  | .inr (ty, n) => .inl (g.2.1 ty, (n.toNat, aAr g s z p ty))
/-- the cells of the walk's memory -/
def aWs (g : aG) (s : aSt) (z : aM) : va_W := (List.range (aCnt s)).map (fun i => (aBase g + i, aCe g s z (aAll.getD i (0, 0, 0))))
def aRep (g : aG) (s : aSt) (z : aM) (H : Heap) : Prop :=
  va_P g.1 aCl (aWs g s z) H ∧ (∀ q : Nat, q < aBase g → H[q]? = g.2.2.2.1[q]?) ∧ (match s with
    | none => True
    | some (n, r) => H.size = aBase g + n ∧ n ≤ 320) ∧ aBase g ≤ H.size ∧ ∃ scr : Cell, g.2.2.2.1[g.2.2.2.2.1]? = some scr ∧ scr.slots.size = g.2.2.2.2.2 ∧ ∀ j : Nat, j < g.2.2.2.2.2 → scr.slots[j]? = some (.int (iZ (z (31, 0, 0) (j : Int))))
abbrev aTyl (g : aG) : List (ClassId × FieldType) := [(g.2.1 0, .int), (g.2.1 1, .char), (g.2.1 2, .object "SheepdogTrial$Run"), (g.2.1 3, .object "SheepdogTrial$State"), (g.2.1 4, .long), (g.2.1 5, .double)]
def aA (g : aG) : Nat → Prop := fun q => aBase g ≤ q
/-- the chars of the texts that a walk may hold -/
def aPtc : List (List Int) := [[115, 116, 97, 114, 116, 32, 35, 44, 35], [108, 101, 103, 32, 35, 44, 35, 61, 35], [103, 97, 116, 101, 32, 63, 32, 35, 44, 35, 45, 35, 44, 35], [108, 105, 109, 105, 116, 32, 35], [119, 105, 100, 116, 104, 32, 35], [114, 117, 110], [119, 97, 108, 107, 32, 35, 44, 35, 43, 35], [102, 97, 117, 108, 116, 32, 63], [114, 101, 116, 105, 114, 101]]
/-! lists of locals, made explicit -/
def aGet : List (Option aV) → Nat → Option aV
  | [], _ => none
  | x :: _, 0 => x
  | _ :: l, i + 1 => aGet l i
def aW2 (v : aV) : Bool := match v with
  | .inr (.inl _) => true
  | .inr (.inr (.inr (.long _))) => true
  | .inr (.inr (.inr (.double _))) => true
  | _ => false
def aClr (x : Option aV) : Option aV := match x with
  | some v => match aW2 v with
    | true => none
    | false => some v
  | none => none
def aSet1 : List (Option aV) → Nat → aV → Option (List (Option aV))
  | [], _, _ => none
  | _ :: l, 0, v => some (some v :: l)
  | x :: l, i + 1, v => match aSet1 l i v with
    | some l' => some ((match i with
      | 0 => aClr x
      | _ + 1 => x) :: l')
    | none => none
def aSet2 : List (Option aV) → Nat → aV → Option (List (Option aV))
  | [], _, _ => none
  | _ :: l, 0, v => match l with
    | [] => none
    | _ :: l' => some (some v :: none :: l')
  | x :: l, i + 1, v => match aSet2 l i v with
    | some l' => some ((match i with
      | 0 => aClr x
      | _ + 1 => x) :: l')
    | none => none
def aFo : List (Option aV) → (List (Option aV) → Prop) → Prop
  | [], c => c []
  | x :: l, c => match x with
    | none => aFo l (fun l' => c (none :: l'))
    | some v => aFo l (fun l' => c (some v :: l'))
def aEn : List aV → Nat → List (Option aV)
  | _, 0 => []
  | [], n + 1 => none :: aEn [] n
  | v :: vs, n + 1 => match aW2 v with
    | true => match n with
      | 0 => [some v]
      | m + 1 => some v :: none :: aEn vs m
    | false => some v :: aEn vs n
def aPop : Nat → List aV → List aV → (List aV → List aV → Prop) → Prop
  | 0, acc, st, c => c acc st
  | n + 1, acc, st, c => match st with
    | [] => False
    | v :: st' => aPop n (v :: acc) st' c
def aPu (r : Option aV) (rest : List aV) (c : List aV → Prop) : Prop := match r with
  | none => c rest
  | some v => c (v :: rest)
def aHas : List Nat → Nat → Bool
  | [], _ => false
  | x :: l, k => match Nat.beq x k with
    | true => true
    | false => aHas l k
def aSml (st : List aV) : Bool := Nat.ble st.length 4
def aCmp (a b : Int) : Int := if a < b then -1 else if a = b then 0 else 1
def aIR (a : Int) : Prop := -2147483648 ≤ a ∧ a ≤ 2147483647
def aBr (c : Jvm.ClassFile.Cond) (a b : Int) (T F : Prop) : Prop := match c with
  | .eq => (a = b → T) ∧ (¬ a = b → F)
  | .ne => (¬ a = b → T) ∧ (a = b → F)
  | .lt => (a < b → T) ∧ (b ≤ a → F)
  | .ge => (b ≤ a → T) ∧ (a < b → F)
  | .gt => (b < a → T) ∧ (a ≤ b → F)
  | .le => (a ≤ b → T) ∧ (b < a → F)
def aSw (a : Int) (K : Nat → Prop) (t : Nat) : List (Int × Nat) → Prop
  | [] => K t
  | (v, t') :: r => (a = v → K t') ∧ (¬ a = v → aSw a K t r)
/-- which exception a place of the law's pool names -/
def aCx (c : Nat) : Nat := match c with
  | 13 => 0
  | 15 => 1
  | 25 => 2
  | 69 => 3
  | 124 => 4
  | 144 => 5
  | _ => 6
def aHnd : List (Nat × Nat × Nat × Nat) → Nat → Nat → (Nat → Prop) → Prop → Prop
  | [], _, _, _, o => o
  | (a, b, h, c) :: r, pc, x, k, o => match Nat.ble a pc && (Nat.blt pc b && Nat.beq (aCx c) x) with
    | true => k h
    | false => aHnd r pc x k o
def aRk (r : Option FieldType) : Nat := match r with
  | none => 0
  | some .int => 1
  | some .boolean => 2
  | some .char => 3
  | some (.object _) => 4
  | some .double => 5
  | some .float => 6
  | _ => 9
end
section
/-! THE STEP: what must hold so that an instruction takes the walk to K. -/
/-- what the tables of the machine say, at any point of the run -/
def aKN (g : aG) (U : State) : Prop :=
  (∀ w : Cond, w ∈ lw_tbl → aWarm w = true → w.before #[] U = true) ∧ va_K g.1 aCl (aTyl g) U ∧ va_AO "SheepdogTrial$Run" U ∧ va_AO "SheepdogTrial$State" U ∧
  (∀ q ∈ aThs, ∃ a, vk_R (aRn q.1) q.2.2.2.2.1 q.2.2.1 a U) ∧ (∀ (k : Nat) (q : Nat × String), aPts[k]? = some q → vk_R RX3 q.1 q.2 (g.2.2.1 k) U) ∧
  vx_Zq Bundle.tN "UNASSIGNED_STACK" Bundle.steD (aA g) U g.2.2.2.1 ∧ vx_Zq Bundle.tN "SUPPRESSED_SENTINEL" Bundle.listD (aA g) U g.2.2.2.1 ∧
  (∀ x y : Nat, x < 6 → y < 6 → x ≠ y → va_Nc (aEx.getD x "") (aEx.getD y "") U) ∧
  (vk_S 9 (aPtc.map List.length) (aPtc.map (fun t => t.map Int32.ofInt)) g.2.2.1 (fun i => g.2.2.1 (100 + i)) (aA g) U g.2.2.2.1 ∧ va_Z "java/lang/String" "COMPACT_STRINGS" "Z" (.int 1) (aA g) U g.2.2.2.1 ∧ va_Zq "jdk/internal/util/Preconditions" "SIOOBE_FORMATTER" "Ljava/util/function/BiFunction;" (aA g) U g.2.2.2.1) ∧
  (∃ scr : Cell, g.2.2.2.1[g.2.2.2.2.1]? = some scr ∧ U.isArrayOf scr .int ∧ scr.vm ≠ .unknown)
def aU (g : aG) (s : aSt) (z : aM) (U : State) : Prop := aRep g s z U.heap ∧ aKN g U
def aQ (g : aG) (Q : Option aV → aSt → aM → Prop) : Array Value → State → Outcome → State → Prop := fun _ st o t =>
  ∃ (r : Option aV) (s' : aSt) (z' : aM), o = .returned (r.map (aC g)) ∧ (∀ v, r = some v → aLv s' v) ∧ Q r s' z' ∧ aRep g s' z' t.heap ∧ va_F (aA g) st t
def aX (g : aG) (X : Nat → aSt → aM → Prop) : String → State → State → Prop := fun E st t =>
  ∃ (x : Nat) (s' : aSt) (z' : aM), x < 6 ∧ E = aEx.getD x "" ∧ X x s' z' ∧ aRep g s' z' t.heap ∧ va_F (aA g) st t
/-- THE CONTRACT: called with these values in this memory, method y answers as Q says, or throws as X says; at most mc cells of ms slots are new -/
def aCt (l : Launch) (g : aG) (y d mc ms : Nat) (s : aSt) (as : List aV) (z : aM) (Q : Option aV → aSt → aM → Prop) (X : Nat → aSt → aM → Prop) : Prop :=
  (l.stackTraces = false ∧ g.2.2.2.2.2 < 2 ^ 31) → (∀ v ∈ as, aLv s v) → vx_Met l (aMt y).1 [aWd y] { frames := d, cells := mc, slots := ms, locals := 500 * d } (va_Pc (as.map (aC g)) (aU g s z)) (aQ g Q) (aX g X) mc ms (aA g)
abbrev aT : Type := List (Nat × aI)
def aFd : aT → Nat → Option aI
  | [], _ => none
  | (k, x) :: l, pc => match Nat.beq k pc with
    | true => some x
    | false => aFd l pc
/-- a frame's constants: depth, cells and slots that it may make, its answer's kind, its handlers -/
abbrev aFr : Type := Nat × Nat × Nat × Nat × List (Nat × Nat × Nat × Nat)
section STP
variable (l : Launch) (g : aG) (f : aFr) (Q : Option aV → aSt → aM → Prop) (X : Nat → aSt → aM → Prop)
/-- the first value is a thing that the method may be called on -/
def aRcv (kd y : Nat) (as : List aV) : Bool := match kd with
  | 1 => true
  | 5 => true
  | 0 => match as with
    | .inr (.inr (.inl q)) :: _ => match aSh q with
      | .inl ci => Nat.beq ci (aMc y)
      | .inr _ => false
    | _ => false
  | _ => match as with
    | .inr (.inr (.inl _)) :: _ => true
    | _ => false
def aInv (kd pc y n na : Nat) (k : aK) (z : aM) (ls : List (Option aV)) (st : List aV) (K : aK → aM → Nat → List (Option aV) → List aV → Prop) : Prop :=
  aPop na [] st (fun as rest => ((aSml rest = true ∧ aRcv kd y as = true) ∧ 1 ≤ f.1) ∧
    (aCt l g y (f.1 - 1) 0 0 k.1 as z (fun r s' z' => s' = k.1 ∧ aPu r rest (fun st' => K k z' n ls st')) (fun _ _ _ => False) ∨
    ((k.2.1 + 1 ≤ f.2.1 ∧ k.2.2 + 6 ≤ f.2.2.1) ∧ aCt l g y (f.1 - 1) 1 6 k.1 as z (fun _ _ _ => False) (fun x s' z' => s' = k.1 ∧ aHnd f.2.2.2.2 pc x (fun h => ∀ q : Nat, K (k.1, k.2.1 + 1, k.2.2 + 6) z' h ls [.inr (.inr (.inr (.ref q)))]) (X x k.1 z'))) ∨
    ∃ c' m', (k.2.1 + c' ≤ f.2.1 ∧ k.2.2 + m' ≤ f.2.2.1) ∧ aCt l g y (f.1 - 1) c' m' k.1 as z (fun r s' z' => aCnt k.1 ≤ aCnt s' ∧ aPu r rest (fun st' => K (s', k.2.1 + c', k.2.2 + m') z' n ls st')) (fun _ _ _ => False)))
def aPrim (b n : Nat) (k : aK) (z : aM) (ls : List (Option aV)) (st : List aV) (K : aK → aM → Nat → List (Option aV) → List aV → Prop) : Prop := match b with
  | 2 => match st with
    | .inr (.inr (.inl _)) :: st => (aSml st = true ∧ 1 ≤ f.1) ∧ K k z n ls st
    | _ => False
  | 6 => match st with
    | .inl y :: .inl x :: st => ((aIR x ∧ aIR y) ∧ (aSml st = true ∧ 1 ≤ f.1)) ∧ K k z n ls (.inl (max x y) :: st)
    | _ => False
  | 7 => match st with
    | .inl y :: .inl x :: st => ((aIR x ∧ aIR y) ∧ (aSml st = true ∧ 1 ≤ f.1)) ∧ K k z n ls (.inl (min x y) :: st)
    | _ => False
  | 8 => match st with
    | .inl m :: .inl dp :: .inr (.inr (.inl q)) :: .inl sp :: .inr (.inr (.inl p)) :: st => match aSh p, aSh q with
      | .inr (0, mp), .inr (0, mq) => ((((0 ≤ m ∧ 0 ≤ sp) ∧ (0 ≤ dp ∧ (sp + m ≤ mp ∧ dp + m ≤ mq))) ∧ (aSml st = true ∧ 1 ≤ f.1)) ∧ k.1 = none) ∧ K k (aCp z p sp q dp m) n ls st
      | _, _ => False
    | _ => False
  | 9 => match st with
    | .inr (.inr (.inl p)) :: st => (p.1 = 30 ∧ (aSml st = true ∧ 4 ≤ f.1)) ∧ K k z n ls (.inl ((aPtc.getD p.2.1.toNat []).length : Int) :: st)
    | _ => False
  | 10 => match st with
    | .inl i :: .inr (.inr (.inl p)) :: st => ((p.1 = 30 ∧ (aSml st = true ∧ 6 ≤ f.1)) ∧ (0 ≤ i ∧ i < ((aPtc.getD p.2.1.toNat []).length : Int))) ∧ K k z n ls (.inl ((aPtc.getD p.2.1.toNat []).getD i.toNat 0) :: st)
    | _ => False
  | _ => False
def stp (pc : Nat) (I : aI) (k : aK) (z : aM) (ls : List (Option aV)) (st : List aV) (K : aK → aM → Nat → List (Option aV) → List aV → Prop) : Prop := match I with
  | (ins, n, t, a, b, sw) => match ins with
    | .iconst m => K k z n ls (.inl m :: st)
    | .bipush m => K k z n ls (.inl m :: st)
    | .sipush m => K k z n ls (.inl m :: st)
    | .lconst m => match m.val with
      | 0 => K k z n ls (.inr (.inl 0) :: st)
      | _ => K k z n ls (.inr (.inl 1) :: st)
    | .ldc2_w _ => match sw with
      | (v, _) :: _ => K k z n ls (.inr (.inl v) :: st)
      | [] => False
    | .ldc _ => match sw with
      | (v, _) :: _ => K k z n ls (.inr (.inr (.inl (30, v, 0))) :: st)
      | [] => False
    | .fconst m => match m.val with
      | 0 => K k z n ls (.inr (.inr (.inr (.float FP.fconst0))) :: st)
      | _ => False
    | .dconst m => match m.val with
      | 0 => K k z n ls (.inr (.inr (.inr (.double FP.dconst0))) :: st)
      | _ => False
    | .iload_n i => match aGet ls i.val with
      | some (.inl x) => K k z n ls (.inl x :: st)
      | _ => False
    | .iload i => match aGet ls i with
      | some (.inl x) => K k z n ls (.inl x :: st)
      | _ => False
    | .aload_n i => match aGet ls i.val with
      | some (.inr (.inr (.inl p))) => K k z n ls (.inr (.inr (.inl p)) :: st)
      | _ => False
    | .aload i => match aGet ls i with
      | some (.inr (.inr (.inl p))) => K k z n ls (.inr (.inr (.inl p)) :: st)
      | _ => False
    | .lload_n i => match aGet ls i.val with
      | some (.inr (.inl x)) => K k z n ls (.inr (.inl x) :: st)
      | _ => False
    | .lload i => match aGet ls i with
      | some (.inr (.inl x)) => K k z n ls (.inr (.inl x) :: st)
      | _ => False
    | .dload i => match aGet ls i with
      | some (.inr (.inr (.inr (.double x)))) => K k z n ls (.inr (.inr (.inr (.double x))) :: st)
      | _ => False
    | .fload i => match aGet ls i with
      | some (.inr (.inr (.inr (.float x)))) => K k z n ls (.inr (.inr (.inr (.float x))) :: st)
      | _ => False
    | .istore_n i => match st with
      | .inl x :: st => match aSet1 ls i.val (.inl x) with
        | some l' => aFo l' (fun l' => K k z n l' st)
        | none => False
      | _ => False
    | .istore i => match st with
      | .inl x :: st => match aSet1 ls i (.inl x) with
        | some l' => aFo l' (fun l' => K k z n l' st)
        | none => False
      | _ => False
    | .astore_n i => match st with
      | .inr (.inr (.inl p)) :: st => match aSet1 ls i.val (.inr (.inr (.inl p))) with
        | some l' => aFo l' (fun l' => K k z n l' st)
        | none => False
      | .inr (.inr (.inr (.ref q))) :: st => match aSet1 ls i.val (.inr (.inr (.inr (.ref q)))) with
        | some l' => aFo l' (fun l' => K k z n l' st)
        | none => False
      | _ => False
    | .astore i => match st with
      | .inr (.inr (.inl p)) :: st => match aSet1 ls i (.inr (.inr (.inl p))) with
        | some l' => aFo l' (fun l' => K k z n l' st)
        | none => False
      | .inr (.inr (.inr (.ref q))) :: st => match aSet1 ls i (.inr (.inr (.inr (.ref q)))) with
        | some l' => aFo l' (fun l' => K k z n l' st)
        | none => False
      | _ => False
    | .lstore i => match st with
      | .inr (.inl x) :: st => match aSet2 ls i (.inr (.inl x)) with
        | some l' => aFo l' (fun l' => K k z n l' st)
        | none => False
      | _ => False
    | .dstore i => match st with
      | .inr (.inr (.inr (.double x))) :: st => match aSet2 ls i (.inr (.inr (.inr (.double x)))) with
        | some l' => aFo l' (fun l' => K k z n l' st)
        | none => False
      | _ => False
    | .fstore i => match st with
      | .inr (.inr (.inr (.float x))) :: st => match aSet1 ls i (.inr (.inr (.inr (.float x)))) with
        | some l' => aFo l' (fun l' => K k z n l' st)
        | none => False
      | _ => False
    | .iinc i c => match aGet ls i with
      | some (.inl x) => match aSet1 ls i (.inl (x + c)) with
        | some l' => aFo l' (fun l' => K k z n l' st)
        | none => False
      | _ => False
    | .iadd => match st with
      | .inl y :: .inl x :: st => K k z n ls (.inl (x + y) :: st)
      | _ => False
    | .isub => match st with
      | .inl y :: .inl x :: st => K k z n ls (.inl (x - y) :: st)
      | _ => False
    | .imul => match st with
      | .inl y :: .inl x :: st => K k z n ls (.inl (x * y) :: st)
      | _ => False
    | .idiv => match st with
      | .inl y :: .inl x :: st => ((0 ≤ x ∧ x ≤ 2147483647) ∧ (0 < y ∧ y ≤ 2147483647)) ∧ K k z n ls (.inl (x / y) :: st)
      | _ => False
    | .irem => match st with
      | .inl y :: .inl x :: st => ((0 ≤ x ∧ x ≤ 2147483647) ∧ (0 < y ∧ y ≤ 2147483647)) ∧ K k z n ls (.inl (x % y) :: st)
      | _ => False
    | .ishl => match st with
      | .inl y :: .inl x :: st => ((0 ≤ x ∧ x * 2 ^ y.toNat ≤ 2147483647) ∧ (0 ≤ y ∧ y < 31)) ∧ K k z n ls (.inl (x * 2 ^ y.toNat) :: st)
      | _ => False
    | .ishr => match st with
      | .inl y :: .inl x :: st => ((0 ≤ x ∧ x ≤ 2147483647) ∧ (0 ≤ y ∧ y < 31)) ∧ K k z n ls (.inl (x / 2 ^ y.toNat) :: st)
      | _ => False
    | .iand => match st with
      | .inl y :: .inl x :: st => K k z n ls (.inl (iZ x &&& iZ y).toInt :: st)
      | _ => False
    | .ior => match st with
      | .inl y :: .inl x :: st => K k z n ls (.inl (iZ x ||| iZ y).toInt :: st)
      | _ => False
    | .lmul => match st with
      | .inr (.inl y) :: .inr (.inl x) :: st => K k z n ls (.inr (.inl (x * y)) :: st)
      | _ => False
    | .lsub => match st with
      | .inr (.inl y) :: .inr (.inl x) :: st => K k z n ls (.inr (.inl (x - y)) :: st)
      | _ => False
    | .i2l => match st with
      | .inl x :: st => aIR x ∧ K k z n ls (.inr (.inl x) :: st)
      | _ => False
    | .lcmp => match st with
      | .inr (.inl y) :: .inr (.inl x) :: st => ((-9223372036854775808 ≤ x ∧ x ≤ 9223372036854775807) ∧ (-9223372036854775808 ≤ y ∧ y ≤ 9223372036854775807)) ∧ K k z n ls (.inl (aCmp x y) :: st)
      | _ => False
    | .i2c => match st with
      | .inl x :: st => K k z n ls (.inl (x % 65536) :: st)
      | _ => False
    | .i2d => match st with
      | .inl x :: st => K k z n ls (.inr (.inr (.inr (.double (FP.i2d (iZ x))))) :: st)
      | _ => False
    | .i2f => match st with
      | .inl x :: st => K k z n ls (.inr (.inr (.inr (.float (FP.i2f (iZ x))))) :: st)
      | _ => False
    | .f2d => match st with
      | .inr (.inr (.inr (.float x))) :: st => vf_n64 (FP.f2d x) ∧ K k z n ls (.inr (.inr (.inr (.double (FP.f2d x)))) :: st)
      | _ => False
    | .fdiv => match st with
      | .inr (.inr (.inr (.float y))) :: .inr (.inr (.inr (.float x))) :: st => vf_n32 (FP.fdiv x y) ∧ K k z n ls (.inr (.inr (.inr (.float (FP.fdiv x y)))) :: st)
      | _ => False
    | .ddiv => match st with
      | .inr (.inr (.inr (.double y))) :: .inr (.inr (.inr (.double x))) :: st => vf_n64 (FP.ddiv x y) ∧ K k z n ls (.inr (.inr (.inr (.double (FP.ddiv x y)))) :: st)
      | _ => False
    | .dcmp o => match st with
      | .inr (.inr (.inr (.double y))) :: .inr (.inr (.inr (.double x))) :: st => K k z n ls (.inl (Op.cmpValue (FP.dcmp x y) o).toInt :: st)
      | _ => False
    | .fcmp o => match st with
      | .inr (.inr (.inr (.float y))) :: .inr (.inr (.inr (.float x))) :: st => K k z n ls (.inl (Op.cmpValue (FP.fcmp x y) o).toInt :: st)
      | _ => False
    | .ifCond c _ => match st with
      | .inl x :: st => aIR x ∧ aBr c x 0 (K k z t ls st) (K k z n ls st)
      | _ => False
    | .if_icmp c _ => match st with
      | .inl y :: .inl x :: st => (aIR x ∧ aIR y) ∧ aBr c x y (K k z t ls st) (K k z n ls st)
      | _ => False
    | .goto _ => K k z t ls st
    | .tableswitch _ _ _ _ => match st with
      | .inl x :: st => aIR x ∧ aSw x (fun t' => K k z t' ls st) t sw
      | _ => False
    | .getfield _ => match st, sw with
      | .inr (.inr (.inl p)) :: st, (i, _) :: _ => match aSh p with
        | .inl ci => match Nat.beq ci a with
          | true => match (aFl ci)[b]? with
            | some 2 => match k.1 with
              | none => match aRf p i with
                | (x, y, w) => K k z n ls (.inr (.inr (.inl (x, y, w))) :: st)
              | some (cnt, r) => (r p i = true ∧ aOff (aRf p i) < cnt) ∧ (match aRf p i with
                | (x, y, w) => K k z n ls (.inr (.inr (.inl (x, y, w))) :: st))
            | some _ => K k z n ls (.inl (z p i) :: st)
            | none => False
          | false => False
        | .inr _ => False
      | _, _ => False
    | .putfield _ => match st, sw with
      | v :: .inr (.inr (.inl p)) :: st, (i, _) :: _ => match aSh p with
        | .inl ci => match Nat.beq ci a with
          | true => match (aFl ci)[b]?, v with
            | some 0, .inl x => K k (aWr z p i x) n ls st
            | some 1, .inl x => (x = 0 ∨ x = 1) ∧ K k (aWr z p i x) n ls st
            | some 2, .inr (.inr (.inl q)) => match k.1 with
              | none => False
              | some (cnt, r) => q = aRf p i ∧ K (some (cnt, aBt r p i), k.2.1, k.2.2) z n ls st
            | _, _ => False
          | false => False
        | .inr _ => False
      | _, _ => False
    | .iaload => match st with
      | .inl i :: .inr (.inr (.inl p)) :: st => match aSh p with
        | .inr (0, m) => (0 ≤ i ∧ i < m) ∧ K k z n ls (.inl (z p i) :: st)
        | .inr (9, _) => (p = (31, 0, 0) ∧ (0 ≤ i ∧ i < (g.2.2.2.2.2 : Int))) ∧ K k z n ls (.inl (z p i) :: st)
        | _ => False
      | _ => False
    | .caload => match st with
      | .inl i :: .inr (.inr (.inl p)) :: st => match aSh p with
        | .inr (1, m) => (0 ≤ i ∧ i < m) ∧ K k z n ls (.inl (z p i) :: st)
        | _ => False
      | _ => False
    | .laload => match st with
      | .inl i :: .inr (.inr (.inl p)) :: st => match aSh p with
        | .inr (4, m) => (0 ≤ i ∧ i < m) ∧ K k z n ls (.inr (.inl (z p i)) :: st)
        | _ => False
      | _ => False
    | .daload => match st with
      | .inl i :: .inr (.inr (.inl p)) :: st => match aSh p with
        | .inr (5, m) => (0 ≤ i ∧ i < m) ∧ K k z n ls (.inr (.inr (.inr (.double (UInt64.ofNat (z p i).toNat)))) :: st)
        | _ => False
      | _ => False
    | .iastore => match st with
      | .inl x :: .inl i :: .inr (.inr (.inl p)) :: st => match aSh p with
        | .inr (0, m) => (0 ≤ i ∧ i < m) ∧ K k (aWr z p i x) n ls st
        | _ => False
      | _ => False
    | .castore => match st with
      | .inl x :: .inl i :: .inr (.inr (.inl p)) :: st => match aSh p with
        | .inr (1, m) => (0 ≤ i ∧ i < m) ∧ K k (aWr z p i (x % 65536)) n ls st
        | _ => False
      | _ => False
    | .lastore => match st with
      | .inr (.inl x) :: .inl i :: .inr (.inr (.inl p)) :: st => match aSh p with
        | .inr (4, m) => (0 ≤ i ∧ i < m) ∧ K k (aWr z p i x) n ls st
        | _ => False
      | _ => False
    | .dastore => match st with
      | .inr (.inr (.inr (.double x))) :: .inl i :: .inr (.inr (.inl p)) :: st => match aSh p with
        | .inr (5, m) => (0 ≤ i ∧ i < m) ∧ K k (aWr z p i (x.toNat : Int)) n ls st
        | _ => False
      | _ => False
    | .aaload => match st with
      | .inl i :: .inr (.inr (.inl p)) :: st => match aSh p with
        | .inr (ty, m) => (0 ≤ i ∧ (i < m ∧ (ty = 2 ∨ ty = 3))) ∧ (match k.1 with
          | none => match aRf p i with
            | (x, y, w) => K k z n ls (.inr (.inr (.inl (x, y, w))) :: st)
          | some (cnt, r) => (r p i = true ∧ aOff (aRf p i) < cnt) ∧ (match aRf p i with
            | (x, y, w) => K k z n ls (.inr (.inr (.inl (x, y, w))) :: st)))
        | _ => False
      | _ => False
    | .aastore => match st with
      | .inr (.inr (.inl q)) :: .inl i :: .inr (.inr (.inl p)) :: st => match aSh p, k.1 with
        | .inr (ty, m), some (cnt, r) => ((0 ≤ i ∧ i < m) ∧ ((ty = 2 ∨ ty = 3) ∧ q = aRf p i)) ∧ K (some (cnt, aBt r p i), k.2.1, k.2.2) z n ls st
        | _, _ => False
      | _ => False
    | .arraylength => match st with
      | .inr (.inr (.inl p)) :: st => p = (31, 0, 0) ∧ K k z n ls (.inl (g.2.2.2.2.2 : Int) :: st)
      | _ => False
    | .new _ => match Nat.beq a 100 with
      | true => (((aSml st = true ∧ 6 ≤ f.1) ∧ (k.2.1 + 1 ≤ f.2.1 ∧ k.2.2 + 6 ≤ f.2.2.1)) ∧ k.1 = none) ∧ X t k.1 z
      | false => match k.1 with
        | none => False
        | some (cnt, r) => ∃ p : aP, ((aOff p = cnt ∧ aAll[aOff p]? = some p) ∧ (aSh p = .inl a ∧ (k.2.1 + 1 ≤ f.2.1 ∧ k.2.2 + (aFl a).length ≤ f.2.2.1))) ∧ K (some (cnt + 1, aBf r p), k.2.1 + 1, k.2.2 + (aFl a).length) (aZr z p) n ls (.inr (.inr (.inl p)) :: st)
    | .newarray ty => match st, k.1 with
      | .inl m :: st, some (cnt, r) => ∃ p : aP, ((aOff p = cnt ∧ aAll[aOff p]? = some p) ∧ (aSh p = .inr ((match ty with
          | .int => 0
          | .char => 1
          | .long => 4
          | .double => 5
          | _ => 9), m) ∧ (k.2.1 + 1 ≤ f.2.1 ∧ k.2.2 + m.toNat ≤ f.2.2.1))) ∧ K (some (cnt + 1, aBf r p), k.2.1 + 1, k.2.2 + m.toNat) (aZr z p) n ls (.inr (.inr (.inl p)) :: st)
      | _, _ => False
    | .anewarray _ => match st, k.1 with
      | .inl m :: st, some (cnt, r) => ∃ p : aP, ((aOff p = cnt ∧ aAll[aOff p]? = some p) ∧ (aSh p = .inr ((match a with
          | 4 => 2
          | 5 => 3
          | _ => 9), m) ∧ (k.2.1 + 1 ≤ f.2.1 ∧ k.2.2 + m.toNat ≤ f.2.2.1))) ∧ K (some (cnt + 1, aBf r p), k.2.1 + 1, k.2.2 + m.toNat) (aZr z p) n ls (.inr (.inr (.inl p)) :: st)
      | _, _ => False
    | .pop => match st with
      | v :: st => match aW2 v with
        | false => K k z n ls st
        | true => False
      | _ => False
    | .dup => match st with
      | v :: st => match aW2 v with
        | false => K k z n ls (v :: v :: st)
        | true => False
      | _ => False
    | .dup2 => match st with
      | v :: w :: st => match aW2 v, aW2 w with
        | false, false => K k z n ls (v :: w :: v :: w :: st)
        | _, _ => False
      | _ => False
    | .invokevirtual _ => match Nat.beq a 0 with
      | true => aInv l g f X a pc b n t k z ls st K
      | false => aPrim f a n k z ls st K
    | .invokestatic _ => match Nat.beq a 1 || Nat.beq a 5 with
      | true => aInv l g f X a pc b n t k z ls st K
      | false => aPrim f a n k z ls st K
    | .invokespecial _ => match Nat.beq a 3 || Nat.beq a 4 with
      | true => aInv l g f X a pc b n t k z ls st K
      | false => aPrim f a n k z ls st K
    | .ireturn => match st with
      | [.inl x] => match f.2.2.2.1 with
        | 1 => Q (some (.inl x)) k.1 z
        | 2 => (x = 0 ∨ x = 1) ∧ Q (some (.inl x)) k.1 z
        | 3 => (0 ≤ x ∧ x ≤ 65535) ∧ Q (some (.inl x)) k.1 z
        | _ => False
      | _ => False
    | .areturn => match st with
      | [.inr (.inr (.inl p))] => match Nat.beq f.2.2.2.1 4 with
        | true => Q (some (.inr (.inr (.inl p)))) k.1 z
        | false => False
      | _ => False
    | .dreturn => match st with
      | [.inr (.inr (.inr (.double x)))] => match Nat.beq f.2.2.2.1 5 with
        | true => Q (some (.inr (.inr (.inr (.double x))))) k.1 z
        | false => False
      | _ => False
    | .freturn => match st with
      | [.inr (.inr (.inr (.float x)))] => match Nat.beq f.2.2.2.1 6 with
        | true => Q (some (.inr (.inr (.inr (.float x))))) k.1 z
        | false => False
      | _ => False
    | .return_ => match st with
      | [] => match Nat.beq f.2.2.2.1 0 with
        | true => Q none k.1 z
        | false => False
      | _ => False
    | _ => False
/-- n steps, at most, of the code T; where the walk comes to one of the places cs, or has no more steps, B must hold -/
def wp (T : aT) (cs : List Nat) (B : aK → aM → Nat → List (Option aV) → List aV → Prop) : Nat → aK → aM → Nat → List (Option aV) → List aV → Prop
  | 0, k, z, pc, ls, st => B k z pc ls st
  | n + 1, k, z, pc, ls, st => match aFd T pc with
    | none => False
    | some I => stp l g f Q X pc I k z ls st (fun k' z' pc' ls' st' => match aHas cs pc' with
      | true => B k' z' pc' ls' st'
      | false => wp T cs B n k' z' pc' ls' st')
end STP
end
section
/-! numbers, lists and memory of the walk's machine -/
theorem iZ_add (x y : Int) : iZ x + iZ y = iZ (x + y) := (Int32.ofInt_add x y).symm
theorem iZ_mul (x y : Int) : iZ x * iZ y = iZ (x * y) := (Int32.ofInt_mul x y).symm
theorem iZ_sub (x y : Int) : iZ x - iZ y = iZ (x - y) := (Int32.ofInt_sub x y).symm
theorem lZ_mul (x y : Int) : lZ x * lZ y = lZ (x * y) := (Int64.ofInt_mul x y).symm
theorem lZ_sub (x y : Int) : lZ x - lZ y = lZ (x - y) := (Int64.ofInt_sub x y).symm
theorem iZ_of (x : Int32) : iZ x.toInt = x := by unfold iZ; simp
theorem iZ_bm {z : Int} (h1 : -2147483648 ≤ z) (h2 : z ≤ 2147483647) : z.bmod (2 ^ 32) = z := by
  rw [Int.bmod_def]
  split <;> omega
theorem lZ_bm {z : Int} (h1 : -9223372036854775808 ≤ z) (h2 : z ≤ 9223372036854775807) : z.bmod (2 ^ 64) = z := by
  rw [Int.bmod_def]
  split <;> omega
theorem iZ_to {z : Int} (h : aIR z) : (iZ z).toInt = z := by
  unfold iZ
  rw [Int32.toInt_ofInt]
  exact iZ_bm h.1 h.2
theorem lZ_to {z : Int} (h1 : -9223372036854775808 ≤ z) (h2 : z ≤ 9223372036854775807) : (lZ z).toInt = z := by
  unfold lZ
  rw [Int64.toInt_ofInt]
  exact lZ_bm h1 h2
theorem iZ_ir (x : Int32) : aIR x.toInt := by
  have h1 := x.le_toInt
  have h2 := x.toInt_lt
  exact ⟨by omega, by omega⟩
theorem iZ_0 : iZ 0 = 0 := rfl
theorem iZ_lt {x y : Int} (hx : aIR x) (hy : aIR y) : iZ x < iZ y ↔ x < y := by rw [Int32.lt_iff_toInt_lt, iZ_to hx, iZ_to hy]
theorem iZ_le {x y : Int} (hx : aIR x) (hy : aIR y) : iZ x ≤ iZ y ↔ x ≤ y := by rw [Int32.le_iff_toInt_le, iZ_to hx, iZ_to hy]
theorem iZ_eq {x y : Int} (hx : aIR x) (hy : aIR y) : iZ x = iZ y ↔ x = y := by
  constructor
  · intro h
    have := congrArg Int32.toInt h
    rwa [iZ_to hx, iZ_to hy] at this
  · intro h; rw [h]
theorem iZ_cl {x : Int} (h0 : 0 ≤ x) (h : x ≤ 2147483647) : (iZ x).toNatClampNeg = x.toNat := by
  have h1 := iZ_to (z := x) ⟨by omega, h⟩
  unfold Int32.toNatClampNeg
  rw [h1]
theorem iZ_in {x m : Int} (h0 : 0 ≤ x) (h : x < m) (hm : m ≤ 2147483647) : vp_in (iZ x) m.toNat := by
  rw [vp_in_iff, iZ_to ⟨by omega, by omega⟩]
  omega
theorem iZ_ne0 {x : Int} (h0 : 0 < x) (h : x ≤ 2147483647) : ¬ iZ x = 0 := by
  rw [← iZ_0, iZ_eq ⟨by omega, h⟩ ⟨by omega, by omega⟩]
  omega
theorem iZ_nat {x : Int} (h0 : 0 ≤ x) : iZ x = nI x.toNat := by
  unfold iZ nI
  obtain ⟨n, rfl⟩ := Int.eq_ofNat_of_zero_le h0
  rw [Int.toNat_natCast]
  apply Int32.toBitVec.inj
  show BitVec.ofInt 32 (n : Int) = BitVec.ofNat 32 n
  exact BitVec.ofInt_natCast 32 n
theorem iZ_div {x y : Int} (h : (0 ≤ x ∧ x ≤ 2147483647) ∧ (0 < y ∧ y ≤ 2147483647)) : iZ x / iZ y = iZ (x / y) := by
  obtain ⟨⟨a, b⟩, c, d⟩ := h
  have e : 0 ≤ x / y := Int.ediv_nonneg a (by omega)
  rw [iZ_nat a, iZ_nat (show (0:Int) ≤ y by omega), iZ_nat e, pk_div (by omega) (by omega) (by omega)]
  congr 1
  obtain ⟨n, rfl⟩ := Int.eq_ofNat_of_zero_le a
  obtain ⟨m, rfl⟩ := Int.eq_ofNat_of_zero_le (show (0:Int) ≤ y by omega)
  simp only [Int.toNat_natCast]
  omega
theorem iZ_rem {x y : Int} (h : (0 ≤ x ∧ x ≤ 2147483647) ∧ (0 < y ∧ y ≤ 2147483647)) : iZ x - iZ x / iZ y * iZ y = iZ (x % y) := by
  obtain ⟨⟨a, b⟩, c, d⟩ := h
  have e : 0 ≤ x % y := Int.emod_nonneg x (by omega)
  rw [iZ_nat a, iZ_nat (show (0:Int) ≤ y by omega), iZ_nat e, pk_rem (by omega) (by omega) (by omega)]
  congr 1
  obtain ⟨n, rfl⟩ := Int.eq_ofNat_of_zero_le a
  obtain ⟨m, rfl⟩ := Int.eq_ofNat_of_zero_le (show (0:Int) ≤ y by omega)
  simp only [Int.toNat_natCast]
  omega
theorem iZ_am : ∀ k : Nat, k < 31 → (((nI k) &&& 31).toBitVec.smod 32).toNat = k := by decide +kernel
theorem iZ_shl {x y : Int} (h : (0 ≤ x ∧ x * 2 ^ y.toNat ≤ 2147483647) ∧ (0 ≤ y ∧ y < 31)) : iZ x <<< (iZ y &&& 31) = iZ (x * 2 ^ y.toNat) := by
  obtain ⟨⟨a, b⟩, c, d⟩ := h
  obtain ⟨n, rfl⟩ := Int.eq_ofNat_of_zero_le a
  obtain ⟨k, rfl⟩ := Int.eq_ofNat_of_zero_le c
  simp only [Int.toNat_natCast] at b ⊢
  have hb : ((n * 2 ^ k : Nat) : Int) ≤ ((2147483647 : Nat) : Int) := by
    rw [Int.natCast_mul, Int.natCast_pow]
    exact b
  have hb := Int.ofNat_le.mp hb
  rw [iZ_nat (Int.natCast_nonneg n), iZ_nat (Int.natCast_nonneg k), show (n : Int) * 2 ^ k = ((n * 2 ^ k : Nat) : Int) by simp, iZ_nat (Int.natCast_nonneg _)]
  simp only [Int.toNat_natCast]
  exact pk_shlN _ k (iZ_am k (by omega)) (by omega)
theorem iZ_shr {x y : Int} (h : (0 ≤ x ∧ x ≤ 2147483647) ∧ (0 ≤ y ∧ y < 31)) : iZ x >>> (iZ y &&& 31) = iZ (x / 2 ^ y.toNat) := by
  obtain ⟨⟨a, b⟩, c, d⟩ := h
  obtain ⟨n, rfl⟩ := Int.eq_ofNat_of_zero_le a
  obtain ⟨k, rfl⟩ := Int.eq_ofNat_of_zero_le c
  simp only [Int.toNat_natCast] at b ⊢
  rw [iZ_nat (Int.natCast_nonneg n), iZ_nat (Int.natCast_nonneg k), show (n : Int) / 2 ^ k = ((n / 2 ^ k : Nat) : Int) by simp, iZ_nat (Int.natCast_nonneg _)]
  simp only [Int.toNat_natCast]
  exact pk_shrN (by omega) _ k (iZ_am k (by omega))
theorem iZ_i2l {x : Int} (h : aIR x) : (iZ x).toInt64 = lZ x := by
  apply Int64.toInt.inj
  rw [lZ_to (by have := h.1; omega) (by have := h.2; omega), Int32.toInt_toInt64, iZ_to h]
theorem iZ_i2c (x : Int) : ((iZ x).toUInt32 % 65536).toInt32 = iZ (x % 65536) := by
  rw [pk_char]
  have e : 0 ≤ x % 65536 := Int.emod_nonneg x (by omega)
  rw [iZ_nat e]
  congr 1
  have h1 : ((iZ x).toBitVec.toNat : Int) = x % 4294967296 := by
    unfold iZ
    show ((BitVec.ofInt 32 x).toNat : Int) = _
    rw [BitVec.toNat_ofInt]
    omega
  omega
theorem iZ_max {x y : Int} (hx : aIR x) (hy : aIR y) : (if iZ x < iZ y then iZ y else iZ x) = iZ (max x y) := by
  by_cases h : x < y
  · rw [if_pos ((iZ_lt hx hy).mpr h), Int.max_eq_right (by omega)]
  · rw [if_neg (fun q => h ((iZ_lt hx hy).mp q)), Int.max_eq_left (by omega)]
theorem iZ_cmp {x y : Int} (h : (-9223372036854775808 ≤ x ∧ x ≤ 9223372036854775807) ∧ (-9223372036854775808 ≤ y ∧ y ≤ 9223372036854775807)) : lg_cmp (lZ x) (lZ y) = iZ (aCmp x y) := by
  obtain ⟨⟨a, b⟩, c, d⟩ := h
  unfold lg_cmp aCmp
  have e1 : (lZ x > lZ y) ↔ y < x := by rw [gt_iff_lt, Int64.lt_iff_toInt_lt, lZ_to a b, lZ_to c d]
  have e2 : (lZ x = lZ y) ↔ x = y := by rw [← Int64.toInt_inj, lZ_to a b, lZ_to c d]
  by_cases h1 : y < x
  · rw [if_pos (e1.mpr h1), if_neg (by omega), if_neg (by omega)]; rfl
  · rw [if_neg (fun q => h1 (e1.mp q))]
    by_cases h2 : x = y
    · rw [if_pos (e2.mpr h2), if_neg (by omega), if_pos h2]; rfl
    · rw [if_neg (fun q => h2 (e2.mp q)), if_pos (by omega)]; rfl
theorem iZ_min {x y : Int} (hx : aIR x) (hy : aIR y) : (if iZ x < iZ y then iZ x else iZ y) = iZ (min x y) := by
  by_cases h : x < y
  · rw [if_pos ((iZ_lt hx hy).mpr h), Int.min_eq_left (by omega)]
  · rw [if_neg (fun q => h ((iZ_lt hx hy).mp q)), Int.min_eq_right (by omega)]
/-! the lists of locals -/
theorem aFo_eq {c : List (Option aV) → Prop} (l : List (Option aV)) : aFo l c → c l := by
  induction l generalizing c with
  | nil => exact id
  | cons x l ih =>
    intro h
    cases x with
    | none => exact ih h
    | some v => exact ih h
theorem aGet_at : ∀ (l : List (Option aV)) (i : Nat) (v : aV), aGet l i = some v → l[i]? = some (some v)
  | [], _, _, h => by cases h
  | x :: l, 0, v, h => by rw [List.getElem?_cons_zero]; exact congrArg some h
  | x :: l, i + 1, v, h => by rw [List.getElem?_cons_succ]; exact aGet_at l i v h
theorem aClr_s {x : Option aV} {w : aV} (h : aClr x = some w) : x = some w ∧ aW2 w = false := by
  unfold aClr at h
  split at h
  · split at h
    · cases h
    · next q => cases h; exact ⟨rfl, q⟩
  · cases h
theorem aSet1_s : ∀ (l : List (Option aV)) (i : Nat) (v : aV) (l' : List (Option aV)), aSet1 l i v = some l' → l'.length = l.length ∧ i < l.length ∧ ∀ (j : Nat) (w : aV), l'[j]? = some (some w) → (j = i ∧ w = v) ∨ (j ≠ i ∧ l[j]? = some (some w) ∧ (j + 1 = i → aW2 w = false))
  | [], _, _, _, h => by cases h
  | x :: l, 0, v, l', h => by
    cases h
    refine ⟨rfl, Nat.succ_pos _, fun j w hw => ?_⟩
    cases j with
    | zero => rw [List.getElem?_cons_zero] at hw; cases hw; exact Or.inl ⟨rfl, rfl⟩
    | succ j => rw [List.getElem?_cons_succ] at hw; exact Or.inr ⟨by omega, by rw [List.getElem?_cons_succ]; exact hw, by omega⟩
  | x :: l, i + 1, v, l', h => by
    unfold aSet1 at h
    split at h
    · next l1 h1 =>
      obtain ⟨a1, a2, a3⟩ := aSet1_s l i v l1 h1
      cases h
      refine ⟨by simp [a1], by simp; omega, fun j w hw => ?_⟩
      cases j with
      | zero =>
        rw [List.getElem?_cons_zero] at hw
        cases i with
        | zero =>
          obtain ⟨b1, b2⟩ := aClr_s (Option.some.inj hw)
          exact Or.inr ⟨by omega, by rw [List.getElem?_cons_zero, b1], fun _ => b2⟩
        | succ i => exact Or.inr ⟨by omega, by rw [List.getElem?_cons_zero]; exact hw, by omega⟩
      | succ j =>
        rw [List.getElem?_cons_succ] at hw
        rcases a3 j w hw with ⟨b1, b2⟩ | ⟨b1, b2, b3⟩
        · exact Or.inl ⟨by omega, b2⟩
        · exact Or.inr ⟨by omega, by rw [List.getElem?_cons_succ]; exact b2, fun q => b3 (by omega)⟩
    · cases h
theorem aSet2_s : ∀ (l : List (Option aV)) (i : Nat) (v : aV) (l' : List (Option aV)), aSet2 l i v = some l' → l'.length = l.length ∧ i + 1 < l.length ∧ ∀ (j : Nat) (w : aV), l'[j]? = some (some w) → (j = i ∧ w = v) ∨ (j ≠ i ∧ j ≠ i + 1 ∧ l[j]? = some (some w) ∧ (j + 1 = i → aW2 w = false))
  | [], _, _, _, h => by cases h
  | x :: l, 0, v, l', h => by
    unfold aSet2 at h
    split at h
    · cases h
    · next y l1 =>
      cases h
      refine ⟨rfl, by simp, fun j w hw => ?_⟩
      match j, hw with
      | 0, hw => rw [List.getElem?_cons_zero] at hw; cases hw; exact Or.inl ⟨rfl, rfl⟩
      | 1, hw => rw [List.getElem?_cons_succ, List.getElem?_cons_zero] at hw; cases hw
      | j + 2, hw => exact Or.inr ⟨by omega, by omega, by rw [List.getElem?_cons_succ, List.getElem?_cons_succ] at hw ⊢; exact hw, by omega⟩
  | x :: l, i + 1, v, l', h => by
    unfold aSet2 at h
    split at h
    · next l1 h1 =>
      obtain ⟨a1, a2, a3⟩ := aSet2_s l i v l1 h1
      cases h
      refine ⟨by simp [a1], by simp; omega, fun j w hw => ?_⟩
      cases j with
      | zero =>
        rw [List.getElem?_cons_zero] at hw
        cases i with
        | zero =>
          obtain ⟨b1, b2⟩ := aClr_s (Option.some.inj hw)
          exact Or.inr ⟨by omega, by omega, by rw [List.getElem?_cons_zero, b1], fun _ => b2⟩
        | succ i => exact Or.inr ⟨by omega, by omega, by rw [List.getElem?_cons_zero]; exact hw, by omega⟩
      | succ j =>
        rw [List.getElem?_cons_succ] at hw
        rcases a3 j w hw with ⟨b1, b2⟩ | ⟨b1, b2, b3, b4⟩
        · exact Or.inl ⟨by omega, b2⟩
        · exact Or.inr ⟨by omega, by omega, by rw [List.getElem?_cons_succ]; exact b3, fun q => b4 (by omega)⟩
    · cases h
/-- the machine's locals are the walk's -/
def aLs (g : aG) (nL : Nat) (ls : List (Option aV)) (la : Array Slot) : Prop := la.size = nL ∧ lv_wf la ∧ ∀ (i : Nat) (v : aV), ls[i]? = some (some v) → la[i]? = some (.val (aC g v))
def aPr (g : aG) : List (Option aV) → Nat → List (Nat × Value)
  | [], _ => []
  | none :: l, i => aPr g l (i + 1)
  | some v :: l, i => (i, aC g v) :: aPr g l (i + 1)
theorem aPr_mem (g : aG) : ∀ (l : List (Option aV)) (i : Nat) (q : Nat × Value), q ∈ aPr g l i → ∃ (j : Nat) (v : aV), q = (i + j, aC g v) ∧ l[j]? = some (some v)
  | [], _, _, h => by cases h
  | none :: l, i, q, h => by
    obtain ⟨j, v, h1, h2⟩ := aPr_mem g l (i + 1) q h
    exact ⟨j + 1, v, by rw [h1]; congr 1; omega, by rw [List.getElem?_cons_succ]; exact h2⟩
  | some w :: l, i, q, h => by
    rcases List.mem_cons.mp h with h | h
    · exact ⟨0, w, h, rfl⟩
    · obtain ⟨j, v, h1, h2⟩ := aPr_mem g l (i + 1) q h
      exact ⟨j + 1, v, by rw [h1]; congr 1; omega, by rw [List.getElem?_cons_succ]; exact h2⟩
theorem aPr_in (g : aG) : ∀ (l : List (Option aV)) (i j : Nat) (v : aV), l[j]? = some (some v) → (i + j, aC g v) ∈ aPr g l i
  | [], _, _, _, h => by simp at h
  | none :: l, i, j, v, h => by
    cases j with
    | zero => cases h
    | succ j =>
      rw [List.getElem?_cons_succ] at h
      have := aPr_in g l (i + 1) j v h
      rw [show i + 1 + j = i + (j + 1) by omega] at this
      exact this
  | some w :: l, i, j, v, h => by
    cases j with
    | zero => cases h; exact List.mem_cons_self
    | succ j =>
      rw [List.getElem?_cons_succ] at h
      have := aPr_in g l (i + 1) j v h
      rw [show i + 1 + j = i + (j + 1) by omega] at this
      exact List.mem_cons_of_mem _ this
theorem aLs.has {g : aG} {nL : Nat} {ls : List (Option aV)} {la : Array Slot} (h : aLs g nL ls la) : lv_has la nL (aPr g ls 0) := by
  refine ⟨h.1, h.2.1, fun q hq => ?_⟩
  obtain ⟨j, v, h1, h2⟩ := aPr_mem g ls 0 q hq
  rw [h1, Nat.zero_add]
  exact h.2.2 j v h2
theorem aC_cat {g : aG} (v : aV) : (aC g v).category = if aW2 v = true then 2 else 1 := by
  rcases v with v | v | v | v
  · rfl
  · rfl
  · rfl
  · cases v <;> rfl
theorem aLs.set1 {g : aG} {nL i : Nat} {ls l' : List (Option aV)} {la : Array Slot} {v : aV} (hs : aSet1 ls i v = some l') (h : lv_has la nL ((i, aC g v) :: (aPr g ls 0).filter (fun q => !(q.1 == i) && !(q.1 + 1 == i && q.2.category == 2)))) : aLs g nL l' la := by
  obtain ⟨h1, h2, h3⟩ := aSet1_s ls i v l' hs
  refine ⟨h.1, h.2.1, fun j w hw => ?_⟩
  rcases h3 j w hw with ⟨rfl, rfl⟩ | ⟨b1, b2, b3⟩
  · exact h.2.2 _ List.mem_cons_self
  · refine h.2.2 (j, aC g w) (List.mem_cons_of_mem _ (List.mem_filter.mpr ⟨?_, ?_⟩))
    · have := aPr_in g ls 0 j w b2
      rwa [Nat.zero_add] at this
    · have e1 : (j == i) = false := by simp [b1]
      have e2 : (j + 1 == i && (aC g w).category == 2) = false := by
        by_cases q : j + 1 = i
        · rw [aC_cat, b3 q]; simp
        · simp [q]
      simp only [e1, e2, Bool.not_false, Bool.and_self]
theorem aLs.set2 {g : aG} {nL i : Nat} {ls l' : List (Option aV)} {la : Array Slot} {v : aV} (hs : aSet2 ls i v = some l') (h : lv_has la nL ((i, aC g v) :: (aPr g ls 0).filter (fun q => !(q.1 == i) && (!(q.1 == i + 1) && !(q.1 + 1 == i && q.2.category == 2))))) : aLs g nL l' la := by
  obtain ⟨h1, h2, h3⟩ := aSet2_s ls i v l' hs
  refine ⟨h.1, h.2.1, fun j w hw => ?_⟩
  rcases h3 j w hw with ⟨rfl, rfl⟩ | ⟨b1, b0, b2, b3⟩
  · exact h.2.2 _ List.mem_cons_self
  · refine h.2.2 (j, aC g w) (List.mem_cons_of_mem _ (List.mem_filter.mpr ⟨?_, ?_⟩))
    · have := aPr_in g ls 0 j w b2
      rwa [Nat.zero_add] at this
    · have e1 : (j == i) = false := by simp [b1]
      have e3 : (j == i + 1) = false := by simp [b0]
      have e2 : (j + 1 == i && (aC g w).category == 2) = false := by
        by_cases q : j + 1 = i
        · rw [aC_cat, b3 q]; simp
        · simp [q]
      simp only [e1, e2, e3, Bool.not_false, Bool.and_self]
end
section
/-! the walk's memory and the machine's heap -/
theorem aAll_len : aAll.length = 320 := by decide +kernel
theorem aAll_off : ∀ i : Nat, i < 320 → aOff (aAll.getD i (0, 0, 0)) = i ∧ (aAll.getD i (0, 0, 0)).1 < 20 := by decide +kernel
theorem aAll_get {i : Nat} (h : i < 320) : aAll[i]? = some (aAll.getD i (0, 0, 0)) := by
  have h1 : i < aAll.length := by rw [aAll_len]; exact h
  rw [List.getD_eq_getElem?_getD, List.getElem?_eq_getElem h1]
  rfl
theorem aOkp {p : aP} (h : aAll[aOff p]? = some p) : aOff p < 320 ∧ aAll.getD (aOff p) (0, 0, 0) = p ∧ p.1 < 20 := by
  have h1 : aOff p < aAll.length := (List.getElem?_eq_some_iff.mp h).1
  rw [aAll_len] at h1
  have h2 := aAll_get h1
  have h3 : aAll.getD (aOff p) (0, 0, 0) = p := Option.some.inj (h2.symm.trans h)
  exact ⟨h1, h3, by have := (aAll_off _ h1).2; rw [h3] at this; exact this⟩
theorem aAd_of {g : aG} {p : aP} (h : p.1 < 20) : aAd g p = aBase g + aOff p := by
  unfold aAd
  split
  · next q => omega
  · next q => omega
  · rfl
theorem aWs_len (g : aG) (s : aSt) (z : aM) : (aWs g s z).length = aCnt s := by simp [aWs]
theorem aWs_at {g : aG} {s : aSt} {z : aM} {p : aP} (h : aAll[aOff p]? = some p) (hc : aOff p < aCnt s) : (aWs g s z)[aOff p]? = some (aAd g p, aCe g s z p) := by
  obtain ⟨h1, h2, h3⟩ := aOkp h
  simp only [aWs, List.getElem?_map, List.getElem?_range hc, Option.map_some, h2, aAd_of h3]
theorem aWs_D {g : aG} {s : aSt} {z : aM} : va_D (aA g) (aWs g s z) := by
  have key : ∀ (k : Nat) (q : Nat × va_E), (aWs g s z)[k]? = some q → q.1 = aBase g + k := by
    intro k q h
    have hk : k < aCnt s := by
      have := (List.getElem?_eq_some_iff.mp h).1
      rwa [aWs_len] at this
    simp only [aWs, List.getElem?_map, List.getElem?_range hk, Option.map_some] at h
    cases h
    rfl
  refine ⟨fun i j p q h1 h2 h3 => ?_, fun k q h => ?_⟩
  · have a := key i p h1
    have b := key j q h2
    omega
  · have a := key k q h
    show aBase g ≤ q.1
    omega
/-- memory that differs at one thing alone -/
theorem aWs_set {g : aG} {s s' : aSt} {z z' : aM} {p : aP} {e : va_E} (h : aAll[aOff p]? = some p) (hc : aOff p < aCnt s) (hm : aCnt s ≤ 320) (hs : aCnt s' = aCnt s) (he : e = aCe g s' z' p) (ho : ∀ q : aP, q ≠ p → aCe g s' z' q = aCe g s z q) : (aWs g s z).set (aOff p) (aAd g p, e) = aWs g s' z' := by
  obtain ⟨h1, h2, h3⟩ := aOkp h
  apply List.ext_getElem?
  intro i
  by_cases hi : i = aOff p
  · subst hi
    rw [List.getElem?_set_self (by rw [aWs_len]; exact hc), aWs_at h (by rw [hs]; exact hc), he]
  · rw [List.getElem?_set_ne (fun q => hi q.symm)]
    by_cases hk : i < aCnt s
    · simp only [aWs, List.getElem?_map, hs, List.getElem?_range hk, Option.map_some]
      congr 2
      by_cases hq : i < 320
      · refine (ho _ (fun q => hi ?_)).symm
        rw [← q]
        exact ((aAll_off i hq).1).symm
      · omega
    · rw [List.getElem?_eq_none (by rw [aWs_len]; omega), List.getElem?_eq_none (by rw [aWs_len, hs]; omega)]
theorem aFl_le : ∀ ci : Nat, ∀ k : Nat, (aFl ci)[k]? ≠ none → k < (aFl ci).length := fun ci k h => by
  rcases Nat.lt_or_ge k (aFl ci).length with q | q
  · exact q
  · exact absurd (List.getElem?_eq_none q) h
theorem aFs_at {g : aG} {s : aSt} {z : aM} {p : aP} {ci k : Nat} (hk : k < (aFl ci).length) : ((List.range (aFl ci).length).map (aFv g s z p ci))[k]? = some (aFv g s z p ci k) := by
  simp only [List.getElem?_map, List.getElem?_range hk, Option.map_some]
theorem aFs_set {g : aG} {s s' : aSt} {z z' : aM} {p : aP} {ci k : Nat} {v : Value} (hv : v = aFv g s' z' p ci k) (ho : ∀ j, j ≠ k → aFv g s' z' p ci j = aFv g s z p ci j) : ((List.range (aFl ci).length).map (aFv g s z p ci)).set k v = (List.range (aFl ci).length).map (aFv g s' z' p ci) := by
  apply List.ext_getElem?
  intro j
  by_cases hj : j < (aFl ci).length
  · rw [List.getElem?_map, List.getElem?_range hj, Option.map_some]
    by_cases e : j = k
    · subst e
      rw [List.getElem?_set_self (by simpa using hj), hv]
    · rw [List.getElem?_set_ne (fun q => e q.symm), List.getElem?_map, List.getElem?_range hj, Option.map_some, ho j e]
  · rw [List.getElem?_eq_none (by simpa using hj), List.getElem?_eq_none (by simpa using hj)]
theorem aWr_ne {z : aM} {p q : aP} {k x j : Int} (h : q ≠ p) : aWr z p k x q j = z q j := by
  unfold aWr
  rw [if_neg (fun w => h w.1)]
theorem aWr_at {z : aM} {p : aP} {k x : Int} : aWr z p k x p k = x := by
  unfold aWr
  rw [if_pos ⟨rfl, rfl⟩]
theorem aWr_nk {z : aM} {p q : aP} {k x j : Int} (h : j ≠ k) : aWr z p k x q j = z q j := by
  unfold aWr
  rw [if_neg (fun w => h w.2)]
theorem aRv_eq {g : aG} {s : aSt} {p : aP} {k : Int} (h : match s with
    | none => True
    | some (_, r) => r p k = true) : aRv g s p k = some (aAd g (aRf p k)) := by
  unfold aRv
  cases s with
  | none => rfl
  | some q => exact if_pos h
theorem aCe_ne {g : aG} {s : aSt} {z z' : aM} {q : aP} (h : ∀ j, z' q j = z q j) : aCe g s z' q = aCe g s z q := by
  have : z' q = z q := funext h
  unfold aCe aFv aAr
  rw [this]
end
section
/-! a frame of the machine that runs one of the methods, and what it is for the walk to hold there -/
def aFrm (l : Launch) (g : aG) (f : aFr) (y o : Nat) (p : Program) (e : Env) (R : Room) (s : State) (m : MethodId) (args : Array Value) (below : List Frame) (meth : Method) (c : Code) : Prop :=
  (p.tables.exec = Jvm.exec ∧ l.stackTraces = false ∧ c.code = (aMt y).2.1 ∧ c.maxLocals = (aMt y).2.2.1 ∧ s.vm.findClass (aRn o) = some m.cls ∧ meth.locks = false ∧ meth.sig.returnType = (aMt y).2.2.2.1) ∧
  (aKN g s ∧ aBase g ≤ s.heap.size ∧ (∀ q : Nat, q < aBase g → s.heap[q]? = g.2.2.2.1[q]?)) ∧
  (c.exceptionTable.toList = tableOf f.2.2.2.2 ∧ meth.name = (aMt y).1.name ∧ aRk (aMt y).2.2.2.1 = f.2.2.2.1 ∧ (f.2.2.2.2 = [] ∨ o = 8) ∧ ∀ q ∈ f.2.2.2.2, aCx q.2.2.2 < 6) ∧
  (f.1 ≤ R.frames ∧ f.2.1 ≤ R.cells ∧ f.2.2.1 ≤ R.slots ∧ 500 * f.1 ≤ R.locals ∧ g.2.2.2.2.2 < 2 ^ 31)
/-- the walk holds at this place: the machine, standing there, comes to the method's end as Q and X say -/
def aBs (l : Launch) (g : aG) (f : aFr) (Q : Option aV → aSt → aM → Prop) (X : Nat → aSt → aM → Prop) (p : Program) (e : Env) (R : Room) (s : State) (m : MethodId) (args : Array Value) (below : List Frame) (meth : Method) (c : Code) : aK → aM → Nat → List (Option aV) → List aV → Prop := fun k z pc ls st =>
  (∀ v ∈ st, aLv k.1 v) → (∀ v, some v ∈ ls → aLv k.1 v) → (k.2.1 ≤ f.2.1 ∧ k.2.2 ≤ f.2.2.1) → ls.length = c.maxLocals →
  ∀ (H : Heap) (locs : List Loc) (la : Array Slot), aRep g k.1 z H → va_S (aA g) s.heap H locs → aLs g c.maxLocals ls la →
    W p l e R s m args below meth c H locs k.2.1 k.2.2 (vx_MQ below (aQ g Q) (aX g X) args s f.2.1 f.2.2.1 (aA g)) (F0 m pc la (st.map (aC g)))
/-- how long an instruction is (0: not said here) -/
def aLn (i : Instr) : Nat := match i with
  | .bipush _ | .iload _ | .lload _ | .aload _ | .dload _ | .fload _ | .istore _ | .lstore _ | .astore _ | .dstore _ | .fstore _ | .newarray _ | .ldc _ => 2
  | .sipush _ | .ldc2_w _ | .iinc _ _ | .ifCond _ _ | .if_icmp _ _ | .goto _ | .getfield _ | .putfield _ | .new _ | .anewarray _ | .invokevirtual _ | .invokestatic _ | .invokespecial _ | .ldc_w _ => 3
  | .tableswitch _ _ _ _ => 0
  | _ => 1
def aSwk (pc : Nat) (lo : Int) : List Int → List (Int × Nat) → Bool
  | [], [] => true
  | o :: os, (v, t) :: r => decide (v = lo) && (decide ((pc : Int) + o = (t : Int)) && aSwk pc (lo + 1) os r)
  | _, _ => false
/-- the constructor that a throw calls, and what stands around it -/
def aThk (o : Nat) (cc : ByteArray) (pc t b idx : Nat) : Bool := match aThs[b]? with
  | some (o', x, _, ik, is, ic, ll) => decide (o' = o) && (decide (x = t) && (decide (ik = idx) && (decide (t < 6) && (decide (decode cc (pc + 3) = .ok (.dup, 1)) &&
      ((decide (ll = 2) && (decide (decode cc (pc + 4) = .ok (.ldc is, 2)) && (decide (decode cc (pc + 6) = .ok (.invokespecial ic, 3)) && decide (decode cc (pc + 9) = .ok (.athrow, 1))))) ||
       (decide (ll = 3) && (decide (decode cc (pc + 4) = .ok (.ldc_w is, 3)) && (decide (decode cc (pc + 7) = .ok (.invokespecial ic, 3)) && decide (decode cc (pc + 10) = .ok (.athrow, 1))))))))))
  | none => false
def aOk2 (y o : Nat) (cc : ByteArray) (pc : Nat) (ins : Instr) (t a b : Nat) (sw : List (Int × Nat)) : Bool := match ins with
  | .bipush m => decide ((Int8.ofInt m).toInt32 = iZ m)
  | .sipush m => decide ((Int16.ofInt m).toInt32 = iZ m)
  | .ldc2_w i => match sw with
    | (v, _) :: _ => decide ((o, i, v) ∈ aLcs)
    | [] => false
  | .ldc i => match sw with
    | (v, _) :: _ => decide (o = 3) && (decide ((aPts[v.toNat]?).map (·.1) = some i) && decide (0 ≤ v ∧ v < 9))
    | [] => false
  | .ifCond _ off => decide ((pc : Int) + off = (t : Int))
  | .if_icmp _ off => decide ((pc : Int) + off = (t : Int))
  | .goto off => decide ((pc : Int) + off = (t : Int))
  | .tableswitch d lo hi offs => decide ((pc : Int) + d = (t : Int)) && (decide (hi = lo + (offs.size : Int) - 1) && (decide (-2147483648 ≤ lo ∧ hi ≤ 2147483647) && aSwk pc lo offs.toList sw))
  | .getfield i => decide ((o, i, a, b) ∈ aPfs) && (match sw with
    | (v, _) :: _ => decide (v = (b : Int))
    | [] => false)
  | .putfield i => decide ((o, i, a, b) ∈ aPfs) && ((match sw with
    | (v, _) :: _ => decide (v = (b : Int))
    | [] => false) && (if (aFl a)[b]? = some 2 then (aTX a b).2.2.2 && (decide ((aMt y).1.name = "<init>") && decide ((aTX a b).1 = aRn o)) else !(aTX a b).2.2.2))
  | .new i => if a = 100 then aThk o cc pc t b i else decide ((o, i, a) ∈ aPcs)
  | .newarray ty => aIn (.arrayClass (newarray.typeOf ty))
  | .anewarray i => decide ((o, i, a) ∈ aPcs) && decide (a = 4 ∨ a = 5)
  | .invokevirtual i => decide ((o, i, a, b) ∈ aPms) && (decide (a = 0 ∨ a = 9 ∨ a = 10) && decide (a = 0 → (parseMethodDescriptor (aMt b).1.desc).map (fun d => d.parameters.length + 1) = some t))
  | .invokestatic i => decide ((o, i, a, b) ∈ aPms) && (decide (a = 1 ∨ a = 5 ∨ a = 6 ∨ a = 7 ∨ a = 8) && decide (a = 1 ∨ a = 5 → (parseMethodDescriptor (aMt b).1.desc).map (fun d => d.parameters.length) = some t))
  | .invokespecial i => decide ((o, i, a, b) ∈ aPms) && (decide (a = 2 ∨ a = 3 ∨ a = 4) && decide (a = 3 ∨ a = 4 → (parseMethodDescriptor (aMt b).1.desc).map (fun d => d.parameters.length + 1) = some t))
  | _ => true
def aOk (y o : Nat) (cc : ByteArray) (pc : Nat) (I : aI) : Bool := match I with
  | (ins, n, t, a, b, sw) => decide (decode cc pc = .ok (ins, n - pc)) && ((decide (aLn ins = 0) || decide (n = pc + aLn ins)) && aOk2 y o cc pc ins t a b sw)
theorem aOk_d {y o pc n t a b : Nat} {cc : ByteArray} {ins : Instr} {sw : List (Int × Nat)} (h : aOk y o cc pc (ins, n, t, a, b, sw) = true) (hl : aLn ins ≠ 0) : decode cc pc = .ok (ins, aLn ins) ∧ n = pc + aLn ins ∧ aOk2 y o cc pc ins t a b sw = true := by
  simp only [aOk, Bool.and_eq_true, Bool.or_eq_true, decide_eq_true_eq] at h
  obtain ⟨h1, h2, h3⟩ := h
  have hn : n = pc + aLn ins := h2.elim (fun q => absurd q hl) id
  refine ⟨?_, hn, h3⟩
  rw [h1, hn]
  congr 2
  omega
theorem aLv_t {s : aSt} (x : Int) (st : List aV) (h : ∀ v ∈ st, aLv s v) : ∀ v ∈ ((.inl x : aV) :: st), aLv s v := fun v hv => (List.mem_cons.mp hv).elim (fun q => by rw [q]; trivial) (h v)
theorem aLv_c {s : aSt} {w : aV} {st : List aV} (hw : aLv s w) (h : ∀ v ∈ st, aLv s v) : ∀ v ∈ (w :: st), aLv s v := fun v hv => (List.mem_cons.mp hv).elim (fun q => by rw [q]; exact hw) (h v)
theorem aLv_tl {s : aSt} {w : aV} {st : List aV} (h : ∀ v ∈ (w :: st), aLv s v) : ∀ v ∈ st, aLv s v := fun v hv => h v (List.mem_cons_of_mem _ hv)
theorem aLv_gt {s : aSt} {ls : List (Option aV)} {i : Nat} {v : aV} (h : ∀ v, some v ∈ ls → aLv s v) (hg : aGet ls i = some v) : aLv s v := h v (List.mem_of_getElem? (aGet_at ls i v hg))
theorem aLv_s1 {s : aSt} {ls l' : List (Option aV)} {i : Nat} {v : aV} (h : ∀ v, some v ∈ ls → aLv s v) (hv : aLv s v) (hg : aSet1 ls i v = some l') : ∀ v, some v ∈ l' → aLv s v := by
  intro w hw
  obtain ⟨j, hj⟩ := List.getElem?_of_mem hw
  rcases (aSet1_s ls i v l' hg).2.2 j w hj with ⟨-, rfl⟩ | ⟨-, q, -⟩
  · exact hv
  · exact h w (List.mem_of_getElem? q)
theorem aLv_s2 {s : aSt} {ls l' : List (Option aV)} {i : Nat} {v : aV} (h : ∀ v, some v ∈ ls → aLv s v) (hv : aLv s v) (hg : aSet2 ls i v = some l') : ∀ v, some v ∈ l' → aLv s v := by
  intro w hw
  obtain ⟨j, hj⟩ := List.getElem?_of_mem hw
  rcases (aSet2_s ls i v l' hg).2.2 j w hj with ⟨-, rfl⟩ | ⟨-, -, q, -⟩
  · exact hv
  · exact h w (List.mem_of_getElem? q)
end
section
/-! THE JVM KEEPS TO THE STEP: the plain instructions (printed by wip/whole/sound.py) -/
theorem sk_iconst {l : Launch} {g : aG} {f : aFr} {y o : Nat} {Q : Option aV → aSt → aM → Prop} {X : Nat → aSt → aM → Prop} {p : Program} {e : Env} {R : Room} {s : State} {m : MethodId} {args : Array Value} {below : List Frame} {meth : Method} {c : Code} (hF : aFrm l g f y o p e R s m args below meth c) {pc n t a b : Nat} {sw : List (Int × Nat)} {i9 : Int} (hI : aOk y o (aMt y).2.1 pc (.iconst i9, n, t, a, b, sw) = true) {k : aK} {z : aM} {ls : List (Option aV)} {st : List aV} {K : aK → aM → Nat → List (Option aV) → List aV → Prop} (h : stp l g f Q X pc (.iconst i9, n, t, a, b, sw) k z ls st K) (hK : ∀ k z pc ls st, K k z pc ls st → aBs l g f Q X p e R s m args below meth c k z pc ls st) : aBs l g f Q X p e R s m args below meth c k z pc ls st := by
  obtain ⟨⟨hx, hst, hb, hml, hown, hlk, hrt⟩, ⟨hKN, hbs, hold⟩, ⟨hex, hnm, hrk, hho, hhc⟩, hr1, hr2, hr3, hr4, hr5⟩ := hF
  obtain ⟨hd, rfl, h2⟩ := aOk_d hI (by first | decide | (intro q; cases q))
  have h9 : K k z _ ls ((.inl (i9)) :: st) := h
  intro hs hl hbd hlen H locs la hR hS hL
  refine W.eq (g2 := F0 m pc la (st.map (aC g))) rfl ?_
  refine lv_iconst hx hb hd rfl ?_
  exact hK _ _ _ _ _ h9 (aLv_c (w := .inl (i9)) trivial hs) hl hbd hlen H locs la hR hS hL

theorem sk_bipush {l : Launch} {g : aG} {f : aFr} {y o : Nat} {Q : Option aV → aSt → aM → Prop} {X : Nat → aSt → aM → Prop} {p : Program} {e : Env} {R : Room} {s : State} {m : MethodId} {args : Array Value} {below : List Frame} {meth : Method} {c : Code} (hF : aFrm l g f y o p e R s m args below meth c) {pc n t a b : Nat} {sw : List (Int × Nat)} {i9 : Int} (hI : aOk y o (aMt y).2.1 pc (.bipush i9, n, t, a, b, sw) = true) {k : aK} {z : aM} {ls : List (Option aV)} {st : List aV} {K : aK → aM → Nat → List (Option aV) → List aV → Prop} (h : stp l g f Q X pc (.bipush i9, n, t, a, b, sw) k z ls st K) (hK : ∀ k z pc ls st, K k z pc ls st → aBs l g f Q X p e R s m args below meth c k z pc ls st) : aBs l g f Q X p e R s m args below meth c k z pc ls st := by
  obtain ⟨⟨hx, hst, hb, hml, hown, hlk, hrt⟩, ⟨hKN, hbs, hold⟩, ⟨hex, hnm, hrk, hho, hhc⟩, hr1, hr2, hr3, hr4, hr5⟩ := hF
  obtain ⟨hd, rfl, h2⟩ := aOk_d hI (by first | decide | (intro q; cases q))
  have h9 : K k z _ ls ((.inl (i9)) :: st) := h
  intro hs hl hbd hlen H locs la hR hS hL
  refine W.eq (g2 := F0 m pc la (st.map (aC g))) rfl ?_
  refine lv_bipush hx hb hd (of_decide_eq_true h2) ?_
  exact hK _ _ _ _ _ h9 (aLv_c (w := .inl (i9)) trivial hs) hl hbd hlen H locs la hR hS hL

theorem sk_sipush {l : Launch} {g : aG} {f : aFr} {y o : Nat} {Q : Option aV → aSt → aM → Prop} {X : Nat → aSt → aM → Prop} {p : Program} {e : Env} {R : Room} {s : State} {m : MethodId} {args : Array Value} {below : List Frame} {meth : Method} {c : Code} (hF : aFrm l g f y o p e R s m args below meth c) {pc n t a b : Nat} {sw : List (Int × Nat)} {i9 : Int} (hI : aOk y o (aMt y).2.1 pc (.sipush i9, n, t, a, b, sw) = true) {k : aK} {z : aM} {ls : List (Option aV)} {st : List aV} {K : aK → aM → Nat → List (Option aV) → List aV → Prop} (h : stp l g f Q X pc (.sipush i9, n, t, a, b, sw) k z ls st K) (hK : ∀ k z pc ls st, K k z pc ls st → aBs l g f Q X p e R s m args below meth c k z pc ls st) : aBs l g f Q X p e R s m args below meth c k z pc ls st := by
  obtain ⟨⟨hx, hst, hb, hml, hown, hlk, hrt⟩, ⟨hKN, hbs, hold⟩, ⟨hex, hnm, hrk, hho, hhc⟩, hr1, hr2, hr3, hr4, hr5⟩ := hF
  obtain ⟨hd, rfl, h2⟩ := aOk_d hI (by first | decide | (intro q; cases q))
  have h9 : K k z _ ls ((.inl (i9)) :: st) := h
  intro hs hl hbd hlen H locs la hR hS hL
  refine W.eq (g2 := F0 m pc la (st.map (aC g))) rfl ?_
  refine lv_sipush hx hb hd (of_decide_eq_true h2) ?_
  exact hK _ _ _ _ _ h9 (aLv_c (w := .inl (i9)) trivial hs) hl hbd hlen H locs la hR hS hL

theorem sk_iadd {l : Launch} {g : aG} {f : aFr} {y o : Nat} {Q : Option aV → aSt → aM → Prop} {X : Nat → aSt → aM → Prop} {p : Program} {e : Env} {R : Room} {s : State} {m : MethodId} {args : Array Value} {below : List Frame} {meth : Method} {c : Code} (hF : aFrm l g f y o p e R s m args below meth c) {pc n t a b : Nat} {sw : List (Int × Nat)}  (hI : aOk y o (aMt y).2.1 pc (.iadd, n, t, a, b, sw) = true) {k : aK} {z : aM} {ls : List (Option aV)} {st : List aV} {K : aK → aM → Nat → List (Option aV) → List aV → Prop} (h : stp l g f Q X pc (.iadd, n, t, a, b, sw) k z ls st K) (hK : ∀ k z pc ls st, K k z pc ls st → aBs l g f Q X p e R s m args below meth c k z pc ls st) : aBs l g f Q X p e R s m args below meth c k z pc ls st := by
  obtain ⟨⟨hx, hst, hb, hml, hown, hlk, hrt⟩, ⟨hKN, hbs, hold⟩, ⟨hex, hnm, hrk, hho, hhc⟩, hr1, hr2, hr3, hr4, hr5⟩ := hF
  obtain ⟨hd, rfl, h2⟩ := aOk_d hI (by first | decide | (intro q; cases q))
  rcases st with _ | ⟨y1, st⟩
  · exact False.elim h
  · rcases y1 with y1 | y1 | y1 | y1
    · rcases st with _ | ⟨x1, st⟩
      · exact False.elim h
      · rcases x1 with x1 | x1 | x1 | x1
        · have h9 : K k z _ ls ((.inl (x1 + y1)) :: st) := h
          intro hs hl hbd hlen H locs la hR hS hL
          refine W.eq (g2 := F0 m pc la ((.int (iZ y1)) :: (.int (iZ x1)) :: st.map (aC g))) rfl ?_
          refine lv_iadd hx hb hd ?_
          rw [iZ_add]
          exact hK _ _ _ _ _ h9 (aLv_c (w := .inl (x1 + y1)) trivial (aLv_tl (aLv_tl hs))) hl hbd hlen H locs la hR hS hL
        · exact False.elim h
        · exact False.elim h
        · exact False.elim h
    · exact False.elim h
    · exact False.elim h
    · exact False.elim h

theorem sk_isub {l : Launch} {g : aG} {f : aFr} {y o : Nat} {Q : Option aV → aSt → aM → Prop} {X : Nat → aSt → aM → Prop} {p : Program} {e : Env} {R : Room} {s : State} {m : MethodId} {args : Array Value} {below : List Frame} {meth : Method} {c : Code} (hF : aFrm l g f y o p e R s m args below meth c) {pc n t a b : Nat} {sw : List (Int × Nat)}  (hI : aOk y o (aMt y).2.1 pc (.isub, n, t, a, b, sw) = true) {k : aK} {z : aM} {ls : List (Option aV)} {st : List aV} {K : aK → aM → Nat → List (Option aV) → List aV → Prop} (h : stp l g f Q X pc (.isub, n, t, a, b, sw) k z ls st K) (hK : ∀ k z pc ls st, K k z pc ls st → aBs l g f Q X p e R s m args below meth c k z pc ls st) : aBs l g f Q X p e R s m args below meth c k z pc ls st := by
  obtain ⟨⟨hx, hst, hb, hml, hown, hlk, hrt⟩, ⟨hKN, hbs, hold⟩, ⟨hex, hnm, hrk, hho, hhc⟩, hr1, hr2, hr3, hr4, hr5⟩ := hF
  obtain ⟨hd, rfl, h2⟩ := aOk_d hI (by first | decide | (intro q; cases q))
  rcases st with _ | ⟨y1, st⟩
  · exact False.elim h
  · rcases y1 with y1 | y1 | y1 | y1
    · rcases st with _ | ⟨x1, st⟩
      · exact False.elim h
      · rcases x1 with x1 | x1 | x1 | x1
        · have h9 : K k z _ ls ((.inl (x1 - y1)) :: st) := h
          intro hs hl hbd hlen H locs la hR hS hL
          refine W.eq (g2 := F0 m pc la ((.int (iZ y1)) :: (.int (iZ x1)) :: st.map (aC g))) rfl ?_
          refine lv_isub hx hb hd ?_
          rw [iZ_sub]
          exact hK _ _ _ _ _ h9 (aLv_c (w := .inl (x1 - y1)) trivial (aLv_tl (aLv_tl hs))) hl hbd hlen H locs la hR hS hL
        · exact False.elim h
        · exact False.elim h
        · exact False.elim h
    · exact False.elim h
    · exact False.elim h
    · exact False.elim h

theorem sk_imul {l : Launch} {g : aG} {f : aFr} {y o : Nat} {Q : Option aV → aSt → aM → Prop} {X : Nat → aSt → aM → Prop} {p : Program} {e : Env} {R : Room} {s : State} {m : MethodId} {args : Array Value} {below : List Frame} {meth : Method} {c : Code} (hF : aFrm l g f y o p e R s m args below meth c) {pc n t a b : Nat} {sw : List (Int × Nat)}  (hI : aOk y o (aMt y).2.1 pc (.imul, n, t, a, b, sw) = true) {k : aK} {z : aM} {ls : List (Option aV)} {st : List aV} {K : aK → aM → Nat → List (Option aV) → List aV → Prop} (h : stp l g f Q X pc (.imul, n, t, a, b, sw) k z ls st K) (hK : ∀ k z pc ls st, K k z pc ls st → aBs l g f Q X p e R s m args below meth c k z pc ls st) : aBs l g f Q X p e R s m args below meth c k z pc ls st := by
  obtain ⟨⟨hx, hst, hb, hml, hown, hlk, hrt⟩, ⟨hKN, hbs, hold⟩, ⟨hex, hnm, hrk, hho, hhc⟩, hr1, hr2, hr3, hr4, hr5⟩ := hF
  obtain ⟨hd, rfl, h2⟩ := aOk_d hI (by first | decide | (intro q; cases q))
  rcases st with _ | ⟨y1, st⟩
  · exact False.elim h
  · rcases y1 with y1 | y1 | y1 | y1
    · rcases st with _ | ⟨x1, st⟩
      · exact False.elim h
      · rcases x1 with x1 | x1 | x1 | x1
        · have h9 : K k z _ ls ((.inl (x1 * y1)) :: st) := h
          intro hs hl hbd hlen H locs la hR hS hL
          refine W.eq (g2 := F0 m pc la ((.int (iZ y1)) :: (.int (iZ x1)) :: st.map (aC g))) rfl ?_
          refine lv_imul hx hb hd ?_
          rw [iZ_mul]
          exact hK _ _ _ _ _ h9 (aLv_c (w := .inl (x1 * y1)) trivial (aLv_tl (aLv_tl hs))) hl hbd hlen H locs la hR hS hL
        · exact False.elim h
        · exact False.elim h
        · exact False.elim h
    · exact False.elim h
    · exact False.elim h
    · exact False.elim h

theorem sk_idiv {l : Launch} {g : aG} {f : aFr} {y o : Nat} {Q : Option aV → aSt → aM → Prop} {X : Nat → aSt → aM → Prop} {p : Program} {e : Env} {R : Room} {s : State} {m : MethodId} {args : Array Value} {below : List Frame} {meth : Method} {c : Code} (hF : aFrm l g f y o p e R s m args below meth c) {pc n t a b : Nat} {sw : List (Int × Nat)}  (hI : aOk y o (aMt y).2.1 pc (.idiv, n, t, a, b, sw) = true) {k : aK} {z : aM} {ls : List (Option aV)} {st : List aV} {K : aK → aM → Nat → List (Option aV) → List aV → Prop} (h : stp l g f Q X pc (.idiv, n, t, a, b, sw) k z ls st K) (hK : ∀ k z pc ls st, K k z pc ls st → aBs l g f Q X p e R s m args below meth c k z pc ls st) : aBs l g f Q X p e R s m args below meth c k z pc ls st := by
  obtain ⟨⟨hx, hst, hb, hml, hown, hlk, hrt⟩, ⟨hKN, hbs, hold⟩, ⟨hex, hnm, hrk, hho, hhc⟩, hr1, hr2, hr3, hr4, hr5⟩ := hF
  obtain ⟨hd, rfl, h2⟩ := aOk_d hI (by first | decide | (intro q; cases q))
  rcases st with _ | ⟨y1, st⟩
  · exact False.elim h
  · rcases y1 with y1 | y1 | y1 | y1
    · rcases st with _ | ⟨x1, st⟩
      · exact False.elim h
      · rcases x1 with x1 | x1 | x1 | x1
        · have h1 := h.1
          have h9 := h.2
          intro hs hl hbd hlen H locs la hR hS hL
          refine W.eq (g2 := F0 m pc la ((.int (iZ y1)) :: (.int (iZ x1)) :: st.map (aC g))) rfl ?_
          refine lv_idiv hx hb hd (iZ_ne0 h1.2.1 h1.2.2) ?_
          rw [iZ_div h1]
          exact hK _ _ _ _ _ h9 (aLv_c (w := .inl (x1 / y1)) trivial (aLv_tl (aLv_tl hs))) hl hbd hlen H locs la hR hS hL
        · exact False.elim h
        · exact False.elim h
        · exact False.elim h
    · exact False.elim h
    · exact False.elim h
    · exact False.elim h

theorem sk_irem {l : Launch} {g : aG} {f : aFr} {y o : Nat} {Q : Option aV → aSt → aM → Prop} {X : Nat → aSt → aM → Prop} {p : Program} {e : Env} {R : Room} {s : State} {m : MethodId} {args : Array Value} {below : List Frame} {meth : Method} {c : Code} (hF : aFrm l g f y o p e R s m args below meth c) {pc n t a b : Nat} {sw : List (Int × Nat)}  (hI : aOk y o (aMt y).2.1 pc (.irem, n, t, a, b, sw) = true) {k : aK} {z : aM} {ls : List (Option aV)} {st : List aV} {K : aK → aM → Nat → List (Option aV) → List aV → Prop} (h : stp l g f Q X pc (.irem, n, t, a, b, sw) k z ls st K) (hK : ∀ k z pc ls st, K k z pc ls st → aBs l g f Q X p e R s m args below meth c k z pc ls st) : aBs l g f Q X p e R s m args below meth c k z pc ls st := by
  obtain ⟨⟨hx, hst, hb, hml, hown, hlk, hrt⟩, ⟨hKN, hbs, hold⟩, ⟨hex, hnm, hrk, hho, hhc⟩, hr1, hr2, hr3, hr4, hr5⟩ := hF
  obtain ⟨hd, rfl, h2⟩ := aOk_d hI (by first | decide | (intro q; cases q))
  rcases st with _ | ⟨y1, st⟩
  · exact False.elim h
  · rcases y1 with y1 | y1 | y1 | y1
    · rcases st with _ | ⟨x1, st⟩
      · exact False.elim h
      · rcases x1 with x1 | x1 | x1 | x1
        · have h1 := h.1
          have h9 := h.2
          intro hs hl hbd hlen H locs la hR hS hL
          refine W.eq (g2 := F0 m pc la ((.int (iZ y1)) :: (.int (iZ x1)) :: st.map (aC g))) rfl ?_
          refine lv_irem hx hb hd (iZ_ne0 h1.2.1 h1.2.2) ?_
          rw [iZ_rem h1]
          exact hK _ _ _ _ _ h9 (aLv_c (w := .inl (x1 % y1)) trivial (aLv_tl (aLv_tl hs))) hl hbd hlen H locs la hR hS hL
        · exact False.elim h
        · exact False.elim h
        · exact False.elim h
    · exact False.elim h
    · exact False.elim h
    · exact False.elim h

theorem sk_ishl {l : Launch} {g : aG} {f : aFr} {y o : Nat} {Q : Option aV → aSt → aM → Prop} {X : Nat → aSt → aM → Prop} {p : Program} {e : Env} {R : Room} {s : State} {m : MethodId} {args : Array Value} {below : List Frame} {meth : Method} {c : Code} (hF : aFrm l g f y o p e R s m args below meth c) {pc n t a b : Nat} {sw : List (Int × Nat)}  (hI : aOk y o (aMt y).2.1 pc (.ishl, n, t, a, b, sw) = true) {k : aK} {z : aM} {ls : List (Option aV)} {st : List aV} {K : aK → aM → Nat → List (Option aV) → List aV → Prop} (h : stp l g f Q X pc (.ishl, n, t, a, b, sw) k z ls st K) (hK : ∀ k z pc ls st, K k z pc ls st → aBs l g f Q X p e R s m args below meth c k z pc ls st) : aBs l g f Q X p e R s m args below meth c k z pc ls st := by
  obtain ⟨⟨hx, hst, hb, hml, hown, hlk, hrt⟩, ⟨hKN, hbs, hold⟩, ⟨hex, hnm, hrk, hho, hhc⟩, hr1, hr2, hr3, hr4, hr5⟩ := hF
  obtain ⟨hd, rfl, h2⟩ := aOk_d hI (by first | decide | (intro q; cases q))
  rcases st with _ | ⟨y1, st⟩
  · exact False.elim h
  · rcases y1 with y1 | y1 | y1 | y1
    · rcases st with _ | ⟨x1, st⟩
      · exact False.elim h
      · rcases x1 with x1 | x1 | x1 | x1
        · have h1 := h.1
          have h9 := h.2
          intro hs hl hbd hlen H locs la hR hS hL
          refine W.eq (g2 := F0 m pc la ((.int (iZ y1)) :: (.int (iZ x1)) :: st.map (aC g))) rfl ?_
          refine lv_ishl hx hb hd ?_
          rw [iZ_shl h1]
          exact hK _ _ _ _ _ h9 (aLv_c (w := .inl (x1 * 2 ^ y1.toNat)) trivial (aLv_tl (aLv_tl hs))) hl hbd hlen H locs la hR hS hL
        · exact False.elim h
        · exact False.elim h
        · exact False.elim h
    · exact False.elim h
    · exact False.elim h
    · exact False.elim h

theorem sk_ishr {l : Launch} {g : aG} {f : aFr} {y o : Nat} {Q : Option aV → aSt → aM → Prop} {X : Nat → aSt → aM → Prop} {p : Program} {e : Env} {R : Room} {s : State} {m : MethodId} {args : Array Value} {below : List Frame} {meth : Method} {c : Code} (hF : aFrm l g f y o p e R s m args below meth c) {pc n t a b : Nat} {sw : List (Int × Nat)}  (hI : aOk y o (aMt y).2.1 pc (.ishr, n, t, a, b, sw) = true) {k : aK} {z : aM} {ls : List (Option aV)} {st : List aV} {K : aK → aM → Nat → List (Option aV) → List aV → Prop} (h : stp l g f Q X pc (.ishr, n, t, a, b, sw) k z ls st K) (hK : ∀ k z pc ls st, K k z pc ls st → aBs l g f Q X p e R s m args below meth c k z pc ls st) : aBs l g f Q X p e R s m args below meth c k z pc ls st := by
  obtain ⟨⟨hx, hst, hb, hml, hown, hlk, hrt⟩, ⟨hKN, hbs, hold⟩, ⟨hex, hnm, hrk, hho, hhc⟩, hr1, hr2, hr3, hr4, hr5⟩ := hF
  obtain ⟨hd, rfl, h2⟩ := aOk_d hI (by first | decide | (intro q; cases q))
  rcases st with _ | ⟨y1, st⟩
  · exact False.elim h
  · rcases y1 with y1 | y1 | y1 | y1
    · rcases st with _ | ⟨x1, st⟩
      · exact False.elim h
      · rcases x1 with x1 | x1 | x1 | x1
        · have h1 := h.1
          have h9 := h.2
          intro hs hl hbd hlen H locs la hR hS hL
          refine W.eq (g2 := F0 m pc la ((.int (iZ y1)) :: (.int (iZ x1)) :: st.map (aC g))) rfl ?_
          refine lv_ishr hx hb hd ?_
          rw [iZ_shr h1]
          exact hK _ _ _ _ _ h9 (aLv_c (w := .inl (x1 / 2 ^ y1.toNat)) trivial (aLv_tl (aLv_tl hs))) hl hbd hlen H locs la hR hS hL
        · exact False.elim h
        · exact False.elim h
        · exact False.elim h
    · exact False.elim h
    · exact False.elim h
    · exact False.elim h

theorem sk_iand {l : Launch} {g : aG} {f : aFr} {y o : Nat} {Q : Option aV → aSt → aM → Prop} {X : Nat → aSt → aM → Prop} {p : Program} {e : Env} {R : Room} {s : State} {m : MethodId} {args : Array Value} {below : List Frame} {meth : Method} {c : Code} (hF : aFrm l g f y o p e R s m args below meth c) {pc n t a b : Nat} {sw : List (Int × Nat)}  (hI : aOk y o (aMt y).2.1 pc (.iand, n, t, a, b, sw) = true) {k : aK} {z : aM} {ls : List (Option aV)} {st : List aV} {K : aK → aM → Nat → List (Option aV) → List aV → Prop} (h : stp l g f Q X pc (.iand, n, t, a, b, sw) k z ls st K) (hK : ∀ k z pc ls st, K k z pc ls st → aBs l g f Q X p e R s m args below meth c k z pc ls st) : aBs l g f Q X p e R s m args below meth c k z pc ls st := by
  obtain ⟨⟨hx, hst, hb, hml, hown, hlk, hrt⟩, ⟨hKN, hbs, hold⟩, ⟨hex, hnm, hrk, hho, hhc⟩, hr1, hr2, hr3, hr4, hr5⟩ := hF
  obtain ⟨hd, rfl, h2⟩ := aOk_d hI (by first | decide | (intro q; cases q))
  rcases st with _ | ⟨y1, st⟩
  · exact False.elim h
  · rcases y1 with y1 | y1 | y1 | y1
    · rcases st with _ | ⟨x1, st⟩
      · exact False.elim h
      · rcases x1 with x1 | x1 | x1 | x1
        · have h9 : K k z _ ls ((.inl ((iZ x1 &&& iZ y1).toInt)) :: st) := h
          intro hs hl hbd hlen H locs la hR hS hL
          refine W.eq (g2 := F0 m pc la ((.int (iZ y1)) :: (.int (iZ x1)) :: st.map (aC g))) rfl ?_
          refine lv_iand hx hb hd ?_
          rw [← iZ_of (iZ x1 &&& iZ y1)]
          exact hK _ _ _ _ _ h9 (aLv_c (w := .inl ((iZ x1 &&& iZ y1).toInt)) trivial (aLv_tl (aLv_tl hs))) hl hbd hlen H locs la hR hS hL
        · exact False.elim h
        · exact False.elim h
        · exact False.elim h
    · exact False.elim h
    · exact False.elim h
    · exact False.elim h

theorem sk_ior {l : Launch} {g : aG} {f : aFr} {y o : Nat} {Q : Option aV → aSt → aM → Prop} {X : Nat → aSt → aM → Prop} {p : Program} {e : Env} {R : Room} {s : State} {m : MethodId} {args : Array Value} {below : List Frame} {meth : Method} {c : Code} (hF : aFrm l g f y o p e R s m args below meth c) {pc n t a b : Nat} {sw : List (Int × Nat)}  (hI : aOk y o (aMt y).2.1 pc (.ior, n, t, a, b, sw) = true) {k : aK} {z : aM} {ls : List (Option aV)} {st : List aV} {K : aK → aM → Nat → List (Option aV) → List aV → Prop} (h : stp l g f Q X pc (.ior, n, t, a, b, sw) k z ls st K) (hK : ∀ k z pc ls st, K k z pc ls st → aBs l g f Q X p e R s m args below meth c k z pc ls st) : aBs l g f Q X p e R s m args below meth c k z pc ls st := by
  obtain ⟨⟨hx, hst, hb, hml, hown, hlk, hrt⟩, ⟨hKN, hbs, hold⟩, ⟨hex, hnm, hrk, hho, hhc⟩, hr1, hr2, hr3, hr4, hr5⟩ := hF
  obtain ⟨hd, rfl, h2⟩ := aOk_d hI (by first | decide | (intro q; cases q))
  rcases st with _ | ⟨y1, st⟩
  · exact False.elim h
  · rcases y1 with y1 | y1 | y1 | y1
    · rcases st with _ | ⟨x1, st⟩
      · exact False.elim h
      · rcases x1 with x1 | x1 | x1 | x1
        · have h9 : K k z _ ls ((.inl ((iZ x1 ||| iZ y1).toInt)) :: st) := h
          intro hs hl hbd hlen H locs la hR hS hL
          refine W.eq (g2 := F0 m pc la ((.int (iZ y1)) :: (.int (iZ x1)) :: st.map (aC g))) rfl ?_
          refine lv_ior hx hb hd ?_
          rw [← iZ_of (iZ x1 ||| iZ y1)]
          exact hK _ _ _ _ _ h9 (aLv_c (w := .inl ((iZ x1 ||| iZ y1).toInt)) trivial (aLv_tl (aLv_tl hs))) hl hbd hlen H locs la hR hS hL
        · exact False.elim h
        · exact False.elim h
        · exact False.elim h
    · exact False.elim h
    · exact False.elim h
    · exact False.elim h

theorem sk_lmul {l : Launch} {g : aG} {f : aFr} {y o : Nat} {Q : Option aV → aSt → aM → Prop} {X : Nat → aSt → aM → Prop} {p : Program} {e : Env} {R : Room} {s : State} {m : MethodId} {args : Array Value} {below : List Frame} {meth : Method} {c : Code} (hF : aFrm l g f y o p e R s m args below meth c) {pc n t a b : Nat} {sw : List (Int × Nat)}  (hI : aOk y o (aMt y).2.1 pc (.lmul, n, t, a, b, sw) = true) {k : aK} {z : aM} {ls : List (Option aV)} {st : List aV} {K : aK → aM → Nat → List (Option aV) → List aV → Prop} (h : stp l g f Q X pc (.lmul, n, t, a, b, sw) k z ls st K) (hK : ∀ k z pc ls st, K k z pc ls st → aBs l g f Q X p e R s m args below meth c k z pc ls st) : aBs l g f Q X p e R s m args below meth c k z pc ls st := by
  obtain ⟨⟨hx, hst, hb, hml, hown, hlk, hrt⟩, ⟨hKN, hbs, hold⟩, ⟨hex, hnm, hrk, hho, hhc⟩, hr1, hr2, hr3, hr4, hr5⟩ := hF
  obtain ⟨hd, rfl, h2⟩ := aOk_d hI (by first | decide | (intro q; cases q))
  rcases st with _ | ⟨y1, st⟩
  · exact False.elim h
  · rcases y1 with y1 | y1 | y1 | y1
    · exact False.elim h
    · rcases st with _ | ⟨x1, st⟩
      · exact False.elim h
      · rcases x1 with x1 | x1 | x1 | x1
        · exact False.elim h
        · have h9 : K k z _ ls ((.inr (.inl (x1 * y1))) :: st) := h
          intro hs hl hbd hlen H locs la hR hS hL
          refine W.eq (g2 := F0 m pc la ((.long (lZ y1)) :: (.long (lZ x1)) :: st.map (aC g))) rfl ?_
          refine lv_lmul hx hb hd ?_
          rw [lZ_mul]
          exact hK _ _ _ _ _ h9 (aLv_c (w := .inr (.inl (x1 * y1))) trivial (aLv_tl (aLv_tl hs))) hl hbd hlen H locs la hR hS hL
        · exact False.elim h
        · exact False.elim h
    · exact False.elim h
    · exact False.elim h

theorem sk_lsub {l : Launch} {g : aG} {f : aFr} {y o : Nat} {Q : Option aV → aSt → aM → Prop} {X : Nat → aSt → aM → Prop} {p : Program} {e : Env} {R : Room} {s : State} {m : MethodId} {args : Array Value} {below : List Frame} {meth : Method} {c : Code} (hF : aFrm l g f y o p e R s m args below meth c) {pc n t a b : Nat} {sw : List (Int × Nat)}  (hI : aOk y o (aMt y).2.1 pc (.lsub, n, t, a, b, sw) = true) {k : aK} {z : aM} {ls : List (Option aV)} {st : List aV} {K : aK → aM → Nat → List (Option aV) → List aV → Prop} (h : stp l g f Q X pc (.lsub, n, t, a, b, sw) k z ls st K) (hK : ∀ k z pc ls st, K k z pc ls st → aBs l g f Q X p e R s m args below meth c k z pc ls st) : aBs l g f Q X p e R s m args below meth c k z pc ls st := by
  obtain ⟨⟨hx, hst, hb, hml, hown, hlk, hrt⟩, ⟨hKN, hbs, hold⟩, ⟨hex, hnm, hrk, hho, hhc⟩, hr1, hr2, hr3, hr4, hr5⟩ := hF
  obtain ⟨hd, rfl, h2⟩ := aOk_d hI (by first | decide | (intro q; cases q))
  rcases st with _ | ⟨y1, st⟩
  · exact False.elim h
  · rcases y1 with y1 | y1 | y1 | y1
    · exact False.elim h
    · rcases st with _ | ⟨x1, st⟩
      · exact False.elim h
      · rcases x1 with x1 | x1 | x1 | x1
        · exact False.elim h
        · have h9 : K k z _ ls ((.inr (.inl (x1 - y1))) :: st) := h
          intro hs hl hbd hlen H locs la hR hS hL
          refine W.eq (g2 := F0 m pc la ((.long (lZ y1)) :: (.long (lZ x1)) :: st.map (aC g))) rfl ?_
          refine lv_lsub hx hb hd ?_
          rw [lZ_sub]
          exact hK _ _ _ _ _ h9 (aLv_c (w := .inr (.inl (x1 - y1))) trivial (aLv_tl (aLv_tl hs))) hl hbd hlen H locs la hR hS hL
        · exact False.elim h
        · exact False.elim h
    · exact False.elim h
    · exact False.elim h

theorem sk_i2l {l : Launch} {g : aG} {f : aFr} {y o : Nat} {Q : Option aV → aSt → aM → Prop} {X : Nat → aSt → aM → Prop} {p : Program} {e : Env} {R : Room} {s : State} {m : MethodId} {args : Array Value} {below : List Frame} {meth : Method} {c : Code} (hF : aFrm l g f y o p e R s m args below meth c) {pc n t a b : Nat} {sw : List (Int × Nat)}  (hI : aOk y o (aMt y).2.1 pc (.i2l, n, t, a, b, sw) = true) {k : aK} {z : aM} {ls : List (Option aV)} {st : List aV} {K : aK → aM → Nat → List (Option aV) → List aV → Prop} (h : stp l g f Q X pc (.i2l, n, t, a, b, sw) k z ls st K) (hK : ∀ k z pc ls st, K k z pc ls st → aBs l g f Q X p e R s m args below meth c k z pc ls st) : aBs l g f Q X p e R s m args below meth c k z pc ls st := by
  obtain ⟨⟨hx, hst, hb, hml, hown, hlk, hrt⟩, ⟨hKN, hbs, hold⟩, ⟨hex, hnm, hrk, hho, hhc⟩, hr1, hr2, hr3, hr4, hr5⟩ := hF
  obtain ⟨hd, rfl, h2⟩ := aOk_d hI (by first | decide | (intro q; cases q))
  rcases st with _ | ⟨x1, st⟩
  · exact False.elim h
  · rcases x1 with x1 | x1 | x1 | x1
    · have h1 := h.1
      have h9 := h.2
      intro hs hl hbd hlen H locs la hR hS hL
      refine W.eq (g2 := F0 m pc la ((.int (iZ x1)) :: st.map (aC g))) rfl ?_
      refine lv_i2l hx hb hd (iZ_i2l h1) ?_
      exact hK _ _ _ _ _ h9 (aLv_c (w := .inr (.inl (x1))) trivial (aLv_tl hs)) hl hbd hlen H locs la hR hS hL
    · exact False.elim h
    · exact False.elim h
    · exact False.elim h

theorem sk_lcmp {l : Launch} {g : aG} {f : aFr} {y o : Nat} {Q : Option aV → aSt → aM → Prop} {X : Nat → aSt → aM → Prop} {p : Program} {e : Env} {R : Room} {s : State} {m : MethodId} {args : Array Value} {below : List Frame} {meth : Method} {c : Code} (hF : aFrm l g f y o p e R s m args below meth c) {pc n t a b : Nat} {sw : List (Int × Nat)}  (hI : aOk y o (aMt y).2.1 pc (.lcmp, n, t, a, b, sw) = true) {k : aK} {z : aM} {ls : List (Option aV)} {st : List aV} {K : aK → aM → Nat → List (Option aV) → List aV → Prop} (h : stp l g f Q X pc (.lcmp, n, t, a, b, sw) k z ls st K) (hK : ∀ k z pc ls st, K k z pc ls st → aBs l g f Q X p e R s m args below meth c k z pc ls st) : aBs l g f Q X p e R s m args below meth c k z pc ls st := by
  obtain ⟨⟨hx, hst, hb, hml, hown, hlk, hrt⟩, ⟨hKN, hbs, hold⟩, ⟨hex, hnm, hrk, hho, hhc⟩, hr1, hr2, hr3, hr4, hr5⟩ := hF
  obtain ⟨hd, rfl, h2⟩ := aOk_d hI (by first | decide | (intro q; cases q))
  rcases st with _ | ⟨y1, st⟩
  · exact False.elim h
  · rcases y1 with y1 | y1 | y1 | y1
    · exact False.elim h
    · rcases st with _ | ⟨x1, st⟩
      · exact False.elim h
      · rcases x1 with x1 | x1 | x1 | x1
        · exact False.elim h
        · have h1 := h.1
          have h9 := h.2
          intro hs hl hbd hlen H locs la hR hS hL
          refine W.eq (g2 := F0 m pc la ((.long (lZ y1)) :: (.long (lZ x1)) :: st.map (aC g))) rfl ?_
          refine W.lcmp hx hb hd ?_
          rw [iZ_cmp h1]
          exact hK _ _ _ _ _ h9 (aLv_c (w := .inl (aCmp x1 y1)) trivial (aLv_tl (aLv_tl hs))) hl hbd hlen H locs la hR hS hL
        · exact False.elim h
        · exact False.elim h
    · exact False.elim h
    · exact False.elim h

theorem sk_i2c {l : Launch} {g : aG} {f : aFr} {y o : Nat} {Q : Option aV → aSt → aM → Prop} {X : Nat → aSt → aM → Prop} {p : Program} {e : Env} {R : Room} {s : State} {m : MethodId} {args : Array Value} {below : List Frame} {meth : Method} {c : Code} (hF : aFrm l g f y o p e R s m args below meth c) {pc n t a b : Nat} {sw : List (Int × Nat)}  (hI : aOk y o (aMt y).2.1 pc (.i2c, n, t, a, b, sw) = true) {k : aK} {z : aM} {ls : List (Option aV)} {st : List aV} {K : aK → aM → Nat → List (Option aV) → List aV → Prop} (h : stp l g f Q X pc (.i2c, n, t, a, b, sw) k z ls st K) (hK : ∀ k z pc ls st, K k z pc ls st → aBs l g f Q X p e R s m args below meth c k z pc ls st) : aBs l g f Q X p e R s m args below meth c k z pc ls st := by
  obtain ⟨⟨hx, hst, hb, hml, hown, hlk, hrt⟩, ⟨hKN, hbs, hold⟩, ⟨hex, hnm, hrk, hho, hhc⟩, hr1, hr2, hr3, hr4, hr5⟩ := hF
  obtain ⟨hd, rfl, h2⟩ := aOk_d hI (by first | decide | (intro q; cases q))
  rcases st with _ | ⟨x1, st⟩
  · exact False.elim h
  · rcases x1 with x1 | x1 | x1 | x1
    · have h9 : K k z _ ls ((.inl (x1 % 65536)) :: st) := h
      intro hs hl hbd hlen H locs la hR hS hL
      refine W.eq (g2 := F0 m pc la ((.int (iZ x1)) :: st.map (aC g))) rfl ?_
      refine lv_i2c hx hb hd (iZ_i2c x1) ?_
      exact hK _ _ _ _ _ h9 (aLv_c (w := .inl (x1 % 65536)) trivial (aLv_tl hs)) hl hbd hlen H locs la hR hS hL
    · exact False.elim h
    · exact False.elim h
    · exact False.elim h

theorem sk_i2d {l : Launch} {g : aG} {f : aFr} {y o : Nat} {Q : Option aV → aSt → aM → Prop} {X : Nat → aSt → aM → Prop} {p : Program} {e : Env} {R : Room} {s : State} {m : MethodId} {args : Array Value} {below : List Frame} {meth : Method} {c : Code} (hF : aFrm l g f y o p e R s m args below meth c) {pc n t a b : Nat} {sw : List (Int × Nat)}  (hI : aOk y o (aMt y).2.1 pc (.i2d, n, t, a, b, sw) = true) {k : aK} {z : aM} {ls : List (Option aV)} {st : List aV} {K : aK → aM → Nat → List (Option aV) → List aV → Prop} (h : stp l g f Q X pc (.i2d, n, t, a, b, sw) k z ls st K) (hK : ∀ k z pc ls st, K k z pc ls st → aBs l g f Q X p e R s m args below meth c k z pc ls st) : aBs l g f Q X p e R s m args below meth c k z pc ls st := by
  obtain ⟨⟨hx, hst, hb, hml, hown, hlk, hrt⟩, ⟨hKN, hbs, hold⟩, ⟨hex, hnm, hrk, hho, hhc⟩, hr1, hr2, hr3, hr4, hr5⟩ := hF
  obtain ⟨hd, rfl, h2⟩ := aOk_d hI (by first | decide | (intro q; cases q))
  rcases st with _ | ⟨x1, st⟩
  · exact False.elim h
  · rcases x1 with x1 | x1 | x1 | x1
    · have h9 : K k z _ ls ((.inr (.inr (.inr (.double (FP.i2d (iZ x1)))))) :: st) := h
      intro hs hl hbd hlen H locs la hR hS hL
      refine W.eq (g2 := F0 m pc la ((.int (iZ x1)) :: st.map (aC g))) rfl ?_
      refine lv_i2d hx hb hd ?_
      exact hK _ _ _ _ _ h9 (aLv_c (w := .inr (.inr (.inr (.double (FP.i2d (iZ x1)))))) trivial (aLv_tl hs)) hl hbd hlen H locs la hR hS hL
    · exact False.elim h
    · exact False.elim h
    · exact False.elim h

theorem sk_i2f {l : Launch} {g : aG} {f : aFr} {y o : Nat} {Q : Option aV → aSt → aM → Prop} {X : Nat → aSt → aM → Prop} {p : Program} {e : Env} {R : Room} {s : State} {m : MethodId} {args : Array Value} {below : List Frame} {meth : Method} {c : Code} (hF : aFrm l g f y o p e R s m args below meth c) {pc n t a b : Nat} {sw : List (Int × Nat)}  (hI : aOk y o (aMt y).2.1 pc (.i2f, n, t, a, b, sw) = true) {k : aK} {z : aM} {ls : List (Option aV)} {st : List aV} {K : aK → aM → Nat → List (Option aV) → List aV → Prop} (h : stp l g f Q X pc (.i2f, n, t, a, b, sw) k z ls st K) (hK : ∀ k z pc ls st, K k z pc ls st → aBs l g f Q X p e R s m args below meth c k z pc ls st) : aBs l g f Q X p e R s m args below meth c k z pc ls st := by
  obtain ⟨⟨hx, hst, hb, hml, hown, hlk, hrt⟩, ⟨hKN, hbs, hold⟩, ⟨hex, hnm, hrk, hho, hhc⟩, hr1, hr2, hr3, hr4, hr5⟩ := hF
  obtain ⟨hd, rfl, h2⟩ := aOk_d hI (by first | decide | (intro q; cases q))
  rcases st with _ | ⟨x1, st⟩
  · exact False.elim h
  · rcases x1 with x1 | x1 | x1 | x1
    · have h9 : K k z _ ls ((.inr (.inr (.inr (.float (FP.i2f (iZ x1)))))) :: st) := h
      intro hs hl hbd hlen H locs la hR hS hL
      refine W.eq (g2 := F0 m pc la ((.int (iZ x1)) :: st.map (aC g))) rfl ?_
      refine lv_i2f hx hb hd ?_
      exact hK _ _ _ _ _ h9 (aLv_c (w := .inr (.inr (.inr (.float (FP.i2f (iZ x1)))))) trivial (aLv_tl hs)) hl hbd hlen H locs la hR hS hL
    · exact False.elim h
    · exact False.elim h
    · exact False.elim h

theorem sk_f2d {l : Launch} {g : aG} {f : aFr} {y o : Nat} {Q : Option aV → aSt → aM → Prop} {X : Nat → aSt → aM → Prop} {p : Program} {e : Env} {R : Room} {s : State} {m : MethodId} {args : Array Value} {below : List Frame} {meth : Method} {c : Code} (hF : aFrm l g f y o p e R s m args below meth c) {pc n t a b : Nat} {sw : List (Int × Nat)}  (hI : aOk y o (aMt y).2.1 pc (.f2d, n, t, a, b, sw) = true) {k : aK} {z : aM} {ls : List (Option aV)} {st : List aV} {K : aK → aM → Nat → List (Option aV) → List aV → Prop} (h : stp l g f Q X pc (.f2d, n, t, a, b, sw) k z ls st K) (hK : ∀ k z pc ls st, K k z pc ls st → aBs l g f Q X p e R s m args below meth c k z pc ls st) : aBs l g f Q X p e R s m args below meth c k z pc ls st := by
  obtain ⟨⟨hx, hst, hb, hml, hown, hlk, hrt⟩, ⟨hKN, hbs, hold⟩, ⟨hex, hnm, hrk, hho, hhc⟩, hr1, hr2, hr3, hr4, hr5⟩ := hF
  obtain ⟨hd, rfl, h2⟩ := aOk_d hI (by first | decide | (intro q; cases q))
  rcases st with _ | ⟨x1, st⟩
  · exact False.elim h
  · rcases x1 with x1 | x1 | x1 | x1
    · exact False.elim h
    · exact False.elim h
    · exact False.elim h
    · cases x1 with
      | float x1 =>
        have h1 := h.1
        have h9 := h.2
        intro hs hl hbd hlen H locs la hR hS hL
        refine W.eq (g2 := F0 m pc la ((.float x1) :: st.map (aC g))) rfl ?_
        refine lv_f2d hx hb hd h1 ?_
        exact hK _ _ _ _ _ h9 (aLv_c (w := .inr (.inr (.inr (.double (FP.f2d x1))))) trivial (aLv_tl hs)) hl hbd hlen H locs la hR hS hL
      | _ => exact False.elim h

theorem sk_fdiv {l : Launch} {g : aG} {f : aFr} {y o : Nat} {Q : Option aV → aSt → aM → Prop} {X : Nat → aSt → aM → Prop} {p : Program} {e : Env} {R : Room} {s : State} {m : MethodId} {args : Array Value} {below : List Frame} {meth : Method} {c : Code} (hF : aFrm l g f y o p e R s m args below meth c) {pc n t a b : Nat} {sw : List (Int × Nat)}  (hI : aOk y o (aMt y).2.1 pc (.fdiv, n, t, a, b, sw) = true) {k : aK} {z : aM} {ls : List (Option aV)} {st : List aV} {K : aK → aM → Nat → List (Option aV) → List aV → Prop} (h : stp l g f Q X pc (.fdiv, n, t, a, b, sw) k z ls st K) (hK : ∀ k z pc ls st, K k z pc ls st → aBs l g f Q X p e R s m args below meth c k z pc ls st) : aBs l g f Q X p e R s m args below meth c k z pc ls st := by
  obtain ⟨⟨hx, hst, hb, hml, hown, hlk, hrt⟩, ⟨hKN, hbs, hold⟩, ⟨hex, hnm, hrk, hho, hhc⟩, hr1, hr2, hr3, hr4, hr5⟩ := hF
  obtain ⟨hd, rfl, h2⟩ := aOk_d hI (by first | decide | (intro q; cases q))
  rcases st with _ | ⟨y1, st⟩
  · exact False.elim h
  · rcases y1 with y1 | y1 | y1 | y1
    · exact False.elim h
    · exact False.elim h
    · exact False.elim h
    · cases y1 with
      | float y1 =>
        rcases st with _ | ⟨x1, st⟩
        · exact False.elim h
        · rcases x1 with x1 | x1 | x1 | x1
          · exact False.elim h
          · exact False.elim h
          · exact False.elim h
          · cases x1 with
            | float x1 =>
              have h1 := h.1
              have h9 := h.2
              intro hs hl hbd hlen H locs la hR hS hL
              refine W.eq (g2 := F0 m pc la ((.float y1) :: (.float x1) :: st.map (aC g))) rfl ?_
              refine lv_fdiv hx hb hd h1 ?_
              exact hK _ _ _ _ _ h9 (aLv_c (w := .inr (.inr (.inr (.float (FP.fdiv x1 y1))))) trivial (aLv_tl (aLv_tl hs))) hl hbd hlen H locs la hR hS hL
            | _ => exact False.elim h
      | _ => exact False.elim h

theorem sk_ddiv {l : Launch} {g : aG} {f : aFr} {y o : Nat} {Q : Option aV → aSt → aM → Prop} {X : Nat → aSt → aM → Prop} {p : Program} {e : Env} {R : Room} {s : State} {m : MethodId} {args : Array Value} {below : List Frame} {meth : Method} {c : Code} (hF : aFrm l g f y o p e R s m args below meth c) {pc n t a b : Nat} {sw : List (Int × Nat)}  (hI : aOk y o (aMt y).2.1 pc (.ddiv, n, t, a, b, sw) = true) {k : aK} {z : aM} {ls : List (Option aV)} {st : List aV} {K : aK → aM → Nat → List (Option aV) → List aV → Prop} (h : stp l g f Q X pc (.ddiv, n, t, a, b, sw) k z ls st K) (hK : ∀ k z pc ls st, K k z pc ls st → aBs l g f Q X p e R s m args below meth c k z pc ls st) : aBs l g f Q X p e R s m args below meth c k z pc ls st := by
  obtain ⟨⟨hx, hst, hb, hml, hown, hlk, hrt⟩, ⟨hKN, hbs, hold⟩, ⟨hex, hnm, hrk, hho, hhc⟩, hr1, hr2, hr3, hr4, hr5⟩ := hF
  obtain ⟨hd, rfl, h2⟩ := aOk_d hI (by first | decide | (intro q; cases q))
  rcases st with _ | ⟨y1, st⟩
  · exact False.elim h
  · rcases y1 with y1 | y1 | y1 | y1
    · exact False.elim h
    · exact False.elim h
    · exact False.elim h
    · cases y1 with
      | double y1 =>
        rcases st with _ | ⟨x1, st⟩
        · exact False.elim h
        · rcases x1 with x1 | x1 | x1 | x1
          · exact False.elim h
          · exact False.elim h
          · exact False.elim h
          · cases x1 with
            | double x1 =>
              have h1 := h.1
              have h9 := h.2
              intro hs hl hbd hlen H locs la hR hS hL
              refine W.eq (g2 := F0 m pc la ((.double y1) :: (.double x1) :: st.map (aC g))) rfl ?_
              refine lv_ddiv hx hb hd h1 ?_
              exact hK _ _ _ _ _ h9 (aLv_c (w := .inr (.inr (.inr (.double (FP.ddiv x1 y1))))) trivial (aLv_tl (aLv_tl hs))) hl hbd hlen H locs la hR hS hL
            | _ => exact False.elim h
      | _ => exact False.elim h

theorem sk_dcmp {l : Launch} {g : aG} {f : aFr} {y o : Nat} {Q : Option aV → aSt → aM → Prop} {X : Nat → aSt → aM → Prop} {p : Program} {e : Env} {R : Room} {s : State} {m : MethodId} {args : Array Value} {below : List Frame} {meth : Method} {c : Code} (hF : aFrm l g f y o p e R s m args below meth c) {pc n t a b : Nat} {sw : List (Int × Nat)} {o9 : CmpOp} (hI : aOk y o (aMt y).2.1 pc (.dcmp o9, n, t, a, b, sw) = true) {k : aK} {z : aM} {ls : List (Option aV)} {st : List aV} {K : aK → aM → Nat → List (Option aV) → List aV → Prop} (h : stp l g f Q X pc (.dcmp o9, n, t, a, b, sw) k z ls st K) (hK : ∀ k z pc ls st, K k z pc ls st → aBs l g f Q X p e R s m args below meth c k z pc ls st) : aBs l g f Q X p e R s m args below meth c k z pc ls st := by
  obtain ⟨⟨hx, hst, hb, hml, hown, hlk, hrt⟩, ⟨hKN, hbs, hold⟩, ⟨hex, hnm, hrk, hho, hhc⟩, hr1, hr2, hr3, hr4, hr5⟩ := hF
  obtain ⟨hd, rfl, h2⟩ := aOk_d hI (by first | decide | (intro q; cases q))
  rcases st with _ | ⟨y1, st⟩
  · exact False.elim h
  · rcases y1 with y1 | y1 | y1 | y1
    · exact False.elim h
    · exact False.elim h
    · exact False.elim h
    · cases y1 with
      | double y1 =>
        rcases st with _ | ⟨x1, st⟩
        · exact False.elim h
        · rcases x1 with x1 | x1 | x1 | x1
          · exact False.elim h
          · exact False.elim h
          · exact False.elim h
          · cases x1 with
            | double x1 =>
              have h9 : K k z _ ls ((.inl ((Op.cmpValue (FP.dcmp x1 y1) o9).toInt)) :: st) := h
              intro hs hl hbd hlen H locs la hR hS hL
              refine W.eq (g2 := F0 m pc la ((.double y1) :: (.double x1) :: st.map (aC g))) rfl ?_
              refine lv_dcmp hx hb hd ?_
              rw [← iZ_of (Op.cmpValue (FP.dcmp x1 y1) o9)]
              exact hK _ _ _ _ _ h9 (aLv_c (w := .inl ((Op.cmpValue (FP.dcmp x1 y1) o9).toInt)) trivial (aLv_tl (aLv_tl hs))) hl hbd hlen H locs la hR hS hL
            | _ => exact False.elim h
      | _ => exact False.elim h

theorem sk_fcmp {l : Launch} {g : aG} {f : aFr} {y o : Nat} {Q : Option aV → aSt → aM → Prop} {X : Nat → aSt → aM → Prop} {p : Program} {e : Env} {R : Room} {s : State} {m : MethodId} {args : Array Value} {below : List Frame} {meth : Method} {c : Code} (hF : aFrm l g f y o p e R s m args below meth c) {pc n t a b : Nat} {sw : List (Int × Nat)} {o9 : CmpOp} (hI : aOk y o (aMt y).2.1 pc (.fcmp o9, n, t, a, b, sw) = true) {k : aK} {z : aM} {ls : List (Option aV)} {st : List aV} {K : aK → aM → Nat → List (Option aV) → List aV → Prop} (h : stp l g f Q X pc (.fcmp o9, n, t, a, b, sw) k z ls st K) (hK : ∀ k z pc ls st, K k z pc ls st → aBs l g f Q X p e R s m args below meth c k z pc ls st) : aBs l g f Q X p e R s m args below meth c k z pc ls st := by
  obtain ⟨⟨hx, hst, hb, hml, hown, hlk, hrt⟩, ⟨hKN, hbs, hold⟩, ⟨hex, hnm, hrk, hho, hhc⟩, hr1, hr2, hr3, hr4, hr5⟩ := hF
  obtain ⟨hd, rfl, h2⟩ := aOk_d hI (by first | decide | (intro q; cases q))
  rcases st with _ | ⟨y1, st⟩
  · exact False.elim h
  · rcases y1 with y1 | y1 | y1 | y1
    · exact False.elim h
    · exact False.elim h
    · exact False.elim h
    · cases y1 with
      | float y1 =>
        rcases st with _ | ⟨x1, st⟩
        · exact False.elim h
        · rcases x1 with x1 | x1 | x1 | x1
          · exact False.elim h
          · exact False.elim h
          · exact False.elim h
          · cases x1 with
            | float x1 =>
              have h9 : K k z _ ls ((.inl ((Op.cmpValue (FP.fcmp x1 y1) o9).toInt)) :: st) := h
              intro hs hl hbd hlen H locs la hR hS hL
              refine W.eq (g2 := F0 m pc la ((.float y1) :: (.float x1) :: st.map (aC g))) rfl ?_
              refine lv_fcmp hx hb hd ?_
              rw [← iZ_of (Op.cmpValue (FP.fcmp x1 y1) o9)]
              exact hK _ _ _ _ _ h9 (aLv_c (w := .inl ((Op.cmpValue (FP.fcmp x1 y1) o9).toInt)) trivial (aLv_tl (aLv_tl hs))) hl hbd hlen H locs la hR hS hL
            | _ => exact False.elim h
      | _ => exact False.elim h

theorem sk_iload_n {l : Launch} {g : aG} {f : aFr} {y o : Nat} {Q : Option aV → aSt → aM → Prop} {X : Nat → aSt → aM → Prop} {p : Program} {e : Env} {R : Room} {s : State} {m : MethodId} {args : Array Value} {below : List Frame} {meth : Method} {c : Code} (hF : aFrm l g f y o p e R s m args below meth c) {pc n t a b : Nat} {sw : List (Int × Nat)} {i9 : Fin 4} (hI : aOk y o (aMt y).2.1 pc (.iload_n i9, n, t, a, b, sw) = true) {k : aK} {z : aM} {ls : List (Option aV)} {st : List aV} {K : aK → aM → Nat → List (Option aV) → List aV → Prop} (h : stp l g f Q X pc (.iload_n i9, n, t, a, b, sw) k z ls st K) (hK : ∀ k z pc ls st, K k z pc ls st → aBs l g f Q X p e R s m args below meth c k z pc ls st) : aBs l g f Q X p e R s m args below meth c k z pc ls st := by
  obtain ⟨⟨hx, hst, hb, hml, hown, hlk, hrt⟩, ⟨hKN, hbs, hold⟩, ⟨hex, hnm, hrk, hho, hhc⟩, hr1, hr2, hr3, hr4, hr5⟩ := hF
  obtain ⟨hd, rfl, h2⟩ := aOk_d hI (by first | decide | (intro q; cases q))
  rcases hg : aGet ls i9.val with _ | v
  · exact False.elim (by have h0 := h; unfold stp at h0; simp only [hg] at h0)
  · have h0 := h
    unfold stp at h0
    simp only [hg] at h0
    rcases v with v | v | v | v
    · have h9 : K k z _ ls ((.inl v) :: st) := h0
      intro hs hl hbd hlen H locs la hR hS hL
      have hv := hL.2.2 _ _ (aGet_at _ _ _ hg)
      refine lv_iload_n hx hb hd rfl hv ?_
      exact hK _ _ _ _ _ h9 (aLv_c (w := .inl v) (aLv_gt hl hg) hs) hl hbd hlen H locs la hR hS hL
    · exact False.elim h0
    · exact False.elim h0
    · exact False.elim h0

theorem sk_iload {l : Launch} {g : aG} {f : aFr} {y o : Nat} {Q : Option aV → aSt → aM → Prop} {X : Nat → aSt → aM → Prop} {p : Program} {e : Env} {R : Room} {s : State} {m : MethodId} {args : Array Value} {below : List Frame} {meth : Method} {c : Code} (hF : aFrm l g f y o p e R s m args below meth c) {pc n t a b : Nat} {sw : List (Int × Nat)} {i9 : Nat} (hI : aOk y o (aMt y).2.1 pc (.iload i9, n, t, a, b, sw) = true) {k : aK} {z : aM} {ls : List (Option aV)} {st : List aV} {K : aK → aM → Nat → List (Option aV) → List aV → Prop} (h : stp l g f Q X pc (.iload i9, n, t, a, b, sw) k z ls st K) (hK : ∀ k z pc ls st, K k z pc ls st → aBs l g f Q X p e R s m args below meth c k z pc ls st) : aBs l g f Q X p e R s m args below meth c k z pc ls st := by
  obtain ⟨⟨hx, hst, hb, hml, hown, hlk, hrt⟩, ⟨hKN, hbs, hold⟩, ⟨hex, hnm, hrk, hho, hhc⟩, hr1, hr2, hr3, hr4, hr5⟩ := hF
  obtain ⟨hd, rfl, h2⟩ := aOk_d hI (by first | decide | (intro q; cases q))
  rcases hg : aGet ls i9 with _ | v
  · exact False.elim (by have h0 := h; unfold stp at h0; simp only [hg] at h0)
  · have h0 := h
    unfold stp at h0
    simp only [hg] at h0
    rcases v with v | v | v | v
    · have h9 : K k z _ ls ((.inl v) :: st) := h0
      intro hs hl hbd hlen H locs la hR hS hL
      have hv := hL.2.2 _ _ (aGet_at _ _ _ hg)
      refine lv_iload hx hb hd hv ?_
      exact hK _ _ _ _ _ h9 (aLv_c (w := .inl v) (aLv_gt hl hg) hs) hl hbd hlen H locs la hR hS hL
    · exact False.elim h0
    · exact False.elim h0
    · exact False.elim h0

theorem sk_aload_n {l : Launch} {g : aG} {f : aFr} {y o : Nat} {Q : Option aV → aSt → aM → Prop} {X : Nat → aSt → aM → Prop} {p : Program} {e : Env} {R : Room} {s : State} {m : MethodId} {args : Array Value} {below : List Frame} {meth : Method} {c : Code} (hF : aFrm l g f y o p e R s m args below meth c) {pc n t a b : Nat} {sw : List (Int × Nat)} {i9 : Fin 4} (hI : aOk y o (aMt y).2.1 pc (.aload_n i9, n, t, a, b, sw) = true) {k : aK} {z : aM} {ls : List (Option aV)} {st : List aV} {K : aK → aM → Nat → List (Option aV) → List aV → Prop} (h : stp l g f Q X pc (.aload_n i9, n, t, a, b, sw) k z ls st K) (hK : ∀ k z pc ls st, K k z pc ls st → aBs l g f Q X p e R s m args below meth c k z pc ls st) : aBs l g f Q X p e R s m args below meth c k z pc ls st := by
  obtain ⟨⟨hx, hst, hb, hml, hown, hlk, hrt⟩, ⟨hKN, hbs, hold⟩, ⟨hex, hnm, hrk, hho, hhc⟩, hr1, hr2, hr3, hr4, hr5⟩ := hF
  obtain ⟨hd, rfl, h2⟩ := aOk_d hI (by first | decide | (intro q; cases q))
  rcases hg : aGet ls i9.val with _ | v
  · exact False.elim (by have h0 := h; unfold stp at h0; simp only [hg] at h0)
  · have h0 := h
    unfold stp at h0
    simp only [hg] at h0
    rcases v with v | v | v | v
    · exact False.elim h0
    · exact False.elim h0
    · have h9 : K k z _ ls ((.inr (.inr (.inl v))) :: st) := h0
      intro hs hl hbd hlen H locs la hR hS hL
      have hv := hL.2.2 _ _ (aGet_at _ _ _ hg)
      refine lv_aload_n hx hb hd rfl hv ?_
      exact hK _ _ _ _ _ h9 (aLv_c (w := .inr (.inr (.inl v))) (aLv_gt hl hg) hs) hl hbd hlen H locs la hR hS hL
    · exact False.elim h0

theorem sk_aload {l : Launch} {g : aG} {f : aFr} {y o : Nat} {Q : Option aV → aSt → aM → Prop} {X : Nat → aSt → aM → Prop} {p : Program} {e : Env} {R : Room} {s : State} {m : MethodId} {args : Array Value} {below : List Frame} {meth : Method} {c : Code} (hF : aFrm l g f y o p e R s m args below meth c) {pc n t a b : Nat} {sw : List (Int × Nat)} {i9 : Nat} (hI : aOk y o (aMt y).2.1 pc (.aload i9, n, t, a, b, sw) = true) {k : aK} {z : aM} {ls : List (Option aV)} {st : List aV} {K : aK → aM → Nat → List (Option aV) → List aV → Prop} (h : stp l g f Q X pc (.aload i9, n, t, a, b, sw) k z ls st K) (hK : ∀ k z pc ls st, K k z pc ls st → aBs l g f Q X p e R s m args below meth c k z pc ls st) : aBs l g f Q X p e R s m args below meth c k z pc ls st := by
  obtain ⟨⟨hx, hst, hb, hml, hown, hlk, hrt⟩, ⟨hKN, hbs, hold⟩, ⟨hex, hnm, hrk, hho, hhc⟩, hr1, hr2, hr3, hr4, hr5⟩ := hF
  obtain ⟨hd, rfl, h2⟩ := aOk_d hI (by first | decide | (intro q; cases q))
  rcases hg : aGet ls i9 with _ | v
  · exact False.elim (by have h0 := h; unfold stp at h0; simp only [hg] at h0)
  · have h0 := h
    unfold stp at h0
    simp only [hg] at h0
    rcases v with v | v | v | v
    · exact False.elim h0
    · exact False.elim h0
    · have h9 : K k z _ ls ((.inr (.inr (.inl v))) :: st) := h0
      intro hs hl hbd hlen H locs la hR hS hL
      have hv := hL.2.2 _ _ (aGet_at _ _ _ hg)
      refine lv_aload hx hb hd hv ?_
      exact hK _ _ _ _ _ h9 (aLv_c (w := .inr (.inr (.inl v))) (aLv_gt hl hg) hs) hl hbd hlen H locs la hR hS hL
    · exact False.elim h0

theorem sk_lload_n {l : Launch} {g : aG} {f : aFr} {y o : Nat} {Q : Option aV → aSt → aM → Prop} {X : Nat → aSt → aM → Prop} {p : Program} {e : Env} {R : Room} {s : State} {m : MethodId} {args : Array Value} {below : List Frame} {meth : Method} {c : Code} (hF : aFrm l g f y o p e R s m args below meth c) {pc n t a b : Nat} {sw : List (Int × Nat)} {i9 : Fin 4} (hI : aOk y o (aMt y).2.1 pc (.lload_n i9, n, t, a, b, sw) = true) {k : aK} {z : aM} {ls : List (Option aV)} {st : List aV} {K : aK → aM → Nat → List (Option aV) → List aV → Prop} (h : stp l g f Q X pc (.lload_n i9, n, t, a, b, sw) k z ls st K) (hK : ∀ k z pc ls st, K k z pc ls st → aBs l g f Q X p e R s m args below meth c k z pc ls st) : aBs l g f Q X p e R s m args below meth c k z pc ls st := by
  obtain ⟨⟨hx, hst, hb, hml, hown, hlk, hrt⟩, ⟨hKN, hbs, hold⟩, ⟨hex, hnm, hrk, hho, hhc⟩, hr1, hr2, hr3, hr4, hr5⟩ := hF
  obtain ⟨hd, rfl, h2⟩ := aOk_d hI (by first | decide | (intro q; cases q))
  rcases hg : aGet ls i9.val with _ | v
  · exact False.elim (by have h0 := h; unfold stp at h0; simp only [hg] at h0)
  · have h0 := h
    unfold stp at h0
    simp only [hg] at h0
    rcases v with v | v | v | v
    · exact False.elim h0
    · have h9 : K k z _ ls ((.inr (.inl v)) :: st) := h0
      intro hs hl hbd hlen H locs la hR hS hL
      have hv := hL.2.2 _ _ (aGet_at _ _ _ hg)
      refine lv_lload_n hx hb hd rfl hv ?_
      exact hK _ _ _ _ _ h9 (aLv_c (w := .inr (.inl v)) (aLv_gt hl hg) hs) hl hbd hlen H locs la hR hS hL
    · exact False.elim h0
    · exact False.elim h0

theorem sk_lload {l : Launch} {g : aG} {f : aFr} {y o : Nat} {Q : Option aV → aSt → aM → Prop} {X : Nat → aSt → aM → Prop} {p : Program} {e : Env} {R : Room} {s : State} {m : MethodId} {args : Array Value} {below : List Frame} {meth : Method} {c : Code} (hF : aFrm l g f y o p e R s m args below meth c) {pc n t a b : Nat} {sw : List (Int × Nat)} {i9 : Nat} (hI : aOk y o (aMt y).2.1 pc (.lload i9, n, t, a, b, sw) = true) {k : aK} {z : aM} {ls : List (Option aV)} {st : List aV} {K : aK → aM → Nat → List (Option aV) → List aV → Prop} (h : stp l g f Q X pc (.lload i9, n, t, a, b, sw) k z ls st K) (hK : ∀ k z pc ls st, K k z pc ls st → aBs l g f Q X p e R s m args below meth c k z pc ls st) : aBs l g f Q X p e R s m args below meth c k z pc ls st := by
  obtain ⟨⟨hx, hst, hb, hml, hown, hlk, hrt⟩, ⟨hKN, hbs, hold⟩, ⟨hex, hnm, hrk, hho, hhc⟩, hr1, hr2, hr3, hr4, hr5⟩ := hF
  obtain ⟨hd, rfl, h2⟩ := aOk_d hI (by first | decide | (intro q; cases q))
  rcases hg : aGet ls i9 with _ | v
  · exact False.elim (by have h0 := h; unfold stp at h0; simp only [hg] at h0)
  · have h0 := h
    unfold stp at h0
    simp only [hg] at h0
    rcases v with v | v | v | v
    · exact False.elim h0
    · have h9 : K k z _ ls ((.inr (.inl v)) :: st) := h0
      intro hs hl hbd hlen H locs la hR hS hL
      have hv := hL.2.2 _ _ (aGet_at _ _ _ hg)
      refine lv_lload hx hb hd hv ?_
      exact hK _ _ _ _ _ h9 (aLv_c (w := .inr (.inl v)) (aLv_gt hl hg) hs) hl hbd hlen H locs la hR hS hL
    · exact False.elim h0
    · exact False.elim h0

theorem sk_dload {l : Launch} {g : aG} {f : aFr} {y o : Nat} {Q : Option aV → aSt → aM → Prop} {X : Nat → aSt → aM → Prop} {p : Program} {e : Env} {R : Room} {s : State} {m : MethodId} {args : Array Value} {below : List Frame} {meth : Method} {c : Code} (hF : aFrm l g f y o p e R s m args below meth c) {pc n t a b : Nat} {sw : List (Int × Nat)} {i9 : Nat} (hI : aOk y o (aMt y).2.1 pc (.dload i9, n, t, a, b, sw) = true) {k : aK} {z : aM} {ls : List (Option aV)} {st : List aV} {K : aK → aM → Nat → List (Option aV) → List aV → Prop} (h : stp l g f Q X pc (.dload i9, n, t, a, b, sw) k z ls st K) (hK : ∀ k z pc ls st, K k z pc ls st → aBs l g f Q X p e R s m args below meth c k z pc ls st) : aBs l g f Q X p e R s m args below meth c k z pc ls st := by
  obtain ⟨⟨hx, hst, hb, hml, hown, hlk, hrt⟩, ⟨hKN, hbs, hold⟩, ⟨hex, hnm, hrk, hho, hhc⟩, hr1, hr2, hr3, hr4, hr5⟩ := hF
  obtain ⟨hd, rfl, h2⟩ := aOk_d hI (by first | decide | (intro q; cases q))
  rcases hg : aGet ls i9 with _ | v
  · exact False.elim (by have h0 := h; unfold stp at h0; simp only [hg] at h0)
  · have h0 := h
    unfold stp at h0
    simp only [hg] at h0
    rcases v with v | v | v | v
    · exact False.elim h0
    · exact False.elim h0
    · exact False.elim h0
    · cases v with
      | double v =>
        have h9 : K k z _ ls ((.inr (.inr (.inr (.double v)))) :: st) := h0
        intro hs hl hbd hlen H locs la hR hS hL
        have hv := hL.2.2 _ _ (aGet_at _ _ _ hg)
        refine lv_dload hx hb hd hv ?_
        exact hK _ _ _ _ _ h9 (aLv_c (w := .inr (.inr (.inr (.double v)))) (aLv_gt hl hg) hs) hl hbd hlen H locs la hR hS hL
      | _ => exact False.elim h0

theorem sk_fload {l : Launch} {g : aG} {f : aFr} {y o : Nat} {Q : Option aV → aSt → aM → Prop} {X : Nat → aSt → aM → Prop} {p : Program} {e : Env} {R : Room} {s : State} {m : MethodId} {args : Array Value} {below : List Frame} {meth : Method} {c : Code} (hF : aFrm l g f y o p e R s m args below meth c) {pc n t a b : Nat} {sw : List (Int × Nat)} {i9 : Nat} (hI : aOk y o (aMt y).2.1 pc (.fload i9, n, t, a, b, sw) = true) {k : aK} {z : aM} {ls : List (Option aV)} {st : List aV} {K : aK → aM → Nat → List (Option aV) → List aV → Prop} (h : stp l g f Q X pc (.fload i9, n, t, a, b, sw) k z ls st K) (hK : ∀ k z pc ls st, K k z pc ls st → aBs l g f Q X p e R s m args below meth c k z pc ls st) : aBs l g f Q X p e R s m args below meth c k z pc ls st := by
  obtain ⟨⟨hx, hst, hb, hml, hown, hlk, hrt⟩, ⟨hKN, hbs, hold⟩, ⟨hex, hnm, hrk, hho, hhc⟩, hr1, hr2, hr3, hr4, hr5⟩ := hF
  obtain ⟨hd, rfl, h2⟩ := aOk_d hI (by first | decide | (intro q; cases q))
  rcases hg : aGet ls i9 with _ | v
  · exact False.elim (by have h0 := h; unfold stp at h0; simp only [hg] at h0)
  · have h0 := h
    unfold stp at h0
    simp only [hg] at h0
    rcases v with v | v | v | v
    · exact False.elim h0
    · exact False.elim h0
    · exact False.elim h0
    · cases v with
      | float v =>
        have h9 : K k z _ ls ((.inr (.inr (.inr (.float v)))) :: st) := h0
        intro hs hl hbd hlen H locs la hR hS hL
        have hv := hL.2.2 _ _ (aGet_at _ _ _ hg)
        refine lv_fload hx hb hd hv ?_
        exact hK _ _ _ _ _ h9 (aLv_c (w := .inr (.inr (.inr (.float v)))) (aLv_gt hl hg) hs) hl hbd hlen H locs la hR hS hL
      | _ => exact False.elim h0

theorem sk_istore_n {l : Launch} {g : aG} {f : aFr} {y o : Nat} {Q : Option aV → aSt → aM → Prop} {X : Nat → aSt → aM → Prop} {p : Program} {e : Env} {R : Room} {s : State} {m : MethodId} {args : Array Value} {below : List Frame} {meth : Method} {c : Code} (hF : aFrm l g f y o p e R s m args below meth c) {pc n t a b : Nat} {sw : List (Int × Nat)} {i9 : Fin 4} (hI : aOk y o (aMt y).2.1 pc (.istore_n i9, n, t, a, b, sw) = true) {k : aK} {z : aM} {ls : List (Option aV)} {st : List aV} {K : aK → aM → Nat → List (Option aV) → List aV → Prop} (h : stp l g f Q X pc (.istore_n i9, n, t, a, b, sw) k z ls st K) (hK : ∀ k z pc ls st, K k z pc ls st → aBs l g f Q X p e R s m args below meth c k z pc ls st) : aBs l g f Q X p e R s m args below meth c k z pc ls st := by
  obtain ⟨⟨hx, hst, hb, hml, hown, hlk, hrt⟩, ⟨hKN, hbs, hold⟩, ⟨hex, hnm, hrk, hho, hhc⟩, hr1, hr2, hr3, hr4, hr5⟩ := hF
  obtain ⟨hd, rfl, h2⟩ := aOk_d hI (by first | decide | (intro q; cases q))
  rcases st with _ | ⟨x1, st⟩
  · exact False.elim h
  · rcases x1 with x1 | x1 | x1 | x1
    · have h0 := h
      unfold stp at h0
      simp only at h0
      rcases hg : aSet1 ls i9.val (.inl x1) with _ | l1
      · rw [hg] at h0; exact False.elim h0
      · rw [hg] at h0
        have h9 := aFo_eq l1 h0
        intro hs hl hbd hlen H locs la hR hS hL
        have hsp := aSet1_s ls _ _ _ hg
        refine W.eq (g2 := F0 m pc la ((.int (iZ x1)) :: st.map (aC g))) rfl ?_
        refine lv_istore_n hx hb hd rfl hL.has (by have := hsp.2.1; rw [hlen] at this; exact this) rfl (fun la2 hh => ?_)
        exact hK _ _ _ _ _ h9 (aLv_tl hs) (aLv_s1 (v := .inl x1) hl trivial hg) hbd (hsp.1.trans hlen) H locs la2 hR hS (aLs.set1 hg hh)
    · exact False.elim h
    · exact False.elim h
    · exact False.elim h

theorem sk_istore {l : Launch} {g : aG} {f : aFr} {y o : Nat} {Q : Option aV → aSt → aM → Prop} {X : Nat → aSt → aM → Prop} {p : Program} {e : Env} {R : Room} {s : State} {m : MethodId} {args : Array Value} {below : List Frame} {meth : Method} {c : Code} (hF : aFrm l g f y o p e R s m args below meth c) {pc n t a b : Nat} {sw : List (Int × Nat)} {i9 : Nat} (hI : aOk y o (aMt y).2.1 pc (.istore i9, n, t, a, b, sw) = true) {k : aK} {z : aM} {ls : List (Option aV)} {st : List aV} {K : aK → aM → Nat → List (Option aV) → List aV → Prop} (h : stp l g f Q X pc (.istore i9, n, t, a, b, sw) k z ls st K) (hK : ∀ k z pc ls st, K k z pc ls st → aBs l g f Q X p e R s m args below meth c k z pc ls st) : aBs l g f Q X p e R s m args below meth c k z pc ls st := by
  obtain ⟨⟨hx, hst, hb, hml, hown, hlk, hrt⟩, ⟨hKN, hbs, hold⟩, ⟨hex, hnm, hrk, hho, hhc⟩, hr1, hr2, hr3, hr4, hr5⟩ := hF
  obtain ⟨hd, rfl, h2⟩ := aOk_d hI (by first | decide | (intro q; cases q))
  rcases st with _ | ⟨x1, st⟩
  · exact False.elim h
  · rcases x1 with x1 | x1 | x1 | x1
    · have h0 := h
      unfold stp at h0
      simp only at h0
      rcases hg : aSet1 ls i9 (.inl x1) with _ | l1
      · rw [hg] at h0; exact False.elim h0
      · rw [hg] at h0
        have h9 := aFo_eq l1 h0
        intro hs hl hbd hlen H locs la hR hS hL
        have hsp := aSet1_s ls _ _ _ hg
        refine W.eq (g2 := F0 m pc la ((.int (iZ x1)) :: st.map (aC g))) rfl ?_
        refine lv_istore hx hb hd hL.has (by have := hsp.2.1; rw [hlen] at this; exact this) rfl (fun la2 hh => ?_)
        exact hK _ _ _ _ _ h9 (aLv_tl hs) (aLv_s1 (v := .inl x1) hl trivial hg) hbd (hsp.1.trans hlen) H locs la2 hR hS (aLs.set1 hg hh)
    · exact False.elim h
    · exact False.elim h
    · exact False.elim h

theorem sk_astore_n {l : Launch} {g : aG} {f : aFr} {y o : Nat} {Q : Option aV → aSt → aM → Prop} {X : Nat → aSt → aM → Prop} {p : Program} {e : Env} {R : Room} {s : State} {m : MethodId} {args : Array Value} {below : List Frame} {meth : Method} {c : Code} (hF : aFrm l g f y o p e R s m args below meth c) {pc n t a b : Nat} {sw : List (Int × Nat)} {i9 : Fin 4} (hI : aOk y o (aMt y).2.1 pc (.astore_n i9, n, t, a, b, sw) = true) {k : aK} {z : aM} {ls : List (Option aV)} {st : List aV} {K : aK → aM → Nat → List (Option aV) → List aV → Prop} (h : stp l g f Q X pc (.astore_n i9, n, t, a, b, sw) k z ls st K) (hK : ∀ k z pc ls st, K k z pc ls st → aBs l g f Q X p e R s m args below meth c k z pc ls st) : aBs l g f Q X p e R s m args below meth c k z pc ls st := by
  obtain ⟨⟨hx, hst, hb, hml, hown, hlk, hrt⟩, ⟨hKN, hbs, hold⟩, ⟨hex, hnm, hrk, hho, hhc⟩, hr1, hr2, hr3, hr4, hr5⟩ := hF
  obtain ⟨hd, rfl, h2⟩ := aOk_d hI (by first | decide | (intro q; cases q))
  rcases st with _ | ⟨x1, st⟩
  · exact False.elim h
  · rcases x1 with x1 | x1 | x1 | x1
    · exact False.elim h
    · exact False.elim h
    · have h0 := h
      unfold stp at h0
      simp only at h0
      rcases hg : aSet1 ls i9.val (.inr (.inr (.inl x1))) with _ | l1
      · rw [hg] at h0; exact False.elim h0
      · rw [hg] at h0
        have h9 := aFo_eq l1 h0
        intro hs hl hbd hlen H locs la hR hS hL
        have hsp := aSet1_s ls _ _ _ hg
        refine W.eq (g2 := F0 m pc la ((.ref (aAd g x1)) :: st.map (aC g))) rfl ?_
        refine lv_astore_n hx hb hd rfl hL.has (by have := hsp.2.1; rw [hlen] at this; exact this) rfl (fun la2 hh => ?_)
        exact hK _ _ _ _ _ h9 (aLv_tl hs) (aLv_s1 (v := .inr (.inr (.inl x1))) hl (hs _ List.mem_cons_self) hg) hbd (hsp.1.trans hlen) H locs la2 hR hS (aLs.set1 hg hh)
    · cases x1 with
      | ref x1 =>
        have h0 := h
        unfold stp at h0
        simp only at h0
        rcases hg : aSet1 ls i9.val (.inr (.inr (.inr (.ref x1)))) with _ | l1
        · rw [hg] at h0; exact False.elim h0
        · rw [hg] at h0
          have h9 := aFo_eq l1 h0
          intro hs hl hbd hlen H locs la hR hS hL
          have hsp := aSet1_s ls _ _ _ hg
          refine W.eq (g2 := F0 m pc la ((.ref x1) :: st.map (aC g))) rfl ?_
          refine lv_astore_n hx hb hd rfl hL.has (by have := hsp.2.1; rw [hlen] at this; exact this) rfl (fun la2 hh => ?_)
          exact hK _ _ _ _ _ h9 (aLv_tl hs) (aLv_s1 (v := .inr (.inr (.inr (.ref x1)))) hl trivial hg) hbd (hsp.1.trans hlen) H locs la2 hR hS (aLs.set1 hg hh)
      | _ => exact False.elim h

theorem sk_astore {l : Launch} {g : aG} {f : aFr} {y o : Nat} {Q : Option aV → aSt → aM → Prop} {X : Nat → aSt → aM → Prop} {p : Program} {e : Env} {R : Room} {s : State} {m : MethodId} {args : Array Value} {below : List Frame} {meth : Method} {c : Code} (hF : aFrm l g f y o p e R s m args below meth c) {pc n t a b : Nat} {sw : List (Int × Nat)} {i9 : Nat} (hI : aOk y o (aMt y).2.1 pc (.astore i9, n, t, a, b, sw) = true) {k : aK} {z : aM} {ls : List (Option aV)} {st : List aV} {K : aK → aM → Nat → List (Option aV) → List aV → Prop} (h : stp l g f Q X pc (.astore i9, n, t, a, b, sw) k z ls st K) (hK : ∀ k z pc ls st, K k z pc ls st → aBs l g f Q X p e R s m args below meth c k z pc ls st) : aBs l g f Q X p e R s m args below meth c k z pc ls st := by
  obtain ⟨⟨hx, hst, hb, hml, hown, hlk, hrt⟩, ⟨hKN, hbs, hold⟩, ⟨hex, hnm, hrk, hho, hhc⟩, hr1, hr2, hr3, hr4, hr5⟩ := hF
  obtain ⟨hd, rfl, h2⟩ := aOk_d hI (by first | decide | (intro q; cases q))
  rcases st with _ | ⟨x1, st⟩
  · exact False.elim h
  · rcases x1 with x1 | x1 | x1 | x1
    · exact False.elim h
    · exact False.elim h
    · have h0 := h
      unfold stp at h0
      simp only at h0
      rcases hg : aSet1 ls i9 (.inr (.inr (.inl x1))) with _ | l1
      · rw [hg] at h0; exact False.elim h0
      · rw [hg] at h0
        have h9 := aFo_eq l1 h0
        intro hs hl hbd hlen H locs la hR hS hL
        have hsp := aSet1_s ls _ _ _ hg
        refine W.eq (g2 := F0 m pc la ((.ref (aAd g x1)) :: st.map (aC g))) rfl ?_
        refine lv_astore hx hb hd hL.has (by have := hsp.2.1; rw [hlen] at this; exact this) rfl (fun la2 hh => ?_)
        exact hK _ _ _ _ _ h9 (aLv_tl hs) (aLv_s1 (v := .inr (.inr (.inl x1))) hl (hs _ List.mem_cons_self) hg) hbd (hsp.1.trans hlen) H locs la2 hR hS (aLs.set1 hg hh)
    · cases x1 with
      | ref x1 =>
        have h0 := h
        unfold stp at h0
        simp only at h0
        rcases hg : aSet1 ls i9 (.inr (.inr (.inr (.ref x1)))) with _ | l1
        · rw [hg] at h0; exact False.elim h0
        · rw [hg] at h0
          have h9 := aFo_eq l1 h0
          intro hs hl hbd hlen H locs la hR hS hL
          have hsp := aSet1_s ls _ _ _ hg
          refine W.eq (g2 := F0 m pc la ((.ref x1) :: st.map (aC g))) rfl ?_
          refine lv_astore hx hb hd hL.has (by have := hsp.2.1; rw [hlen] at this; exact this) rfl (fun la2 hh => ?_)
          exact hK _ _ _ _ _ h9 (aLv_tl hs) (aLv_s1 (v := .inr (.inr (.inr (.ref x1)))) hl trivial hg) hbd (hsp.1.trans hlen) H locs la2 hR hS (aLs.set1 hg hh)
      | _ => exact False.elim h

theorem sk_lstore {l : Launch} {g : aG} {f : aFr} {y o : Nat} {Q : Option aV → aSt → aM → Prop} {X : Nat → aSt → aM → Prop} {p : Program} {e : Env} {R : Room} {s : State} {m : MethodId} {args : Array Value} {below : List Frame} {meth : Method} {c : Code} (hF : aFrm l g f y o p e R s m args below meth c) {pc n t a b : Nat} {sw : List (Int × Nat)} {i9 : Nat} (hI : aOk y o (aMt y).2.1 pc (.lstore i9, n, t, a, b, sw) = true) {k : aK} {z : aM} {ls : List (Option aV)} {st : List aV} {K : aK → aM → Nat → List (Option aV) → List aV → Prop} (h : stp l g f Q X pc (.lstore i9, n, t, a, b, sw) k z ls st K) (hK : ∀ k z pc ls st, K k z pc ls st → aBs l g f Q X p e R s m args below meth c k z pc ls st) : aBs l g f Q X p e R s m args below meth c k z pc ls st := by
  obtain ⟨⟨hx, hst, hb, hml, hown, hlk, hrt⟩, ⟨hKN, hbs, hold⟩, ⟨hex, hnm, hrk, hho, hhc⟩, hr1, hr2, hr3, hr4, hr5⟩ := hF
  obtain ⟨hd, rfl, h2⟩ := aOk_d hI (by first | decide | (intro q; cases q))
  rcases st with _ | ⟨x1, st⟩
  · exact False.elim h
  · rcases x1 with x1 | x1 | x1 | x1
    · exact False.elim h
    · have h0 := h
      unfold stp at h0
      simp only at h0
      rcases hg : aSet2 ls i9 (.inr (.inl x1)) with _ | l1
      · rw [hg] at h0; exact False.elim h0
      · rw [hg] at h0
        have h9 := aFo_eq l1 h0
        intro hs hl hbd hlen H locs la hR hS hL
        have hsp := aSet2_s ls _ _ _ hg
        refine W.eq (g2 := F0 m pc la ((.long (lZ x1)) :: st.map (aC g))) rfl ?_
        refine lv_lstore hx hb hd hL.has (by have := hsp.2.1; rw [hlen] at this; exact this) rfl (fun la2 hh => ?_)
        exact hK _ _ _ _ _ h9 (aLv_tl hs) (aLv_s2 (v := .inr (.inl x1)) hl trivial hg) hbd (hsp.1.trans hlen) H locs la2 hR hS (aLs.set2 hg hh)
    · exact False.elim h
    · exact False.elim h

theorem sk_dstore {l : Launch} {g : aG} {f : aFr} {y o : Nat} {Q : Option aV → aSt → aM → Prop} {X : Nat → aSt → aM → Prop} {p : Program} {e : Env} {R : Room} {s : State} {m : MethodId} {args : Array Value} {below : List Frame} {meth : Method} {c : Code} (hF : aFrm l g f y o p e R s m args below meth c) {pc n t a b : Nat} {sw : List (Int × Nat)} {i9 : Nat} (hI : aOk y o (aMt y).2.1 pc (.dstore i9, n, t, a, b, sw) = true) {k : aK} {z : aM} {ls : List (Option aV)} {st : List aV} {K : aK → aM → Nat → List (Option aV) → List aV → Prop} (h : stp l g f Q X pc (.dstore i9, n, t, a, b, sw) k z ls st K) (hK : ∀ k z pc ls st, K k z pc ls st → aBs l g f Q X p e R s m args below meth c k z pc ls st) : aBs l g f Q X p e R s m args below meth c k z pc ls st := by
  obtain ⟨⟨hx, hst, hb, hml, hown, hlk, hrt⟩, ⟨hKN, hbs, hold⟩, ⟨hex, hnm, hrk, hho, hhc⟩, hr1, hr2, hr3, hr4, hr5⟩ := hF
  obtain ⟨hd, rfl, h2⟩ := aOk_d hI (by first | decide | (intro q; cases q))
  rcases st with _ | ⟨x1, st⟩
  · exact False.elim h
  · rcases x1 with x1 | x1 | x1 | x1
    · exact False.elim h
    · exact False.elim h
    · exact False.elim h
    · cases x1 with
      | double x1 =>
        have h0 := h
        unfold stp at h0
        simp only at h0
        rcases hg : aSet2 ls i9 (.inr (.inr (.inr (.double x1)))) with _ | l1
        · rw [hg] at h0; exact False.elim h0
        · rw [hg] at h0
          have h9 := aFo_eq l1 h0
          intro hs hl hbd hlen H locs la hR hS hL
          have hsp := aSet2_s ls _ _ _ hg
          refine W.eq (g2 := F0 m pc la ((.double x1) :: st.map (aC g))) rfl ?_
          refine lv_dstore hx hb hd hL.has (by have := hsp.2.1; rw [hlen] at this; exact this) rfl (fun la2 hh => ?_)
          exact hK _ _ _ _ _ h9 (aLv_tl hs) (aLv_s2 (v := .inr (.inr (.inr (.double x1)))) hl trivial hg) hbd (hsp.1.trans hlen) H locs la2 hR hS (aLs.set2 hg hh)
      | _ => exact False.elim h

theorem sk_fstore {l : Launch} {g : aG} {f : aFr} {y o : Nat} {Q : Option aV → aSt → aM → Prop} {X : Nat → aSt → aM → Prop} {p : Program} {e : Env} {R : Room} {s : State} {m : MethodId} {args : Array Value} {below : List Frame} {meth : Method} {c : Code} (hF : aFrm l g f y o p e R s m args below meth c) {pc n t a b : Nat} {sw : List (Int × Nat)} {i9 : Nat} (hI : aOk y o (aMt y).2.1 pc (.fstore i9, n, t, a, b, sw) = true) {k : aK} {z : aM} {ls : List (Option aV)} {st : List aV} {K : aK → aM → Nat → List (Option aV) → List aV → Prop} (h : stp l g f Q X pc (.fstore i9, n, t, a, b, sw) k z ls st K) (hK : ∀ k z pc ls st, K k z pc ls st → aBs l g f Q X p e R s m args below meth c k z pc ls st) : aBs l g f Q X p e R s m args below meth c k z pc ls st := by
  obtain ⟨⟨hx, hst, hb, hml, hown, hlk, hrt⟩, ⟨hKN, hbs, hold⟩, ⟨hex, hnm, hrk, hho, hhc⟩, hr1, hr2, hr3, hr4, hr5⟩ := hF
  obtain ⟨hd, rfl, h2⟩ := aOk_d hI (by first | decide | (intro q; cases q))
  rcases st with _ | ⟨x1, st⟩
  · exact False.elim h
  · rcases x1 with x1 | x1 | x1 | x1
    · exact False.elim h
    · exact False.elim h
    · exact False.elim h
    · cases x1 with
      | float x1 =>
        have h0 := h
        unfold stp at h0
        simp only at h0
        rcases hg : aSet1 ls i9 (.inr (.inr (.inr (.float x1)))) with _ | l1
        · rw [hg] at h0; exact False.elim h0
        · rw [hg] at h0
          have h9 := aFo_eq l1 h0
          intro hs hl hbd hlen H locs la hR hS hL
          have hsp := aSet1_s ls _ _ _ hg
          refine W.eq (g2 := F0 m pc la ((.float x1) :: st.map (aC g))) rfl ?_
          refine lv_fstore hx hb hd hL.has (by have := hsp.2.1; rw [hlen] at this; exact this) rfl (fun la2 hh => ?_)
          exact hK _ _ _ _ _ h9 (aLv_tl hs) (aLv_s1 (v := .inr (.inr (.inr (.float x1)))) hl trivial hg) hbd (hsp.1.trans hlen) H locs la2 hR hS (aLs.set1 hg hh)
      | _ => exact False.elim h

theorem sk_if_eq {l : Launch} {g : aG} {f : aFr} {y o : Nat} {Q : Option aV → aSt → aM → Prop} {X : Nat → aSt → aM → Prop} {p : Program} {e : Env} {R : Room} {s : State} {m : MethodId} {args : Array Value} {below : List Frame} {meth : Method} {c : Code} (hF : aFrm l g f y o p e R s m args below meth c) {pc n t a b : Nat} {sw : List (Int × Nat)} {f9 : Int} (hI : aOk y o (aMt y).2.1 pc (.ifCond .eq f9, n, t, a, b, sw) = true) {k : aK} {z : aM} {ls : List (Option aV)} {st : List aV} {K : aK → aM → Nat → List (Option aV) → List aV → Prop} (h : stp l g f Q X pc (.ifCond .eq f9, n, t, a, b, sw) k z ls st K) (hK : ∀ k z pc ls st, K k z pc ls st → aBs l g f Q X p e R s m args below meth c k z pc ls st) : aBs l g f Q X p e R s m args below meth c k z pc ls st := by
  obtain ⟨⟨hx, hst, hb, hml, hown, hlk, hrt⟩, ⟨hKN, hbs, hold⟩, ⟨hex, hnm, hrk, hho, hhc⟩, hr1, hr2, hr3, hr4, hr5⟩ := hF
  obtain ⟨hd, rfl, h2⟩ := aOk_d hI (by first | decide | (intro q; cases q))
  rcases st with _ | ⟨x1, st⟩
  · exact False.elim h
  · rcases x1 with x1 | x1 | x1 | x1
    · obtain ⟨h1, h3, h4⟩ := h
      have q1 := h1
      have q2 : aIR 0 := ⟨by decide, by decide⟩
      intro hs hl hbd hlen H locs la hR hS hL
      have ht := of_decide_eq_true h2
      refine W.eq (g2 := F0 m pc la ((.int (iZ x1)) :: st.map (aC g))) rfl ?_
      refine lv_if_eq (tgt := t) hx hb hd ht (fun q => ?_) (fun q => ?_)
      all_goals rw [← iZ_0] at q
      · exact hK _ _ _ _ _ (h3 ((iZ_eq q1 q2).mp q)) (aLv_tl hs) hl hbd hlen H locs la hR hS hL
      · exact hK _ _ _ _ _ (h4 (fun w => q ((iZ_eq q1 q2).mpr w))) (aLv_tl hs) hl hbd hlen H locs la hR hS hL
    · exact False.elim h
    · exact False.elim h
    · exact False.elim h

theorem sk_icmp_eq {l : Launch} {g : aG} {f : aFr} {y o : Nat} {Q : Option aV → aSt → aM → Prop} {X : Nat → aSt → aM → Prop} {p : Program} {e : Env} {R : Room} {s : State} {m : MethodId} {args : Array Value} {below : List Frame} {meth : Method} {c : Code} (hF : aFrm l g f y o p e R s m args below meth c) {pc n t a b : Nat} {sw : List (Int × Nat)} {f9 : Int} (hI : aOk y o (aMt y).2.1 pc (.if_icmp .eq f9, n, t, a, b, sw) = true) {k : aK} {z : aM} {ls : List (Option aV)} {st : List aV} {K : aK → aM → Nat → List (Option aV) → List aV → Prop} (h : stp l g f Q X pc (.if_icmp .eq f9, n, t, a, b, sw) k z ls st K) (hK : ∀ k z pc ls st, K k z pc ls st → aBs l g f Q X p e R s m args below meth c k z pc ls st) : aBs l g f Q X p e R s m args below meth c k z pc ls st := by
  obtain ⟨⟨hx, hst, hb, hml, hown, hlk, hrt⟩, ⟨hKN, hbs, hold⟩, ⟨hex, hnm, hrk, hho, hhc⟩, hr1, hr2, hr3, hr4, hr5⟩ := hF
  obtain ⟨hd, rfl, h2⟩ := aOk_d hI (by first | decide | (intro q; cases q))
  rcases st with _ | ⟨y1, st⟩
  · exact False.elim h
  · rcases y1 with y1 | y1 | y1 | y1
    · rcases st with _ | ⟨x1, st⟩
      · exact False.elim h
      · rcases x1 with x1 | x1 | x1 | x1
        · obtain ⟨h1, h3, h4⟩ := h
          obtain ⟨q1, q2⟩ := h1
          intro hs hl hbd hlen H locs la hR hS hL
          have ht := of_decide_eq_true h2
          refine W.eq (g2 := F0 m pc la ((.int (iZ y1)) :: (.int (iZ x1)) :: st.map (aC g))) rfl ?_
          refine lv_icmp_eq (tgt := t) hx hb hd ht (fun q => ?_) (fun q => ?_)
          · exact hK _ _ _ _ _ (h3 ((iZ_eq q1 q2).mp q)) (aLv_tl (aLv_tl hs)) hl hbd hlen H locs la hR hS hL
          · exact hK _ _ _ _ _ (h4 (fun w => q ((iZ_eq q1 q2).mpr w))) (aLv_tl (aLv_tl hs)) hl hbd hlen H locs la hR hS hL
        · exact False.elim h
        · exact False.elim h
        · exact False.elim h
    · exact False.elim h
    · exact False.elim h
    · exact False.elim h

theorem sk_if_ne {l : Launch} {g : aG} {f : aFr} {y o : Nat} {Q : Option aV → aSt → aM → Prop} {X : Nat → aSt → aM → Prop} {p : Program} {e : Env} {R : Room} {s : State} {m : MethodId} {args : Array Value} {below : List Frame} {meth : Method} {c : Code} (hF : aFrm l g f y o p e R s m args below meth c) {pc n t a b : Nat} {sw : List (Int × Nat)} {f9 : Int} (hI : aOk y o (aMt y).2.1 pc (.ifCond .ne f9, n, t, a, b, sw) = true) {k : aK} {z : aM} {ls : List (Option aV)} {st : List aV} {K : aK → aM → Nat → List (Option aV) → List aV → Prop} (h : stp l g f Q X pc (.ifCond .ne f9, n, t, a, b, sw) k z ls st K) (hK : ∀ k z pc ls st, K k z pc ls st → aBs l g f Q X p e R s m args below meth c k z pc ls st) : aBs l g f Q X p e R s m args below meth c k z pc ls st := by
  obtain ⟨⟨hx, hst, hb, hml, hown, hlk, hrt⟩, ⟨hKN, hbs, hold⟩, ⟨hex, hnm, hrk, hho, hhc⟩, hr1, hr2, hr3, hr4, hr5⟩ := hF
  obtain ⟨hd, rfl, h2⟩ := aOk_d hI (by first | decide | (intro q; cases q))
  rcases st with _ | ⟨x1, st⟩
  · exact False.elim h
  · rcases x1 with x1 | x1 | x1 | x1
    · obtain ⟨h1, h3, h4⟩ := h
      have q1 := h1
      have q2 : aIR 0 := ⟨by decide, by decide⟩
      intro hs hl hbd hlen H locs la hR hS hL
      have ht := of_decide_eq_true h2
      refine W.eq (g2 := F0 m pc la ((.int (iZ x1)) :: st.map (aC g))) rfl ?_
      refine lv_if_ne (tgt := t) hx hb hd ht (fun q => ?_) (fun q => ?_)
      all_goals rw [← iZ_0] at q
      · exact hK _ _ _ _ _ (h3 (fun w => q ((iZ_eq q1 q2).mpr w))) (aLv_tl hs) hl hbd hlen H locs la hR hS hL
      · exact hK _ _ _ _ _ (h4 ((iZ_eq q1 q2).mp q)) (aLv_tl hs) hl hbd hlen H locs la hR hS hL
    · exact False.elim h
    · exact False.elim h
    · exact False.elim h

theorem sk_icmp_ne {l : Launch} {g : aG} {f : aFr} {y o : Nat} {Q : Option aV → aSt → aM → Prop} {X : Nat → aSt → aM → Prop} {p : Program} {e : Env} {R : Room} {s : State} {m : MethodId} {args : Array Value} {below : List Frame} {meth : Method} {c : Code} (hF : aFrm l g f y o p e R s m args below meth c) {pc n t a b : Nat} {sw : List (Int × Nat)} {f9 : Int} (hI : aOk y o (aMt y).2.1 pc (.if_icmp .ne f9, n, t, a, b, sw) = true) {k : aK} {z : aM} {ls : List (Option aV)} {st : List aV} {K : aK → aM → Nat → List (Option aV) → List aV → Prop} (h : stp l g f Q X pc (.if_icmp .ne f9, n, t, a, b, sw) k z ls st K) (hK : ∀ k z pc ls st, K k z pc ls st → aBs l g f Q X p e R s m args below meth c k z pc ls st) : aBs l g f Q X p e R s m args below meth c k z pc ls st := by
  obtain ⟨⟨hx, hst, hb, hml, hown, hlk, hrt⟩, ⟨hKN, hbs, hold⟩, ⟨hex, hnm, hrk, hho, hhc⟩, hr1, hr2, hr3, hr4, hr5⟩ := hF
  obtain ⟨hd, rfl, h2⟩ := aOk_d hI (by first | decide | (intro q; cases q))
  rcases st with _ | ⟨y1, st⟩
  · exact False.elim h
  · rcases y1 with y1 | y1 | y1 | y1
    · rcases st with _ | ⟨x1, st⟩
      · exact False.elim h
      · rcases x1 with x1 | x1 | x1 | x1
        · obtain ⟨h1, h3, h4⟩ := h
          obtain ⟨q1, q2⟩ := h1
          intro hs hl hbd hlen H locs la hR hS hL
          have ht := of_decide_eq_true h2
          refine W.eq (g2 := F0 m pc la ((.int (iZ y1)) :: (.int (iZ x1)) :: st.map (aC g))) rfl ?_
          refine lv_icmp_ne (tgt := t) hx hb hd ht (fun q => ?_) (fun q => ?_)
          · exact hK _ _ _ _ _ (h3 (fun w => q ((iZ_eq q1 q2).mpr w))) (aLv_tl (aLv_tl hs)) hl hbd hlen H locs la hR hS hL
          · exact hK _ _ _ _ _ (h4 ((iZ_eq q1 q2).mp q)) (aLv_tl (aLv_tl hs)) hl hbd hlen H locs la hR hS hL
        · exact False.elim h
        · exact False.elim h
        · exact False.elim h
    · exact False.elim h
    · exact False.elim h
    · exact False.elim h

theorem sk_if_lt {l : Launch} {g : aG} {f : aFr} {y o : Nat} {Q : Option aV → aSt → aM → Prop} {X : Nat → aSt → aM → Prop} {p : Program} {e : Env} {R : Room} {s : State} {m : MethodId} {args : Array Value} {below : List Frame} {meth : Method} {c : Code} (hF : aFrm l g f y o p e R s m args below meth c) {pc n t a b : Nat} {sw : List (Int × Nat)} {f9 : Int} (hI : aOk y o (aMt y).2.1 pc (.ifCond .lt f9, n, t, a, b, sw) = true) {k : aK} {z : aM} {ls : List (Option aV)} {st : List aV} {K : aK → aM → Nat → List (Option aV) → List aV → Prop} (h : stp l g f Q X pc (.ifCond .lt f9, n, t, a, b, sw) k z ls st K) (hK : ∀ k z pc ls st, K k z pc ls st → aBs l g f Q X p e R s m args below meth c k z pc ls st) : aBs l g f Q X p e R s m args below meth c k z pc ls st := by
  obtain ⟨⟨hx, hst, hb, hml, hown, hlk, hrt⟩, ⟨hKN, hbs, hold⟩, ⟨hex, hnm, hrk, hho, hhc⟩, hr1, hr2, hr3, hr4, hr5⟩ := hF
  obtain ⟨hd, rfl, h2⟩ := aOk_d hI (by first | decide | (intro q; cases q))
  rcases st with _ | ⟨x1, st⟩
  · exact False.elim h
  · rcases x1 with x1 | x1 | x1 | x1
    · obtain ⟨h1, h3, h4⟩ := h
      have q1 := h1
      have q2 : aIR 0 := ⟨by decide, by decide⟩
      intro hs hl hbd hlen H locs la hR hS hL
      have ht := of_decide_eq_true h2
      refine W.eq (g2 := F0 m pc la ((.int (iZ x1)) :: st.map (aC g))) rfl ?_
      refine lv_if_lt (tgt := t) hx hb hd ht (fun q => ?_) (fun q => ?_)
      all_goals rw [← iZ_0] at q
      · exact hK _ _ _ _ _ (h3 ((iZ_lt q1 q2).mp q)) (aLv_tl hs) hl hbd hlen H locs la hR hS hL
      · exact hK _ _ _ _ _ (h4 (Int.not_lt.mp fun w => q ((iZ_lt q1 q2).mpr w))) (aLv_tl hs) hl hbd hlen H locs la hR hS hL
    · exact False.elim h
    · exact False.elim h
    · exact False.elim h

theorem sk_icmp_lt {l : Launch} {g : aG} {f : aFr} {y o : Nat} {Q : Option aV → aSt → aM → Prop} {X : Nat → aSt → aM → Prop} {p : Program} {e : Env} {R : Room} {s : State} {m : MethodId} {args : Array Value} {below : List Frame} {meth : Method} {c : Code} (hF : aFrm l g f y o p e R s m args below meth c) {pc n t a b : Nat} {sw : List (Int × Nat)} {f9 : Int} (hI : aOk y o (aMt y).2.1 pc (.if_icmp .lt f9, n, t, a, b, sw) = true) {k : aK} {z : aM} {ls : List (Option aV)} {st : List aV} {K : aK → aM → Nat → List (Option aV) → List aV → Prop} (h : stp l g f Q X pc (.if_icmp .lt f9, n, t, a, b, sw) k z ls st K) (hK : ∀ k z pc ls st, K k z pc ls st → aBs l g f Q X p e R s m args below meth c k z pc ls st) : aBs l g f Q X p e R s m args below meth c k z pc ls st := by
  obtain ⟨⟨hx, hst, hb, hml, hown, hlk, hrt⟩, ⟨hKN, hbs, hold⟩, ⟨hex, hnm, hrk, hho, hhc⟩, hr1, hr2, hr3, hr4, hr5⟩ := hF
  obtain ⟨hd, rfl, h2⟩ := aOk_d hI (by first | decide | (intro q; cases q))
  rcases st with _ | ⟨y1, st⟩
  · exact False.elim h
  · rcases y1 with y1 | y1 | y1 | y1
    · rcases st with _ | ⟨x1, st⟩
      · exact False.elim h
      · rcases x1 with x1 | x1 | x1 | x1
        · obtain ⟨h1, h3, h4⟩ := h
          obtain ⟨q1, q2⟩ := h1
          intro hs hl hbd hlen H locs la hR hS hL
          have ht := of_decide_eq_true h2
          refine W.eq (g2 := F0 m pc la ((.int (iZ y1)) :: (.int (iZ x1)) :: st.map (aC g))) rfl ?_
          refine lv_icmp_lt (tgt := t) hx hb hd ht (fun q => ?_) (fun q => ?_)
          · exact hK _ _ _ _ _ (h3 ((iZ_lt q1 q2).mp q)) (aLv_tl (aLv_tl hs)) hl hbd hlen H locs la hR hS hL
          · exact hK _ _ _ _ _ (h4 (Int.not_lt.mp fun w => q ((iZ_lt q1 q2).mpr w))) (aLv_tl (aLv_tl hs)) hl hbd hlen H locs la hR hS hL
        · exact False.elim h
        · exact False.elim h
        · exact False.elim h
    · exact False.elim h
    · exact False.elim h
    · exact False.elim h

theorem sk_if_ge {l : Launch} {g : aG} {f : aFr} {y o : Nat} {Q : Option aV → aSt → aM → Prop} {X : Nat → aSt → aM → Prop} {p : Program} {e : Env} {R : Room} {s : State} {m : MethodId} {args : Array Value} {below : List Frame} {meth : Method} {c : Code} (hF : aFrm l g f y o p e R s m args below meth c) {pc n t a b : Nat} {sw : List (Int × Nat)} {f9 : Int} (hI : aOk y o (aMt y).2.1 pc (.ifCond .ge f9, n, t, a, b, sw) = true) {k : aK} {z : aM} {ls : List (Option aV)} {st : List aV} {K : aK → aM → Nat → List (Option aV) → List aV → Prop} (h : stp l g f Q X pc (.ifCond .ge f9, n, t, a, b, sw) k z ls st K) (hK : ∀ k z pc ls st, K k z pc ls st → aBs l g f Q X p e R s m args below meth c k z pc ls st) : aBs l g f Q X p e R s m args below meth c k z pc ls st := by
  obtain ⟨⟨hx, hst, hb, hml, hown, hlk, hrt⟩, ⟨hKN, hbs, hold⟩, ⟨hex, hnm, hrk, hho, hhc⟩, hr1, hr2, hr3, hr4, hr5⟩ := hF
  obtain ⟨hd, rfl, h2⟩ := aOk_d hI (by first | decide | (intro q; cases q))
  rcases st with _ | ⟨x1, st⟩
  · exact False.elim h
  · rcases x1 with x1 | x1 | x1 | x1
    · obtain ⟨h1, h3, h4⟩ := h
      have q1 := h1
      have q2 : aIR 0 := ⟨by decide, by decide⟩
      intro hs hl hbd hlen H locs la hR hS hL
      have ht := of_decide_eq_true h2
      refine W.eq (g2 := F0 m pc la ((.int (iZ x1)) :: st.map (aC g))) rfl ?_
      refine lv_if_ge (tgt := t) hx hb hd ht (fun q => ?_) (fun q => ?_)
      all_goals rw [← iZ_0] at q
      · exact hK _ _ _ _ _ (h3 ((iZ_le q2 q1).mp q)) (aLv_tl hs) hl hbd hlen H locs la hR hS hL
      · exact hK _ _ _ _ _ (h4 (Int.not_le.mp fun w => q ((iZ_le q2 q1).mpr w))) (aLv_tl hs) hl hbd hlen H locs la hR hS hL
    · exact False.elim h
    · exact False.elim h
    · exact False.elim h

theorem sk_icmp_ge {l : Launch} {g : aG} {f : aFr} {y o : Nat} {Q : Option aV → aSt → aM → Prop} {X : Nat → aSt → aM → Prop} {p : Program} {e : Env} {R : Room} {s : State} {m : MethodId} {args : Array Value} {below : List Frame} {meth : Method} {c : Code} (hF : aFrm l g f y o p e R s m args below meth c) {pc n t a b : Nat} {sw : List (Int × Nat)} {f9 : Int} (hI : aOk y o (aMt y).2.1 pc (.if_icmp .ge f9, n, t, a, b, sw) = true) {k : aK} {z : aM} {ls : List (Option aV)} {st : List aV} {K : aK → aM → Nat → List (Option aV) → List aV → Prop} (h : stp l g f Q X pc (.if_icmp .ge f9, n, t, a, b, sw) k z ls st K) (hK : ∀ k z pc ls st, K k z pc ls st → aBs l g f Q X p e R s m args below meth c k z pc ls st) : aBs l g f Q X p e R s m args below meth c k z pc ls st := by
  obtain ⟨⟨hx, hst, hb, hml, hown, hlk, hrt⟩, ⟨hKN, hbs, hold⟩, ⟨hex, hnm, hrk, hho, hhc⟩, hr1, hr2, hr3, hr4, hr5⟩ := hF
  obtain ⟨hd, rfl, h2⟩ := aOk_d hI (by first | decide | (intro q; cases q))
  rcases st with _ | ⟨y1, st⟩
  · exact False.elim h
  · rcases y1 with y1 | y1 | y1 | y1
    · rcases st with _ | ⟨x1, st⟩
      · exact False.elim h
      · rcases x1 with x1 | x1 | x1 | x1
        · obtain ⟨h1, h3, h4⟩ := h
          obtain ⟨q1, q2⟩ := h1
          intro hs hl hbd hlen H locs la hR hS hL
          have ht := of_decide_eq_true h2
          refine W.eq (g2 := F0 m pc la ((.int (iZ y1)) :: (.int (iZ x1)) :: st.map (aC g))) rfl ?_
          refine lv_icmp_ge (tgt := t) hx hb hd ht (fun q => ?_) (fun q => ?_)
          · exact hK _ _ _ _ _ (h3 ((iZ_le q2 q1).mp q)) (aLv_tl (aLv_tl hs)) hl hbd hlen H locs la hR hS hL
          · exact hK _ _ _ _ _ (h4 (Int.not_le.mp fun w => q ((iZ_le q2 q1).mpr w))) (aLv_tl (aLv_tl hs)) hl hbd hlen H locs la hR hS hL
        · exact False.elim h
        · exact False.elim h
        · exact False.elim h
    · exact False.elim h
    · exact False.elim h
    · exact False.elim h

theorem sk_if_gt {l : Launch} {g : aG} {f : aFr} {y o : Nat} {Q : Option aV → aSt → aM → Prop} {X : Nat → aSt → aM → Prop} {p : Program} {e : Env} {R : Room} {s : State} {m : MethodId} {args : Array Value} {below : List Frame} {meth : Method} {c : Code} (hF : aFrm l g f y o p e R s m args below meth c) {pc n t a b : Nat} {sw : List (Int × Nat)} {f9 : Int} (hI : aOk y o (aMt y).2.1 pc (.ifCond .gt f9, n, t, a, b, sw) = true) {k : aK} {z : aM} {ls : List (Option aV)} {st : List aV} {K : aK → aM → Nat → List (Option aV) → List aV → Prop} (h : stp l g f Q X pc (.ifCond .gt f9, n, t, a, b, sw) k z ls st K) (hK : ∀ k z pc ls st, K k z pc ls st → aBs l g f Q X p e R s m args below meth c k z pc ls st) : aBs l g f Q X p e R s m args below meth c k z pc ls st := by
  obtain ⟨⟨hx, hst, hb, hml, hown, hlk, hrt⟩, ⟨hKN, hbs, hold⟩, ⟨hex, hnm, hrk, hho, hhc⟩, hr1, hr2, hr3, hr4, hr5⟩ := hF
  obtain ⟨hd, rfl, h2⟩ := aOk_d hI (by first | decide | (intro q; cases q))
  rcases st with _ | ⟨x1, st⟩
  · exact False.elim h
  · rcases x1 with x1 | x1 | x1 | x1
    · obtain ⟨h1, h3, h4⟩ := h
      have q1 := h1
      have q2 : aIR 0 := ⟨by decide, by decide⟩
      intro hs hl hbd hlen H locs la hR hS hL
      have ht := of_decide_eq_true h2
      refine W.eq (g2 := F0 m pc la ((.int (iZ x1)) :: st.map (aC g))) rfl ?_
      refine lv_if_gt (tgt := t) hx hb hd ht (fun q => ?_) (fun q => ?_)
      all_goals rw [← iZ_0] at q
      · exact hK _ _ _ _ _ (h3 ((iZ_lt q2 q1).mp q)) (aLv_tl hs) hl hbd hlen H locs la hR hS hL
      · exact hK _ _ _ _ _ (h4 (Int.not_lt.mp fun w => q ((iZ_lt q2 q1).mpr w))) (aLv_tl hs) hl hbd hlen H locs la hR hS hL
    · exact False.elim h
    · exact False.elim h
    · exact False.elim h

theorem sk_icmp_gt {l : Launch} {g : aG} {f : aFr} {y o : Nat} {Q : Option aV → aSt → aM → Prop} {X : Nat → aSt → aM → Prop} {p : Program} {e : Env} {R : Room} {s : State} {m : MethodId} {args : Array Value} {below : List Frame} {meth : Method} {c : Code} (hF : aFrm l g f y o p e R s m args below meth c) {pc n t a b : Nat} {sw : List (Int × Nat)} {f9 : Int} (hI : aOk y o (aMt y).2.1 pc (.if_icmp .gt f9, n, t, a, b, sw) = true) {k : aK} {z : aM} {ls : List (Option aV)} {st : List aV} {K : aK → aM → Nat → List (Option aV) → List aV → Prop} (h : stp l g f Q X pc (.if_icmp .gt f9, n, t, a, b, sw) k z ls st K) (hK : ∀ k z pc ls st, K k z pc ls st → aBs l g f Q X p e R s m args below meth c k z pc ls st) : aBs l g f Q X p e R s m args below meth c k z pc ls st := by
  obtain ⟨⟨hx, hst, hb, hml, hown, hlk, hrt⟩, ⟨hKN, hbs, hold⟩, ⟨hex, hnm, hrk, hho, hhc⟩, hr1, hr2, hr3, hr4, hr5⟩ := hF
  obtain ⟨hd, rfl, h2⟩ := aOk_d hI (by first | decide | (intro q; cases q))
  rcases st with _ | ⟨y1, st⟩
  · exact False.elim h
  · rcases y1 with y1 | y1 | y1 | y1
    · rcases st with _ | ⟨x1, st⟩
      · exact False.elim h
      · rcases x1 with x1 | x1 | x1 | x1
        · obtain ⟨h1, h3, h4⟩ := h
          obtain ⟨q1, q2⟩ := h1
          intro hs hl hbd hlen H locs la hR hS hL
          have ht := of_decide_eq_true h2
          refine W.eq (g2 := F0 m pc la ((.int (iZ y1)) :: (.int (iZ x1)) :: st.map (aC g))) rfl ?_
          refine lv_icmp_gt (tgt := t) hx hb hd ht (fun q => ?_) (fun q => ?_)
          · exact hK _ _ _ _ _ (h3 ((iZ_lt q2 q1).mp q)) (aLv_tl (aLv_tl hs)) hl hbd hlen H locs la hR hS hL
          · exact hK _ _ _ _ _ (h4 (Int.not_lt.mp fun w => q ((iZ_lt q2 q1).mpr w))) (aLv_tl (aLv_tl hs)) hl hbd hlen H locs la hR hS hL
        · exact False.elim h
        · exact False.elim h
        · exact False.elim h
    · exact False.elim h
    · exact False.elim h
    · exact False.elim h

theorem sk_if_le {l : Launch} {g : aG} {f : aFr} {y o : Nat} {Q : Option aV → aSt → aM → Prop} {X : Nat → aSt → aM → Prop} {p : Program} {e : Env} {R : Room} {s : State} {m : MethodId} {args : Array Value} {below : List Frame} {meth : Method} {c : Code} (hF : aFrm l g f y o p e R s m args below meth c) {pc n t a b : Nat} {sw : List (Int × Nat)} {f9 : Int} (hI : aOk y o (aMt y).2.1 pc (.ifCond .le f9, n, t, a, b, sw) = true) {k : aK} {z : aM} {ls : List (Option aV)} {st : List aV} {K : aK → aM → Nat → List (Option aV) → List aV → Prop} (h : stp l g f Q X pc (.ifCond .le f9, n, t, a, b, sw) k z ls st K) (hK : ∀ k z pc ls st, K k z pc ls st → aBs l g f Q X p e R s m args below meth c k z pc ls st) : aBs l g f Q X p e R s m args below meth c k z pc ls st := by
  obtain ⟨⟨hx, hst, hb, hml, hown, hlk, hrt⟩, ⟨hKN, hbs, hold⟩, ⟨hex, hnm, hrk, hho, hhc⟩, hr1, hr2, hr3, hr4, hr5⟩ := hF
  obtain ⟨hd, rfl, h2⟩ := aOk_d hI (by first | decide | (intro q; cases q))
  rcases st with _ | ⟨x1, st⟩
  · exact False.elim h
  · rcases x1 with x1 | x1 | x1 | x1
    · obtain ⟨h1, h3, h4⟩ := h
      have q1 := h1
      have q2 : aIR 0 := ⟨by decide, by decide⟩
      intro hs hl hbd hlen H locs la hR hS hL
      have ht := of_decide_eq_true h2
      refine W.eq (g2 := F0 m pc la ((.int (iZ x1)) :: st.map (aC g))) rfl ?_
      refine lv_if_le (tgt := t) hx hb hd ht (fun q => ?_) (fun q => ?_)
      all_goals rw [← iZ_0] at q
      · exact hK _ _ _ _ _ (h3 ((iZ_le q1 q2).mp q)) (aLv_tl hs) hl hbd hlen H locs la hR hS hL
      · exact hK _ _ _ _ _ (h4 (Int.not_le.mp fun w => q ((iZ_le q1 q2).mpr w))) (aLv_tl hs) hl hbd hlen H locs la hR hS hL
    · exact False.elim h
    · exact False.elim h
    · exact False.elim h

theorem sk_icmp_le {l : Launch} {g : aG} {f : aFr} {y o : Nat} {Q : Option aV → aSt → aM → Prop} {X : Nat → aSt → aM → Prop} {p : Program} {e : Env} {R : Room} {s : State} {m : MethodId} {args : Array Value} {below : List Frame} {meth : Method} {c : Code} (hF : aFrm l g f y o p e R s m args below meth c) {pc n t a b : Nat} {sw : List (Int × Nat)} {f9 : Int} (hI : aOk y o (aMt y).2.1 pc (.if_icmp .le f9, n, t, a, b, sw) = true) {k : aK} {z : aM} {ls : List (Option aV)} {st : List aV} {K : aK → aM → Nat → List (Option aV) → List aV → Prop} (h : stp l g f Q X pc (.if_icmp .le f9, n, t, a, b, sw) k z ls st K) (hK : ∀ k z pc ls st, K k z pc ls st → aBs l g f Q X p e R s m args below meth c k z pc ls st) : aBs l g f Q X p e R s m args below meth c k z pc ls st := by
  obtain ⟨⟨hx, hst, hb, hml, hown, hlk, hrt⟩, ⟨hKN, hbs, hold⟩, ⟨hex, hnm, hrk, hho, hhc⟩, hr1, hr2, hr3, hr4, hr5⟩ := hF
  obtain ⟨hd, rfl, h2⟩ := aOk_d hI (by first | decide | (intro q; cases q))
  rcases st with _ | ⟨y1, st⟩
  · exact False.elim h
  · rcases y1 with y1 | y1 | y1 | y1
    · rcases st with _ | ⟨x1, st⟩
      · exact False.elim h
      · rcases x1 with x1 | x1 | x1 | x1
        · obtain ⟨h1, h3, h4⟩ := h
          obtain ⟨q1, q2⟩ := h1
          intro hs hl hbd hlen H locs la hR hS hL
          have ht := of_decide_eq_true h2
          refine W.eq (g2 := F0 m pc la ((.int (iZ y1)) :: (.int (iZ x1)) :: st.map (aC g))) rfl ?_
          refine lv_icmp_le (tgt := t) hx hb hd ht (fun q => ?_) (fun q => ?_)
          · exact hK _ _ _ _ _ (h3 ((iZ_le q1 q2).mp q)) (aLv_tl (aLv_tl hs)) hl hbd hlen H locs la hR hS hL
          · exact hK _ _ _ _ _ (h4 (Int.not_le.mp fun w => q ((iZ_le q1 q2).mpr w))) (aLv_tl (aLv_tl hs)) hl hbd hlen H locs la hR hS hL
        · exact False.elim h
        · exact False.elim h
        · exact False.elim h
    · exact False.elim h
    · exact False.elim h
    · exact False.elim h

theorem sk_goto {l : Launch} {g : aG} {f : aFr} {y o : Nat} {Q : Option aV → aSt → aM → Prop} {X : Nat → aSt → aM → Prop} {p : Program} {e : Env} {R : Room} {s : State} {m : MethodId} {args : Array Value} {below : List Frame} {meth : Method} {c : Code} (hF : aFrm l g f y o p e R s m args below meth c) {pc n t a b : Nat} {sw : List (Int × Nat)} {f9 : Int} (hI : aOk y o (aMt y).2.1 pc (.goto f9, n, t, a, b, sw) = true) {k : aK} {z : aM} {ls : List (Option aV)} {st : List aV} {K : aK → aM → Nat → List (Option aV) → List aV → Prop} (h : stp l g f Q X pc (.goto f9, n, t, a, b, sw) k z ls st K) (hK : ∀ k z pc ls st, K k z pc ls st → aBs l g f Q X p e R s m args below meth c k z pc ls st) : aBs l g f Q X p e R s m args below meth c k z pc ls st := by
  obtain ⟨⟨hx, hst, hb, hml, hown, hlk, hrt⟩, ⟨hKN, hbs, hold⟩, ⟨hex, hnm, hrk, hho, hhc⟩, hr1, hr2, hr3, hr4, hr5⟩ := hF
  obtain ⟨hd, rfl, h2⟩ := aOk_d hI (by first | decide | (intro q; cases q))
  have h9 : K k z t ls st := h
  intro hs hl hbd hlen H locs la hR hS hL
  refine lv_goto (tgt := t) hx hb hd (of_decide_eq_true h2) ?_
  exact hK _ _ _ _ _ h9 hs hl hbd hlen H locs la hR hS hL

theorem sk_pop {l : Launch} {g : aG} {f : aFr} {y o : Nat} {Q : Option aV → aSt → aM → Prop} {X : Nat → aSt → aM → Prop} {p : Program} {e : Env} {R : Room} {s : State} {m : MethodId} {args : Array Value} {below : List Frame} {meth : Method} {c : Code} (hF : aFrm l g f y o p e R s m args below meth c) {pc n t a b : Nat} {sw : List (Int × Nat)}  (hI : aOk y o (aMt y).2.1 pc (.pop, n, t, a, b, sw) = true) {k : aK} {z : aM} {ls : List (Option aV)} {st : List aV} {K : aK → aM → Nat → List (Option aV) → List aV → Prop} (h : stp l g f Q X pc (.pop, n, t, a, b, sw) k z ls st K) (hK : ∀ k z pc ls st, K k z pc ls st → aBs l g f Q X p e R s m args below meth c k z pc ls st) : aBs l g f Q X p e R s m args below meth c k z pc ls st := by
  obtain ⟨⟨hx, hst, hb, hml, hown, hlk, hrt⟩, ⟨hKN, hbs, hold⟩, ⟨hex, hnm, hrk, hho, hhc⟩, hr1, hr2, hr3, hr4, hr5⟩ := hF
  obtain ⟨hd, rfl, h2⟩ := aOk_d hI (by first | decide | (intro q; cases q))
  rcases st with _ | ⟨v, st⟩
  · exact False.elim h
  · have h0 := h
    unfold stp at h0
    simp only at h0
    rcases hw : aW2 v with _ | _
    · rw [hw] at h0
      intro hs hl hbd hlen H locs la hR hS hL
      refine W.eq (g2 := F0 m pc la (aC g v :: st.map (aC g))) rfl ?_
      refine lv_pop hx hb hd (by rw [aC_cat, hw]; rfl) ?_
      exact hK _ _ _ _ _ h0 (aLv_tl hs) hl hbd hlen H locs la hR hS hL
    · rw [hw] at h0; exact False.elim h0

theorem sk_dup {l : Launch} {g : aG} {f : aFr} {y o : Nat} {Q : Option aV → aSt → aM → Prop} {X : Nat → aSt → aM → Prop} {p : Program} {e : Env} {R : Room} {s : State} {m : MethodId} {args : Array Value} {below : List Frame} {meth : Method} {c : Code} (hF : aFrm l g f y o p e R s m args below meth c) {pc n t a b : Nat} {sw : List (Int × Nat)}  (hI : aOk y o (aMt y).2.1 pc (.dup, n, t, a, b, sw) = true) {k : aK} {z : aM} {ls : List (Option aV)} {st : List aV} {K : aK → aM → Nat → List (Option aV) → List aV → Prop} (h : stp l g f Q X pc (.dup, n, t, a, b, sw) k z ls st K) (hK : ∀ k z pc ls st, K k z pc ls st → aBs l g f Q X p e R s m args below meth c k z pc ls st) : aBs l g f Q X p e R s m args below meth c k z pc ls st := by
  obtain ⟨⟨hx, hst, hb, hml, hown, hlk, hrt⟩, ⟨hKN, hbs, hold⟩, ⟨hex, hnm, hrk, hho, hhc⟩, hr1, hr2, hr3, hr4, hr5⟩ := hF
  obtain ⟨hd, rfl, h2⟩ := aOk_d hI (by first | decide | (intro q; cases q))
  rcases st with _ | ⟨v, st⟩
  · exact False.elim h
  · have h0 := h
    unfold stp at h0
    simp only at h0
    rcases hw : aW2 v with _ | _
    · rw [hw] at h0
      intro hs hl hbd hlen H locs la hR hS hL
      refine W.eq (g2 := F0 m pc la (aC g v :: st.map (aC g))) rfl ?_
      refine lv_dup hx hb hd (by rw [aC_cat, hw]; rfl) ?_
      exact hK _ _ _ _ _ h0 (aLv_c (hs _ List.mem_cons_self) hs) hl hbd hlen H locs la hR hS hL
    · rw [hw] at h0; exact False.elim h0

theorem sk_dup2 {l : Launch} {g : aG} {f : aFr} {y o : Nat} {Q : Option aV → aSt → aM → Prop} {X : Nat → aSt → aM → Prop} {p : Program} {e : Env} {R : Room} {s : State} {m : MethodId} {args : Array Value} {below : List Frame} {meth : Method} {c : Code} (hF : aFrm l g f y o p e R s m args below meth c) {pc n t a b : Nat} {sw : List (Int × Nat)}  (hI : aOk y o (aMt y).2.1 pc (.dup2, n, t, a, b, sw) = true) {k : aK} {z : aM} {ls : List (Option aV)} {st : List aV} {K : aK → aM → Nat → List (Option aV) → List aV → Prop} (h : stp l g f Q X pc (.dup2, n, t, a, b, sw) k z ls st K) (hK : ∀ k z pc ls st, K k z pc ls st → aBs l g f Q X p e R s m args below meth c k z pc ls st) : aBs l g f Q X p e R s m args below meth c k z pc ls st := by
  obtain ⟨⟨hx, hst, hb, hml, hown, hlk, hrt⟩, ⟨hKN, hbs, hold⟩, ⟨hex, hnm, hrk, hho, hhc⟩, hr1, hr2, hr3, hr4, hr5⟩ := hF
  obtain ⟨hd, rfl, h2⟩ := aOk_d hI (by first | decide | (intro q; cases q))
  rcases st with _ | ⟨v, st⟩
  · exact False.elim h
  · rcases st with _ | ⟨w, st⟩
    · exact False.elim h
    · have h0 := h
      unfold stp at h0
      simp only at h0
      rcases hv : aW2 v with _ | _
      · rcases hw : aW2 w with _ | _
        · rw [hv, hw] at h0
          intro hs hl hbd hlen H locs la hR hS hL
          refine W.eq (g2 := F0 m pc la (aC g v :: aC g w :: st.map (aC g))) rfl ?_
          refine lv_dup2_11 hx hb hd (by rw [aC_cat, hv]; rfl) (by rw [aC_cat, hw]; rfl) ?_
          exact hK _ _ _ _ _ h0 (aLv_c (hs _ List.mem_cons_self) (aLv_c (hs _ (List.mem_cons_of_mem _ List.mem_cons_self)) hs)) hl hbd hlen H locs la hR hS hL
        · rw [hv, hw] at h0; exact False.elim h0
      · rw [hv] at h0; exact False.elim h0

theorem sk_lconst {l : Launch} {g : aG} {f : aFr} {y o : Nat} {Q : Option aV → aSt → aM → Prop} {X : Nat → aSt → aM → Prop} {p : Program} {e : Env} {R : Room} {s : State} {m : MethodId} {args : Array Value} {below : List Frame} {meth : Method} {c : Code} (hF : aFrm l g f y o p e R s m args below meth c) {pc n t a b : Nat} {sw : List (Int × Nat)} {i9 : Fin 2} (hI : aOk y o (aMt y).2.1 pc (.lconst i9, n, t, a, b, sw) = true) {k : aK} {z : aM} {ls : List (Option aV)} {st : List aV} {K : aK → aM → Nat → List (Option aV) → List aV → Prop} (h : stp l g f Q X pc (.lconst i9, n, t, a, b, sw) k z ls st K) (hK : ∀ k z pc ls st, K k z pc ls st → aBs l g f Q X p e R s m args below meth c k z pc ls st) : aBs l g f Q X p e R s m args below meth c k z pc ls st := by
  obtain ⟨⟨hx, hst, hb, hml, hown, hlk, hrt⟩, ⟨hKN, hbs, hold⟩, ⟨hex, hnm, hrk, hho, hhc⟩, hr1, hr2, hr3, hr4, hr5⟩ := hF
  obtain ⟨hd, rfl, h2⟩ := aOk_d hI (by first | decide | (intro q; cases q))
  have key : ∀ w : Int, Int64.ofNat (i9 : Nat) = lZ w → K k z (pc + 1) ls (.inr (.inl w) :: st) → aBs l g f Q X p e R s m args below meth c k z pc ls st := by
    intro w hw h9 hs hl hbd hlen H locs la hR hS hL
    refine lv_lconst hx hb hd hw ?_
    exact hK _ _ _ _ _ h9 (aLv_c (w := .inr (.inl w)) trivial hs) hl hbd hlen H locs la hR hS hL
  match i9, h with
  | 0, h => exact key 0 rfl h
  | 1, h => exact key 1 rfl h

theorem sk_fconst {l : Launch} {g : aG} {f : aFr} {y o : Nat} {Q : Option aV → aSt → aM → Prop} {X : Nat → aSt → aM → Prop} {p : Program} {e : Env} {R : Room} {s : State} {m : MethodId} {args : Array Value} {below : List Frame} {meth : Method} {c : Code} (hF : aFrm l g f y o p e R s m args below meth c) {pc n t a b : Nat} {sw : List (Int × Nat)} {i9 : Fin 3} (hI : aOk y o (aMt y).2.1 pc (.fconst i9, n, t, a, b, sw) = true) {k : aK} {z : aM} {ls : List (Option aV)} {st : List aV} {K : aK → aM → Nat → List (Option aV) → List aV → Prop} (h : stp l g f Q X pc (.fconst i9, n, t, a, b, sw) k z ls st K) (hK : ∀ k z pc ls st, K k z pc ls st → aBs l g f Q X p e R s m args below meth c k z pc ls st) : aBs l g f Q X p e R s m args below meth c k z pc ls st := by
  obtain ⟨⟨hx, hst, hb, hml, hown, hlk, hrt⟩, ⟨hKN, hbs, hold⟩, ⟨hex, hnm, hrk, hho, hhc⟩, hr1, hr2, hr3, hr4, hr5⟩ := hF
  obtain ⟨hd, rfl, h2⟩ := aOk_d hI (by first | decide | (intro q; cases q))
  match i9, hd, h with
  | 0, hd, h =>
    have h9 : K k z (pc + 1) ls (.inr (.inr (.inr (.float FP.fconst0))) :: st) := h
    intro hs hl hbd hlen H locs la hR hS hL
    refine lv_fconst0 hx hb hd ?_
    exact hK _ _ _ _ _ h9 (aLv_c (w := .inr (.inr (.inr (.float FP.fconst0)))) trivial hs) hl hbd hlen H locs la hR hS hL
  | 1, hd, h => exact False.elim h
  | 2, hd, h => exact False.elim h

theorem sk_dconst {l : Launch} {g : aG} {f : aFr} {y o : Nat} {Q : Option aV → aSt → aM → Prop} {X : Nat → aSt → aM → Prop} {p : Program} {e : Env} {R : Room} {s : State} {m : MethodId} {args : Array Value} {below : List Frame} {meth : Method} {c : Code} (hF : aFrm l g f y o p e R s m args below meth c) {pc n t a b : Nat} {sw : List (Int × Nat)} {i9 : Fin 2} (hI : aOk y o (aMt y).2.1 pc (.dconst i9, n, t, a, b, sw) = true) {k : aK} {z : aM} {ls : List (Option aV)} {st : List aV} {K : aK → aM → Nat → List (Option aV) → List aV → Prop} (h : stp l g f Q X pc (.dconst i9, n, t, a, b, sw) k z ls st K) (hK : ∀ k z pc ls st, K k z pc ls st → aBs l g f Q X p e R s m args below meth c k z pc ls st) : aBs l g f Q X p e R s m args below meth c k z pc ls st := by
  obtain ⟨⟨hx, hst, hb, hml, hown, hlk, hrt⟩, ⟨hKN, hbs, hold⟩, ⟨hex, hnm, hrk, hho, hhc⟩, hr1, hr2, hr3, hr4, hr5⟩ := hF
  obtain ⟨hd, rfl, h2⟩ := aOk_d hI (by first | decide | (intro q; cases q))
  match i9, hd, h with
  | 0, hd, h =>
    have h9 : K k z (pc + 1) ls (.inr (.inr (.inr (.double FP.dconst0))) :: st) := h
    intro hs hl hbd hlen H locs la hR hS hL
    refine lv_dconst0 hx hb hd ?_
    exact hK _ _ _ _ _ h9 (aLv_c (w := .inr (.inr (.inr (.double FP.dconst0)))) trivial hs) hl hbd hlen H locs la hR hS hL
  | 1, hd, h => exact False.elim h

theorem sk_iinc {l : Launch} {g : aG} {f : aFr} {y o : Nat} {Q : Option aV → aSt → aM → Prop} {X : Nat → aSt → aM → Prop} {p : Program} {e : Env} {R : Room} {s : State} {m : MethodId} {args : Array Value} {below : List Frame} {meth : Method} {c : Code} (hF : aFrm l g f y o p e R s m args below meth c) {pc n t a b : Nat} {sw : List (Int × Nat)} {i9 : Nat} {c9 : Int} (hI : aOk y o (aMt y).2.1 pc (.iinc i9 c9, n, t, a, b, sw) = true) {k : aK} {z : aM} {ls : List (Option aV)} {st : List aV} {K : aK → aM → Nat → List (Option aV) → List aV → Prop} (h : stp l g f Q X pc (.iinc i9 c9, n, t, a, b, sw) k z ls st K) (hK : ∀ k z pc ls st, K k z pc ls st → aBs l g f Q X p e R s m args below meth c k z pc ls st) : aBs l g f Q X p e R s m args below meth c k z pc ls st := by
  obtain ⟨⟨hx, hst, hb, hml, hown, hlk, hrt⟩, ⟨hKN, hbs, hold⟩, ⟨hex, hnm, hrk, hho, hhc⟩, hr1, hr2, hr3, hr4, hr5⟩ := hF
  obtain ⟨hd, rfl, h2⟩ := aOk_d hI (by first | decide | (intro q; cases q))
  have h0 := h
  unfold stp at h0
  simp only at h0
  rcases hg : aGet ls i9 with _ | v
  · rw [hg] at h0; exact False.elim h0
  · rw [hg] at h0
    rcases v with v | v
    · simp only at h0
      rcases hq : aSet1 ls i9 (.inl (v + c9)) with _ | l1
      · rw [hq] at h0; exact False.elim h0
      · rw [hq] at h0
        have h9 := aFo_eq l1 h0
        intro hs hl hbd hlen H locs la hR hS hL
        have hsp := aSet1_s ls _ _ _ hq
        have hi := aGet_at _ _ _ hg
        have hm := aPr_in g ls 0 i9 _ hi
        rw [Nat.zero_add] at hm
        obtain ⟨j, hj⟩ := List.getElem?_of_mem hm
        refine lv_iinc (k := j) (x := iZ v) (v := iZ (v + c9)) hx hb hd hL.has hj (iZ_add v c9) (by have := hsp.2.1; rw [hlen] at this; exact this) rfl (fun la2 hh => ?_)
        exact hK _ _ _ _ _ h9 hs (aLv_s1 (v := .inl (v + c9)) hl trivial hq) hbd (hsp.1.trans hlen) H locs la2 hR hS (aLs.set1 hq hh)
    · exact False.elim h0

theorem sk_ldc2_w {l : Launch} {g : aG} {f : aFr} {y o : Nat} {Q : Option aV → aSt → aM → Prop} {X : Nat → aSt → aM → Prop} {p : Program} {e : Env} {R : Room} {s : State} {m : MethodId} {args : Array Value} {below : List Frame} {meth : Method} {c : Code} (hF : aFrm l g f y o p e R s m args below meth c) {pc n t a b : Nat} {sw : List (Int × Nat)} {i9 : Nat} (hI : aOk y o (aMt y).2.1 pc (.ldc2_w i9, n, t, a, b, sw) = true) {k : aK} {z : aM} {ls : List (Option aV)} {st : List aV} {K : aK → aM → Nat → List (Option aV) → List aV → Prop} (h : stp l g f Q X pc (.ldc2_w i9, n, t, a, b, sw) k z ls st K) (hK : ∀ k z pc ls st, K k z pc ls st → aBs l g f Q X p e R s m args below meth c k z pc ls st) : aBs l g f Q X p e R s m args below meth c k z pc ls st := by
  obtain ⟨⟨hx, hst, hb, hml, hown, hlk, hrt⟩, ⟨hKN, hbs, hold⟩, ⟨hex, hnm, hrk, hho, hhc⟩, hr1, hr2, hr3, hr4, hr5⟩ := hF
  obtain ⟨hd, rfl, h2⟩ := aOk_d hI (by first | decide | (intro q; cases q))
  match sw, h, h2 with
  | [], h, h2 => exact False.elim h
  | (v, w9) :: sw, h, h2 =>
    have h9 : K k z (pc + 3) ls (.inr (.inl v) :: st) := h
    intro hs hl hbd hlen H locs la hR hS hL
    have hq := List.all_eq_true.mp aLcs_ok _ (of_decide_eq_true h2)
    simp only [aIn, Bool.and_eq_true, decide_eq_true_eq] at hq
    have hw := hKN.1 _ hq.1 hq.2
    refine lv_ldc2 (own := aRn o) (v := lZ v) hx hb hown (va_tabs rfl rfl hw) hd ?_
    exact hK _ _ _ _ _ h9 (aLv_c (w := .inr (.inl v)) trivial hs) hl hbd hlen H locs la hR hS hL

theorem sk_ldc {l : Launch} {g : aG} {f : aFr} {y o : Nat} {Q : Option aV → aSt → aM → Prop} {X : Nat → aSt → aM → Prop} {p : Program} {e : Env} {R : Room} {s : State} {m : MethodId} {args : Array Value} {below : List Frame} {meth : Method} {c : Code} (hF : aFrm l g f y o p e R s m args below meth c) {pc n t a b : Nat} {sw : List (Int × Nat)} {i9 : Nat} (hI : aOk y o (aMt y).2.1 pc (.ldc i9, n, t, a, b, sw) = true) {k : aK} {z : aM} {ls : List (Option aV)} {st : List aV} {K : aK → aM → Nat → List (Option aV) → List aV → Prop} (h : stp l g f Q X pc (.ldc i9, n, t, a, b, sw) k z ls st K) (hK : ∀ k z pc ls st, K k z pc ls st → aBs l g f Q X p e R s m args below meth c k z pc ls st) : aBs l g f Q X p e R s m args below meth c k z pc ls st := by
  obtain ⟨⟨hx, hst, hb, hml, hown, hlk, hrt⟩, ⟨hKN, hbs, hold⟩, ⟨hex, hnm, hrk, hho, hhc⟩, hr1, hr2, hr3, hr4, hr5⟩ := hF
  obtain ⟨hd, rfl, h2⟩ := aOk_d hI (by first | decide | (intro q; cases q))
  match sw, h, h2 with
  | [], h, h2 => exact False.elim h
  | (v, w9) :: sw, h, h2 =>
    have h9 : K k z (pc + 2) ls (.inr (.inr (.inl (30, v, 0))) :: st) := h
    intro hs hl hbd hlen H locs la hR hS hL
    simp only [aOk2, Bool.and_eq_true, decide_eq_true_eq] at h2
    obtain ⟨ho, h3, h4, h5⟩ := h2
    rcases hq : aPts[v.toNat]? with _ | q
    · rw [hq] at h3; cases h3
    · rw [hq] at h3
      have h6 : q.1 = i9 := Option.some.inj h3
      have hr := hKN.2.2.2.2.2.1 _ _ hq
      rw [h6] at hr
      have hown' : s.vm.findClass RX3 = some m.cls := by rw [ho] at hown; exact hown
      refine va_ldcS hx hb hown' hr hd ?_
      exact hK _ _ _ _ _ h9 (aLv_c (w := .inr (.inr (.inl (30, v, 0)))) (Or.inr (Or.inl ⟨rfl, by show v.toNat < 9; omega⟩)) hs) hl hbd hlen H locs la hR hS hL
end
section
/-! THE JVM KEEPS TO THE STEP: fields and arrays -/
theorem aKN.w {g : aG} {U : State} (h : aKN g U) {w : Cond} (hm : w ∈ lw_tbl) (ha : aWarm w = true) (args : Array Value) : w.before args U = true := by
  have hb := h.1 w hm ha
  by_cases hg : goodWord w = true
  · exact word_at (State.WarmedH.refl U) (good_of_word hg) hb
  · have ho : w.onTables = true := by
      unfold aWarm at ha
      rw [Bool.or_eq_true] at ha
      rcases ha with ha | ha
      · exact absurd ha hg
      · split at ha
        · rfl
        · rfl
        · rfl
        · cases ha
    exact va_tabs ho rfl hb
theorem aCl_at : ∀ ci : Nat, ci < 8 → aCl[ci]? = some (aRn ci, aTX ci, (aFl ci).length)
  | 0, _ => rfl
  | 1, _ => rfl
  | 2, _ => rfl
  | 3, _ => rfl
  | 4, _ => rfl
  | 5, _ => rfl
  | 6, _ => rfl
  | 7, _ => rfl
  | n + 8, h => absurd h (by omega)
theorem aLays {l : List Cond} {ps : List Nat} (h1 : l = ps.filterMap (fun i => lw_tbl[i]?)) (h2 : l.all aWarm = true) : ∀ w ∈ l, w ∈ lw_tbl ∧ aWarm w = true := by
  intro w hw
  refine ⟨?_, List.all_eq_true.mp h2 w hw⟩
  rw [h1] at hw
  obtain ⟨i, -, hi⟩ := List.mem_filterMap.mp hw
  exact List.mem_of_getElem? hi
theorem aUws : ∀ ci : Nat, ci < 8 → ∀ w ∈ u_ws (aRn ci) (aTX ci) (aFl ci).length, w ∈ lw_tbl ∧ aWarm w = true
  | 0, _ => aLays aInX0_at aInX0_ok
  | 1, _ => aLays aInX1_at aInX1_ok
  | 2, _ => aLays aInX2_at aInX2_ok
  | 3, _ => aLays aInX3_at aInX3_ok
  | 4, _ => aLays aInX4_at aInX4_ok
  | 5, _ => aLays aInX5_at aInX5_ok
  | 6, _ => aLays aInX6_at aInX6_ok
  | 7, _ => aLays aInX7_at aInX7_ok
  | n + 8, h => absurd h (by omega)
theorem aTy_ok : ∀ ci : Nat, ci < 8 → ∀ k, k < (aFl ci).length → parseFieldDescriptor (aTX ci k).2.2.1 = some (aTy ci k)
  | 0, _ => tyX0_ok
  | 1, _ => tyX1_ok
  | 2, _ => tyX2_ok
  | 3, _ => tyX3_ok
  | 4, _ => tyX4_ok
  | 5, _ => tyX5_ok
  | 6, _ => tyX6_ok
  | 7, _ => tyX7_ok
  | n + 8, h => absurd h (by omega)
theorem aNm_ok : ∀ ci : Nat, ci < 8 → ∀ a, a < (aFl ci).length → ∀ b, b < (aFl ci).length → a ≠ b → (aTX ci a).2.1 ≠ (aTX ci b).2.1
  | 0, _ => nmX0
  | 1, _ => nmX1
  | 2, _ => nmX2
  | 3, _ => nmX3
  | 4, _ => nmX4
  | 5, _ => nmX5
  | 6, _ => nmX6
  | 7, _ => nmX7
  | n + 8, h => absurd h (by omega)
theorem aPf_w {q : Nat × Nat × Nat × Nat} (h : q ∈ aPfs) : aPfW q ∈ lw_tbl ∧ aWarm (aPfW q) = true ∧ q.2.2.2 < (aFl q.2.2.1).length ∧ q.2.2.1 < 8 := by
  have h1 := List.all_eq_true.mp aPfs_ok q h
  simp only [Bool.and_eq_true, decide_eq_true_eq] at h1
  refine ⟨?_, h1.1.1, h1.1.2, h1.2⟩
  have h2 : aPfW q ∈ aPfs.map aPfW := List.mem_map_of_mem h
  rw [aPfs_at] at h2
  obtain ⟨i, -, hi⟩ := List.mem_filterMap.mp h2
  exact List.mem_of_getElem? hi
theorem aLp_in {s : aSt} {p : aP} (h : aLp s p) (hk : aSh p ≠ .inr (9, 0)) : aAll[aOff p]? = some p ∧ aOff p < aCnt s := by
  rcases h with h | h | h
  · exact h
  · exact absurd (by obtain ⟨a, b, c⟩ := p; cases h.1; rfl) hk
  · exact absurd (by obtain ⟨a, b, c⟩ := p; cases h; rfl) hk
theorem aTy_k : ∀ ci : Nat, ci < 8 → ∀ k : Nat, k < 21 → ((aFl ci)[k]? = some 0 → aTy ci k = .int) ∧ ((aFl ci)[k]? = some 1 → aTy ci k = .boolean) ∧ ((aFl ci)[k]? = some 2 → refKind (aTy ci k) = true) := by decide +kernel
theorem aFl_21 : ∀ ci : Nat, ci < 8 → (aFl ci).length ≤ 21 := by decide +kernel
def aRfb (p : aP) (k : Nat) : Bool := match aSh p with
  | .inl ci => decide ((aFl ci)[k]? = some 2 → aAll[aOff (aRf p (k : Int))]? = some (aRf p (k : Int)))
  | .inr (ty, m) => decide ((ty = 2 ∨ ty = 3) → (k : Int) < m → aAll[aOff (aRf p (k : Int))]? = some (aRf p (k : Int)))
theorem aRf_all : ∀ i : Nat, i < 320 → ∀ k : Nat, k < 21 → aRfb (aAll.getD i (0, 0, 0)) k = true := by decide +kernel
def aShb (p : aP) : Bool := match aSh p with
  | .inl ci => decide (ci < 8)
  | .inr (ty, m) => decide (ty < 6 ∧ 0 ≤ m ∧ m ≤ 2000 ∧ ((ty = 2 ∨ ty = 3) → m ≤ 8))
theorem aSh_all : ∀ i : Nat, i < 320 → aShb (aAll.getD i (0, 0, 0)) = true := by decide +kernel
theorem aSh_o {p : aP} {ci : Nat} (hp : aAll[aOff p]? = some p) (hs : aSh p = .inl ci) : ci < 8 := by
  have h := aSh_all _ (aOkp hp).1
  rw [(aOkp hp).2.1] at h
  unfold aShb at h
  rw [hs] at h
  exact of_decide_eq_true h
theorem aSh_r {p : aP} {ty : Nat} {m : Int} (hp : aAll[aOff p]? = some p) (hs : aSh p = .inr (ty, m)) : ty < 6 ∧ 0 ≤ m ∧ m ≤ 2000 ∧ ((ty = 2 ∨ ty = 3) → m ≤ 8) := by
  have h := aSh_all _ (aOkp hp).1
  rw [(aOkp hp).2.1] at h
  unfold aShb at h
  rw [hs] at h
  exact of_decide_eq_true h
theorem aRef_lv {s : aSt} {p : aP} {ci b : Nat} (hp : aAll[aOff p]? = some p) (hs : aSh p = .inl ci) (hb : (aFl ci)[b]? = some 2) (hc : s = none ∨ aOff (aRf p (b : Int)) < aCnt s) : aLp s (aRf p (b : Int)) := by
  obtain ⟨h1, h2, h3⟩ := aOkp hp
  have hb21 : b < 21 := Nat.lt_of_lt_of_le (List.getElem?_eq_some_iff.mp hb).1 (aFl_21 ci (aSh_o hp hs))
  have h4 := aRf_all _ h1 b hb21
  rw [h2] at h4
  unfold aRfb at h4
  rw [hs] at h4
  have h5 := of_decide_eq_true h4 hb
  rcases hc with rfl | hc
  · exact Or.inl ⟨h5, (aOkp h5).1⟩
  · exact Or.inl ⟨h5, hc⟩
theorem aRefA_lv {s : aSt} {p : aP} {ty : Nat} {m i : Int} (hp : aAll[aOff p]? = some p) (hs : aSh p = .inr (ty, m)) (ht : ty = 2 ∨ ty = 3) (h0 : 0 ≤ i) (hi : i < m) (hc : s = none ∨ aOff (aRf p i) < aCnt s) : aLp s (aRf p i) := by
  obtain ⟨h1, h2, h3⟩ := aOkp hp
  have hci := aSh_r hp hs
  obtain ⟨b, rfl⟩ := Int.eq_ofNat_of_zero_le h0
  have h4 := aRf_all _ h1 b (by have := hci.2.2.2 ht; omega)
  rw [h2] at h4
  unfold aRfb at h4
  rw [hs] at h4
  have h5 := of_decide_eq_true h4 ht hi
  rcases hc with rfl | hc
  · exact Or.inl ⟨h5, (aOkp h5).1⟩
  · exact Or.inl ⟨h5, hc⟩
theorem aAd_A {g : aG} {p : aP} (hp : aAll[aOff p]? = some p) : aA g (aAd g p) := by
  show aBase g ≤ aAd g p
  rw [aAd_of (aOkp hp).2.2]
  omega
theorem aRep_cnt {g : aG} {s : aSt} {z : aM} {H : Heap} (h : aRep g s z H) : aCnt s ≤ 320 := by
  rcases s with _ | ⟨n, r⟩
  · exact Nat.le_refl _
  · exact h.2.2.1.2
/-- memory and heap after one thing has changed -/
theorem aRep.put {g : aG} {s s' : aSt} {z z' : aM} {H H1 : Heap} {p : aP} (hR : aRep g s z H) (hp : aAll[aOff p]? = some p) (hc : aOff p < aCnt s) (hs : s' = s ∨ ∃ n r r', s = some (n, r) ∧ s' = some (n, r'))
    (hsz : H1.size = H.size) (hq : ∀ q : Nat, q ≠ aAd g p → H1[q]? = H[q]?) (he : va_at g.1 aCl (aAd g p, aCe g s' z' p) H1) (ho : ∀ q : aP, q ≠ p → aCe g s' z' q = aCe g s z q) (h31 : ∀ j, z' (31, 0, 0) j = z (31, 0, 0) j) : aRep g s' z' H1 := by
  have hcs : aCnt s' = aCnt s := by
    rcases hs with rfl | ⟨n, r, r', rfl, rfl⟩
    · rfl
    · rfl
  obtain ⟨h1, h2, h3, h4, h5⟩ := id hR
  refine ⟨?_, fun q hq2 => ?_, ?_, by rw [hsz]; exact h4, by obtain ⟨scr, a1, a2, a3⟩ := h5; exact ⟨scr, a1, a2, fun j hj => by rw [h31]; exact a3 j hj⟩⟩
  · rw [← aWs_set (z' := z') (s' := s') hp hc (aRep_cnt hR) hcs rfl ho]
    exact h1.set aWs_D (aWs_at hp hc) he hq
  · rw [hq q (fun e => ?_), h2 q hq2]
    have := aAd_A (g := g) hp
    rw [← e] at this
    exact absurd this (Nat.not_le.mpr hq2)
  · rcases hs with rfl | ⟨n, r, r', rfl, rfl⟩
    · rcases s' with _ | ⟨n, r⟩
      · trivial
      · exact ⟨by rw [hsz]; exact h3.1, h3.2⟩
    · exact ⟨by rw [hsz]; exact h3.1, h3.2⟩
end
section
/-! THE JVM KEEPS TO THE STEP: fields and arrays, one instruction each (heads printed by wip/whole/sound2.py) -/
theorem aCe_o {g : aG} {s : aSt} {z : aM} {p : aP} {ci : Nat} (h : aSh p = .inl ci) : aCe g s z p = .inr (ci, (List.range (aFl ci).length).map (aFv g s z p ci)) := by unfold aCe; rw [h]
theorem aHts {g : aG} {s : State} {args : Array Value} (hKN : aKN g s) {ci : Nat} (hc : ci < 8) : ∀ w ∈ u_ws (aRn ci) (aTX ci) (aFl ci).length, w.before args s = true := fun w hw => hKN.w (aUws ci hc w hw).1 (aUws ci hc w hw).2 args
theorem sk_getfield {l : Launch} {g : aG} {f : aFr} {y o : Nat} {Q : Option aV → aSt → aM → Prop} {X : Nat → aSt → aM → Prop} {p : Program} {e : Env} {R : Room} {s : State} {m : MethodId} {args : Array Value} {below : List Frame} {meth : Method} {c : Code} (hF : aFrm l g f y o p e R s m args below meth c) {pc n t a b : Nat} {sw : List (Int × Nat)} {i8 : Nat} (hI : aOk y o (aMt y).2.1 pc (.getfield i8, n, t, a, b, sw) = true) {k : aK} {z : aM} {ls : List (Option aV)} {st : List aV} {K : aK → aM → Nat → List (Option aV) → List aV → Prop} (h : stp l g f Q X pc (.getfield i8, n, t, a, b, sw) k z ls st K) (hK : ∀ k z pc ls st, K k z pc ls st → aBs l g f Q X p e R s m args below meth c k z pc ls st) : aBs l g f Q X p e R s m args below meth c k z pc ls st := by
  obtain ⟨⟨hx, hst, hb, hml, hown, hlk, hrt⟩, ⟨hKN, hbs, hold⟩, ⟨hex, hnm, hrk, hho, hhc⟩, hr1, hr2, hr3, hr4, hr5⟩ := hF
  obtain ⟨hd, rfl, h2⟩ := aOk_d hI (by first | decide | (intro q; cases q))
  rcases st with _ | ⟨w, st⟩
  · exact False.elim h
  · rcases w with w | w | q1 | w
    · exact False.elim h
    · exact False.elim h
    · rcases sw with _ | ⟨⟨i9, w9⟩, sw⟩
      · exact False.elim h
      · have h0 := h
        unfold stp at h0
        simp only at h0
        rcases hsh : aSh q1 with ci | sh
        · rw [hsh] at h0
          simp only at h0
          rcases hbq : Nat.beq ci a with _ | _
          · rw [hbq] at h0; exact False.elim h0
          · rw [hbq] at h0
            simp only at h0
            obtain rfl : ci = a := Nat.eq_of_beq_eq_true hbq
            simp only [aOk2, Bool.and_eq_true, decide_eq_true_eq] at h2
            obtain ⟨hpf, rfl⟩ := h2
            obtain ⟨hw1, hw2, hbl, hc8⟩ : aPfW (o, i8, ci, b) ∈ lw_tbl ∧ aWarm (aPfW (o, i8, ci, b)) = true ∧ b < (aFl ci).length ∧ ci < 8 := aPf_w hpf
            intro hs hl hbd hlen H locs la hR hS hL
            obtain ⟨hp, hc⟩ := aLp_in (hs _ List.mem_cons_self) (by rw [hsh]; intro q; cases q)
            have hat := aWs_at (g := g) (z := z) hp hc
            rw [aCe_o hsh] at hat
            refine W.eq (g2 := F0 m pc la (.ref (aAd g q1) :: st.map (aC g))) rfl ?_
            refine va_get (D := g.1) (ci := ci) (v := aFv g k.1 z q1 ci b) (C := aRn ci) (T := aTX ci) (N := (aFl ci).length) (Ts := u_ws (aRn ci) (aTX ci) (aFl ci).length) hx hb (aHts hKN hc8) (fun w hw => hw) hown hKN.2.1 hR.1 (aOff q1) hat (aCl_at ci hc8) b hbl (hKN.w hw1 hw2 args) (fun _ h => h) (aFs_at hbl) hd ?_
            have key : ∀ w : aV, aLv k.1 w → aFv g k.1 z q1 ci b = aC g w → K k z (pc + 3) ls (w :: st) → W p l e R s m args below meth c H locs k.2.1 k.2.2 (vx_MQ below (aQ g Q) (aX g X) args s f.2.1 f.2.2.1 (aA g)) (F0 m (pc + 3) la (aFv g k.1 z q1 ci b :: st.map (aC g))) := by
              intro w hw he h9
              rw [he]
              exact hK _ _ _ _ _ h9 (aLv_c hw (aLv_tl hs)) hl hbd hlen H locs la hR hS hL
            by_cases hfk : (aFl ci)[b]? = some 2
            · rw [hfk] at h0
              simp only at h0
              have hfv : ∀ s z, aFv g s z q1 ci b = va_rf (aRv g s q1 (b : Int)) := fun s z => by unfold aFv; rw [if_pos hfk]
              obtain ⟨sta, u9, v9⟩ := k
              rcases sta with _ | ⟨cnt, r⟩
              · have h00 : (match aRf q1 (b : Int) with | (x, y, w) => K (none, u9, v9) z (pc + 3) ls (.inr (.inr (.inl (x, y, w))) :: st)) := h0
                exact key (.inr (.inr (.inl (aRf q1 (b : Int))))) (aRef_lv hp hsh hfk (Or.inl rfl)) (by rw [hfv]; rfl) h00
              · obtain ⟨⟨ha1, ha2⟩, h00⟩ := h0
                exact key (.inr (.inr (.inl (aRf q1 (b : Int))))) (aRef_lv (s := some (cnt, r)) hp hsh hfk (Or.inr ha2)) (by rw [hfv, aRv_eq (s := some (cnt, r)) ha1]; rfl) h00
            · have hfv : aFv g k.1 z q1 ci b = .int (iZ (z q1 (b : Int))) := by unfold aFv; rw [if_neg hfk]
              refine key (.inl (z q1 (b : Int))) trivial hfv ?_
              split at h0
              · next he => exact absurd he hfk
              · exact h0
              · exact False.elim h0
        · rw [hsh] at h0; exact False.elim h0
    · exact False.elim h

/-- a field of an object is written: what the heap is then -/
theorem aPut {l : Launch} {g : aG} {p : Program} {e : Env} {R : Room} {s : State} {m : MethodId} {args : Array Value} {below : List Frame} {meth : Method} {c : Code} {cc : ByteArray} {o pc i8 ci b u v : Nat} {H : Heap} {locs : List Loc} {la : Array Slot} {rest : List Value} {Z : State → Prop} {sta sta' : aSt} {z z' : aM} {q1 : aP} {w : Value}
    (hx : p.tables.exec = Jvm.exec) (hb : c.code = cc) (hown : s.vm.findClass (aRn o) = some m.cls) (hKN : aKN g s) (hpf : (o, i8, ci, b) ∈ aPfs) (hfin : (aTX ci b).2.2.2 = false ∨ ((aTX ci b).2.2.2 = true ∧ meth.name = "<init>" ∧ (aTX ci b).1 = aRn o))
    (hn : narrow (aTy ci b) w = w) (hfit : fits (aTy ci b) w = true) (hp : aAll[aOff q1]? = some q1) (hc : aOff q1 < aCnt sta) (hsh : aSh q1 = .inl ci) (hd : decode cc pc = .ok (.putfield i8, 3))
    (hR : aRep g sta z H) (hS : va_S (aA g) s.heap H locs) (hs' : sta' = sta ∨ ∃ n r r', sta = some (n, r) ∧ sta' = some (n, r')) (hv : w = aFv g sta' z' q1 ci b) (ho1 : ∀ j : Nat, j ≠ b → aFv g sta' z' q1 ci j = aFv g sta z q1 ci j) (ho2 : ∀ q : aP, q ≠ q1 → aCe g sta' z' q = aCe g sta z q) (h31 : ∀ j, z' (31, 0, 0) j = z (31, 0, 0) j)
    (kk : ∀ (H1 : Heap) (locs1 : List Loc), aRep g sta' z' H1 → va_S (aA g) s.heap H1 locs1 → W p l e R s m args below meth c H1 locs1 u v Z (F0 m (pc + 3) la rest)) :
    W p l e R s m args below meth c H locs u v Z (F0 m pc la (w :: .ref (aAd g q1) :: rest)) := by
  obtain ⟨hw1, hw2, hbl, hc8⟩ : aPfW (o, i8, ci, b) ∈ lw_tbl ∧ aWarm (aPfW (o, i8, ci, b)) = true ∧ b < (aFl ci).length ∧ ci < 8 := aPf_w hpf
  have hlink : (Cond.fieldLink (aRn o) i8 (aTX ci b).1 (aTX ci b).2.1 (aTX ci b).2.2.1).before args s = true := hKN.w hw1 hw2 args
  have hts := aHts (args := args) hKN hc8
  have hat := aWs_at (g := g) (z := z) hp hc
  rw [aCe_o hsh] at hat
  obtain ⟨r, h1, cell, q1', q2, q3, q4⟩ := hR.1 _ _ hat
  have hr : r = (aRn ci, aTX ci, (aFl ci).length) := Option.some.inj (h1.symm.trans (aCl_at ci hc8))
  subst hr
  obtain ⟨hSl, hfc, kC, hkC, hkind⟩ := hKN.2.1.1 ci _ (aCl_at ci hc8)
  obtain ⟨cf, kf, fi, fd, hi, hsl⟩ := hSl b hbl
  have hlay := u_lays hts (fun w hw => hw) hbl
  have hst := (u_facts hfc hkC hlay hi).1
  have hap := va_apart (own := aRn o) hts (fun w hw => hw) (aTy ci) (aTy_ok ci hc8) (aNm_ok ci hc8) hKN.2.1 (aCl_at ci hc8)
  have fin : ∀ H' : Heap, H'[aAd g q1]? = some (cell.setSlot fd.slot w) → H'.size = H.size → (∀ q, q ≠ aAd g q1 → H'[q]? = H[q]?) → W p l e R s m args below meth c H' (locs ++ [⟨aAd g q1, fd.slot⟩]) u v Z (F0 m (pc + 3) la rest) := by
    intro H' e1 e2 e3
    rw [hsl] at e1
    refine kk H' _ (hR.put hp hc hs' e2 e3 ?_ ho2 h31) (hS.put e2 e3 (aAd_A hp))
    rw [aCe_o hsh]
    refine ⟨_, aCl_at ci hc8, ⟨_, e1, q2, q3, fun j hj => ?_⟩⟩
    have h9 := t_set q4 hap hbl w j hj
    rw [h9]
    congr 1
    have h8 := aFs_set (g := g) (s := sta) (s' := sta') (z := z) (z' := z') (p := q1) (ci := ci) hv ho1
    show updV (vp_V _) b w j = vp_V _ j
    rw [← h8]
    exact vp_updV_set (by simpa using hbl) w j
  by_cases hf : (aTX ci b).2.2.2 = true
  · have hlF : (Cond.laysFinal (aRn ci) (aTX ci b).1 (aTX ci b).2.1 (aTX ci b).2.2.1).before args s = true := by
      have := hts _ (u_in_lay hbl)
      unfold u_lay at this
      rwa [if_pos hf] at this
    obtain ⟨hinit, hdecl⟩ : meth.name = "<init>" ∧ (aTX ci b).1 = aRn o := by
      rcases hfin with h9 | h9
      · rw [hf] at h9; cases h9
      · exact h9.2
    have hcf : m.cls = cf := by
      obtain ⟨_, _, c', _, _, _, -, -, hf', -, -, -, hown2, -⟩ := Cond.laysFinal_spec hlF
      have e1 : c' = cf := by have := hi.symm.trans hf'; simp at this; exact this.1.symm
      rw [hdecl] at hown2
      rw [← e1]
      exact Option.some.inj (hown.symm.trans hown2)
    have h6 := u_fits hfc hkC hkind (Or.inr hlF) hi (aTy_ok ci hc8 b hbl) hn hfit
    exact W.putFinK hx hb hown hlink hi hst hcf hinit (by rw [q2]; exact h6) q1' q3 (by rw [hsl]; exact k2_hasslot (q4 b hbl)) rfl rfl hd fin
  · have hlN : (Cond.lays (aRn ci) (aTX ci b).1 (aTX ci b).2.1 (aTX ci b).2.2.1).before args s = true := by
      have := hts _ (u_in_lay hbl)
      unfold u_lay at this
      rwa [if_neg hf] at this
    have h6 := u_store hfc hkC hkind hlN hi (aTy_ok ci hc8 b hbl) hn hfit
    exact W.putK hx hb (f := fd) ⟨hown, hlink, ⟨_, _, _, hi⟩, hst⟩ (by rw [q2]; exact h6) q1' q3 (by rw [hsl]; exact k2_hasslot (q4 b hbl)) rfl rfl hd fin
theorem aFv_ne {g : aG} {s : aSt} {z : aM} {p : aP} {ci b j : Nat} {x : Int} (h : j ≠ b) : aFv g s (aWr z p (b : Int) x) p ci j = aFv g s z p ci j := by
  unfold aFv
  rw [aWr_nk (by omega)]
theorem aFv_at {g : aG} {s : aSt} {z : aM} {p : aP} {ci b : Nat} {x : Int} (h : (aFl ci)[b]? ≠ some 2) : aFv g s (aWr z p (b : Int) x) p ci b = .int (iZ x) := by
  unfold aFv
  rw [if_neg h, aWr_at]
theorem aLk_31 {p : aP} (hp : aAll[aOff p]? = some p) : ((31, 0, 0) : aP) ≠ p := fun h => by
  have := (aOkp hp).2.2
  rw [← h] at this
  exact absurd this (by decide)
theorem aCe_bt {g : aG} {n : Nat} {r : aP → Int → Bool} {z : aM} {p q : aP} {i : Int} (h : q ≠ p) : aCe g (some (n, aBt r p i)) z q = aCe g (some (n, r)) z q := by
  have e : ∀ j, aBt r p i q j = r q j := fun j => by unfold aBt; rw [if_neg (fun w => h w.1)]
  unfold aCe aFv aAr aRv
  simp only [e]
theorem aCl_st {s : aSt} {st : List aV} {s' : aSt} (h : aCnt s' = aCnt s) (hs : ∀ v ∈ st, aLv s v) : ∀ v ∈ st, aLv s' v := by
  intro v hv
  have h1 := hs v hv
  rcases v with v | v | v | v
  · trivial
  · trivial
  · rcases h1 with h1 | h1
    · exact Or.inl ⟨h1.1, by rw [h]; exact h1.2⟩
    · exact Or.inr h1
  · trivial
theorem aCl_ls {s : aSt} {ls : List (Option aV)} {s' : aSt} (h : aCnt s' = aCnt s) (hs : ∀ v, some v ∈ ls → aLv s v) : ∀ v, some v ∈ ls → aLv s' v := by
  intro v hv
  have h1 := hs v hv
  rcases v with v | v | v | v
  · trivial
  · trivial
  · rcases h1 with h1 | h1
    · exact Or.inl ⟨h1.1, by rw [h]; exact h1.2⟩
    · exact Or.inr h1
  · trivial
theorem sk_putfield {l : Launch} {g : aG} {f : aFr} {y o : Nat} {Q : Option aV → aSt → aM → Prop} {X : Nat → aSt → aM → Prop} {p : Program} {e : Env} {R : Room} {s : State} {m : MethodId} {args : Array Value} {below : List Frame} {meth : Method} {c : Code} (hF : aFrm l g f y o p e R s m args below meth c) {pc n t a b : Nat} {sw : List (Int × Nat)} {i8 : Nat} (hI : aOk y o (aMt y).2.1 pc (.putfield i8, n, t, a, b, sw) = true) {k : aK} {z : aM} {ls : List (Option aV)} {st : List aV} {K : aK → aM → Nat → List (Option aV) → List aV → Prop} (h : stp l g f Q X pc (.putfield i8, n, t, a, b, sw) k z ls st K) (hK : ∀ k z pc ls st, K k z pc ls st → aBs l g f Q X p e R s m args below meth c k z pc ls st) : aBs l g f Q X p e R s m args below meth c k z pc ls st := by
  obtain ⟨⟨hx, hst, hb, hml, hown, hlk, hrt⟩, ⟨hKN, hbs, hold⟩, ⟨hex, hnm, hrk, hho, hhc⟩, hr1, hr2, hr3, hr4, hr5⟩ := hF
  obtain ⟨hd, rfl, h2⟩ := aOk_d hI (by first | decide | (intro q; cases q))
  rcases st with _ | ⟨vv, st⟩
  · exact False.elim h
  rcases st with _ | ⟨w, st⟩
  · exact False.elim h
  rcases w with w | w | q1 | w
  · exact False.elim h
  · exact False.elim h
  · rcases sw with _ | ⟨⟨i9, w9⟩, sw⟩
    · exact False.elim h
    have h0 := h
    unfold stp at h0
    simp only at h0
    rcases hsh : aSh q1 with ci | sh
    · rw [hsh] at h0
      simp only at h0
      rcases hbq : Nat.beq ci a with _ | _
      · rw [hbq] at h0; exact False.elim h0
      rw [hbq] at h0
      simp only at h0
      obtain rfl : ci = a := Nat.eq_of_beq_eq_true hbq
      simp only [aOk2, Bool.and_eq_true, decide_eq_true_eq] at h2
      obtain ⟨hpf, rfl, h3⟩ := h2
      obtain ⟨hw1, hw2, hbl, hc8⟩ : aPfW (o, i8, ci, b) ∈ lw_tbl ∧ aWarm (aPfW (o, i8, ci, b)) = true ∧ b < (aFl ci).length ∧ ci < 8 := aPf_w hpf
      have hb21 : b < 21 := Nat.lt_of_lt_of_le hbl (aFl_21 ci hc8)
      obtain ⟨ht0, ht1, ht2⟩ := aTy_k ci hc8 b hb21
      have hfin : (aTX ci b).2.2.2 = false ∨ ((aTX ci b).2.2.2 = true ∧ meth.name = "<init>" ∧ (aTX ci b).1 = aRn o) := by
        by_cases h2k : (aFl ci)[b]? = some 2
        · rw [if_pos h2k] at h3
          simp only [Bool.and_eq_true, decide_eq_true_eq] at h3
          exact Or.inr ⟨h3.1, by rw [hnm]; exact h3.2.1, h3.2.2⟩
        · rw [if_neg h2k] at h3
          exact Or.inl (by simpa using h3)
      have ints : ∀ x : Int, vv = .inl x → (aFl ci)[b]? ≠ some 2 → narrow (aTy ci b) (.int (iZ x)) = .int (iZ x) → fits (aTy ci b) (.int (iZ x)) = true → K k (aWr z q1 (b : Int) x) (pc + 3) ls st → aBs l g f Q X p e R s m args below meth c k z pc ls (vv :: .inr (.inr (.inl q1)) :: st) := by
        intro x hvv hn2 hn hfit h9 hs hl hbd hlen H locs la hR hS hL
        subst hvv
        obtain ⟨hp, hc⟩ := aLp_in (hs (.inr (.inr (.inl q1))) (List.mem_cons_of_mem _ List.mem_cons_self)) (by rw [hsh]; intro q; cases q)
        refine W.eq (g2 := F0 m pc la (.int (iZ x) :: .ref (aAd g q1) :: st.map (aC g))) rfl ?_
        refine aPut (sta := k.1) (sta' := k.1) (z := z) (z' := aWr z q1 (b : Int) x) hx hb hown hKN hpf hfin hn hfit hp hc hsh hd hR hS (Or.inl rfl) (aFv_at hn2).symm (fun j hj => aFv_ne hj) (fun q hq => aCe_ne (fun j => aWr_ne hq)) (fun j => aWr_ne (aLk_31 hp)) (fun H1 locs1 hR1 hS1 => ?_)
        exact hK _ _ _ _ _ h9 (aLv_tl (aLv_tl hs)) hl hbd hlen H1 locs1 la hR1 hS1 hL
      split at h0
      · next x he =>
        exact ints x rfl (by rw [he]; intro q; cases q) (by rw [ht0 he]; rfl) (by rw [ht0 he]; rfl) h0
      · next x he =>
        obtain ⟨hx01, h9⟩ := h0
        refine ints x rfl (by rw [he]; intro q; cases q) ?_ ?_ h9
        · rw [ht1 he]
          rcases hx01 with rfl | rfl <;> rfl
        · rw [ht1 he]
          rcases hx01 with rfl | rfl <;> rfl
      · next q he =>
        obtain ⟨sta, u9, v9⟩ := k
        rcases sta with _ | ⟨cnt, r⟩
        · exact False.elim h0
        obtain ⟨rfl, h9⟩ := h0
        intro hs hl hbd hlen H locs la hR hS hL
        obtain ⟨hp, hc⟩ := aLp_in (hs (.inr (.inr (.inl q1))) (List.mem_cons_of_mem _ List.mem_cons_self)) (by rw [hsh]; intro q; cases q)
        refine W.eq (g2 := F0 m pc la (.ref (aAd g (aRf q1 (b : Int))) :: .ref (aAd g q1) :: st.map (aC g))) rfl ?_
        have hrk9 := ht2 he
        refine aPut (sta := some (cnt, r)) (sta' := some (cnt, aBt r q1 (b : Int))) (z := z) (z' := z) hx hb hown hKN hpf hfin ?_ ?_ hp hc hsh hd hR hS (Or.inr ⟨cnt, r, _, rfl, rfl⟩) ?_ (fun j hj => ?_) (fun q hq => aCe_bt hq) (fun j => rfl) (fun H1 locs1 hR1 hS1 => ?_)
        · revert hrk9; cases aTy ci b <;> intro hrk9 <;> first | rfl | cases hrk9
        · revert hrk9; cases aTy ci b <;> intro hrk9 <;> first | rfl | cases hrk9
        · unfold aFv
          rw [if_pos he, aRv_eq (s := some (cnt, aBt r q1 (b : Int))) (by unfold aBt; exact if_pos ⟨rfl, rfl⟩)]
          rfl
        · have e : aBt r q1 (b : Int) q1 (j : Int) = r q1 (j : Int) := by unfold aBt; rw [if_neg (fun w => hj (by omega))]
          unfold aFv aRv
          simp only [e]
        · exact hK _ _ _ _ _ h9 (aCl_st (s := some (cnt, r)) rfl (aLv_tl (aLv_tl hs))) (aCl_ls (s := some (cnt, r)) rfl hl) hbd hlen H1 locs1 la hR1 hS1 hL
      · exact False.elim h0
    · rw [hsh] at h0; exact False.elim h0
  · exact False.elim h
end
section
/-! THE JVM KEEPS TO THE STEP: arrays (heads printed by wip/whole/sound3.py) -/
def aAv (g : aG) (s : aSt) (z : aM) (p : aP) (ty : Nat) : Nat → Value := fun k => match ty with
  | 0 => .int (iZ (z p (k : Int)))
  | 1 => .int (iZ (z p (k : Int)))
  | 4 => .long (lZ (z p (k : Int)))
  | 5 => .double (UInt64.ofNat (z p (k : Int)).toNat)
  | _ => va_rf (aRv g s p (k : Int))
theorem aNc (x : Int) : narrow .char (.int (iZ x)) = .int (iZ (x % 65536)) := by
  rw [← iZ_i2c x]
  rfl
theorem aCe_a {g : aG} {s : aSt} {z : aM} {p : aP} {ty : Nat} {m : Int} (h : aSh p = .inr (ty, m)) : aCe g s z p = .inl (g.2.1 ty, (m.toNat, aAr g s z p ty)) := by unfold aCe; rw [h]
theorem aVp {g : aG} {D : va_G} {s : aSt} {z : aM} {p : aP} {ty : Nat} {m : Int} {q : Nat} {H : Heap} (h : aSh p = .inr (ty, m)) : va_at D aCl (q, aCe g s z p) H ↔ H[q]? = some (arrV (g.2.1 ty) m.toNat (aAv g s z p ty)) := by
  rw [aCe_a h]
  show H[q]? = some (vp_cell _ _) ↔ _
  have e : vp_cell (g.2.1 ty) (m.toNat, aAr g s z p ty) = arrV (g.2.1 ty) m.toNat (aAv g s z p ty) := by
    match ty with
    | 0 => rfl
    | 1 => rfl
    | 2 => rfl
    | 3 => rfl
    | 4 => rfl
    | 5 => rfl
    | n + 6 => rfl
  rw [e]
theorem aArr {g : aG} {s : aSt} {z : aM} {p : aP} {ty : Nat} {m : Int} {H : Heap} (hR : aRep g s z H) (hp : aAll[aOff p]? = some p) (hc : aOff p < aCnt s) (h : aSh p = .inr (ty, m)) : H[aAd g p]? = some (arrV (g.2.1 ty) m.toNat (aAv g s z p ty)) := (aVp h).mp (hR.1 _ _ (aWs_at hp hc))
theorem aSto {g : aG} {s s' : aSt} {z z' : aM} {p : aP} {ty : Nat} {m i : Int} {w : Value} {H H1 : Heap} (hR : aRep g s z H) (hp : aAll[aOff p]? = some p) (hc : aOff p < aCnt s) (h : aSh p = .inr (ty, m)) (hs' : s' = s ∨ ∃ n r r', s = some (n, r) ∧ s' = some (n, r'))
    (hw : w = aAv g s' z' p ty i.toNat) (ho1 : ∀ j : Nat, j ≠ i.toNat → aAv g s' z' p ty j = aAv g s z p ty j) (ho2 : ∀ q : aP, q ≠ p → aCe g s' z' q = aCe g s z q) (h31 : ∀ j, z' (31, 0, 0) j = z (31, 0, 0) j)
    (e1 : H1[aAd g p]? = some ((arrV (g.2.1 ty) m.toNat (aAv g s z p ty)).setSlot i.toNat w)) (e2 : H1.size = H.size) (e3 : ∀ q : Nat, q ≠ aAd g p → H1[q]? = H[q]?) : aRep g s' z' H1 := by
  refine hR.put hp hc hs' e2 e3 ((aVp h).mpr ?_) ho2 h31
  rw [e1, arrV_store]
  congr 2
  funext j
  by_cases hj : j = i.toNat
  · subst hj
    unfold updV
    rw [if_pos rfl, hw]
  · unfold updV
    rw [if_neg hj, ho1 j hj]
theorem aTl {g : aG} {s : State} (h : aKN g s) (ty : Nat) {t : FieldType} (ht : (aTyl g)[ty]? = some (g.2.1 ty, t)) : ArrOfT s (g.2.1 ty) t := (h.2.1.2 ty _ ht).1
theorem aAin {cA : ClassId} {m i : Int} {f : Nat → Value} (h0 : 0 ≤ i) (h1 : i < m) (hm : m ≤ 2000) : ¬ (iZ i < 0 ∨ (arrV cA m.toNat f).slots.size ≤ (iZ i).toNatClampNeg) := by
  rw [arrV_size]
  exact iZ_in h0 h1 (by omega)
theorem aLp_ar {s : aSt} {p : aP} {ty : Nat} {m : Int} (h : aLp s p) (hs : aSh p = .inr (ty, m)) (ht : ty ≠ 9) : (aAll[aOff p]? = some p ∧ aOff p < aCnt s) := aLp_in h (by rw [hs]; intro q; cases q; exact ht rfl)
theorem sk_iaload {l : Launch} {g : aG} {f : aFr} {y o : Nat} {Q : Option aV → aSt → aM → Prop} {X : Nat → aSt → aM → Prop} {p : Program} {e : Env} {R : Room} {s : State} {m : MethodId} {args : Array Value} {below : List Frame} {meth : Method} {c : Code} (hF : aFrm l g f y o p e R s m args below meth c) {pc n t a b : Nat} {sw : List (Int × Nat)}  (hI : aOk y o (aMt y).2.1 pc (.iaload, n, t, a, b, sw) = true) {k : aK} {z : aM} {ls : List (Option aV)} {st : List aV} {K : aK → aM → Nat → List (Option aV) → List aV → Prop} (h : stp l g f Q X pc (.iaload, n, t, a, b, sw) k z ls st K) (hK : ∀ k z pc ls st, K k z pc ls st → aBs l g f Q X p e R s m args below meth c k z pc ls st) : aBs l g f Q X p e R s m args below meth c k z pc ls st := by
  obtain ⟨⟨hx, hst, hb, hml, hown, hlk, hrt⟩, ⟨hKN, hbs, hold⟩, ⟨hex, hnm, hrk, hho, hhc⟩, hr1, hr2, hr3, hr4, hr5⟩ := hF
  obtain ⟨hd, rfl, h2⟩ := aOk_d hI (by first | decide | (intro q; cases q))
  rcases st with _ | ⟨i1, st⟩
  · exact False.elim h
  · rcases i1 with i1 | i1 | i1 | i1
    · rcases st with _ | ⟨q1, st⟩
      · exact False.elim h
      · rcases q1 with q1 | q1 | q1 | q1
        · exact False.elim h
        · exact False.elim h
        · have h0 := h
          unfold stp at h0
          simp only at h0
          rcases hsh : aSh q1 with ci | ⟨ty, m1⟩
          · rw [hsh] at h0; exact False.elim h0
          · rw [hsh] at h0
            by_cases hty : ty = 0
            · subst hty
              simp only at h0
              obtain ⟨⟨h01, h02⟩, h9⟩ := h0
              intro hs hl hbd hlen H locs la hR hS hL
              obtain ⟨hp, hc⟩ := aLp_ar (hs (.inr (.inr (.inl q1))) (List.mem_cons_of_mem _ List.mem_cons_self)) hsh (by decide)
              have hb9 := aSh_r hp hsh
              refine W.eq (g2 := F0 m pc la (.int (iZ i1) :: .ref (aAd g q1) :: st.map (aC g))) rfl ?_
              have hat := aWs_at (g := g) (z := z) hp hc
              rw [aCe_a hsh] at hat
              refine va_iald hx hb hKN.2.1 hR.1 (aOff q1) 0 hat rfl (iZ_in h01 h02 (by omega)) hd ?_
              rw [iZ_cl h01 (by omega), Int.toNat_of_nonneg h01]
              exact hK _ _ _ _ _ h9 (aLv_c (w := .inl (z q1 i1)) trivial (aLv_tl (aLv_tl hs))) hl hbd hlen H locs la hR hS hL
            · by_cases hty9 : ty = 9
              · subst hty9
                simp only at h0
                obtain ⟨⟨rfl, h01, h02⟩, h9⟩ := h0
                intro hs hl hbd hlen H locs la hR hS hL
                refine W.eq (g2 := F0 m pc la (.int (iZ i1) :: .ref g.2.2.2.2.1 :: st.map (aC g))) rfl ?_
                obtain ⟨scr, c1, c2, c3⟩ := hR.2.2.2.2
                obtain ⟨scr2, d1, d2, d3⟩ := hKN.2.2.2.2.2.2.2.2.2.2
                obtain rfl : scr2 = scr := Option.some.inj (d1.symm.trans c1)
                have hbl : g.2.2.2.2.1 < aBase g := (Array.getElem?_eq_some_iff.mp c1).1
                have hX : va_X g.2.2.2.2.1 g.2.2.2.2.2 (fun j => iZ (z (31, 0, 0) (j : Int))) s s.heap := ⟨scr2, by rw [hold _ hbl]; exact c1, d2, d3, c2, c3⟩
                have hsz : g.2.2.2.2.2 < 2 ^ 31 := hr5
                refine va_sld hx hb hX (Nat.lt_of_lt_of_le hbl hbs) (Nat.not_le.mpr hbl) hS (iZ_in h01 h02 (by omega)) hd ?_
                rw [iZ_cl h01 (by omega), Int.toNat_of_nonneg h01]
                exact hK _ _ _ _ _ h9 (aLv_c (w := .inl (z (31, 0, 0) i1)) trivial (aLv_tl (aLv_tl hs))) hl hbd hlen H locs la hR hS hL
              · exfalso
                revert h0
                split
                · next he => intro _; cases he; exact hty rfl
                · next he => intro _; cases he; exact hty9 rfl
                · exact id
        · exact False.elim h
    · exact False.elim h
    · exact False.elim h
    · exact False.elim h

theorem sk_caload {l : Launch} {g : aG} {f : aFr} {y o : Nat} {Q : Option aV → aSt → aM → Prop} {X : Nat → aSt → aM → Prop} {p : Program} {e : Env} {R : Room} {s : State} {m : MethodId} {args : Array Value} {below : List Frame} {meth : Method} {c : Code} (hF : aFrm l g f y o p e R s m args below meth c) {pc n t a b : Nat} {sw : List (Int × Nat)}  (hI : aOk y o (aMt y).2.1 pc (.caload, n, t, a, b, sw) = true) {k : aK} {z : aM} {ls : List (Option aV)} {st : List aV} {K : aK → aM → Nat → List (Option aV) → List aV → Prop} (h : stp l g f Q X pc (.caload, n, t, a, b, sw) k z ls st K) (hK : ∀ k z pc ls st, K k z pc ls st → aBs l g f Q X p e R s m args below meth c k z pc ls st) : aBs l g f Q X p e R s m args below meth c k z pc ls st := by
  obtain ⟨⟨hx, hst, hb, hml, hown, hlk, hrt⟩, ⟨hKN, hbs, hold⟩, ⟨hex, hnm, hrk, hho, hhc⟩, hr1, hr2, hr3, hr4, hr5⟩ := hF
  obtain ⟨hd, rfl, h2⟩ := aOk_d hI (by first | decide | (intro q; cases q))
  rcases st with _ | ⟨i1, st⟩
  · exact False.elim h
  · rcases i1 with i1 | i1 | i1 | i1
    · rcases st with _ | ⟨q1, st⟩
      · exact False.elim h
      · rcases q1 with q1 | q1 | q1 | q1
        · exact False.elim h
        · exact False.elim h
        · have h0 := h
          unfold stp at h0
          simp only at h0
          rcases hsh : aSh q1 with ci | ⟨ty, m1⟩
          · rw [hsh] at h0; exact False.elim h0
          · rw [hsh] at h0
            by_cases hty : ty = 1
            · subst hty
              simp only at h0
              obtain ⟨⟨h01, h02⟩, h9⟩ := h0
              intro hs hl hbd hlen H locs la hR hS hL
              obtain ⟨hp, hc⟩ := aLp_ar (hs (.inr (.inr (.inl q1))) (List.mem_cons_of_mem _ List.mem_cons_self)) hsh (by decide)
              have hb9 := aSh_r hp hsh
              refine W.eq (g2 := F0 m pc la (.int (iZ i1) :: .ref (aAd g q1) :: st.map (aC g))) rfl ?_
              have hat := aWs_at (g := g) (z := z) hp hc
              rw [aCe_a hsh] at hat
              refine va_cald hx hb hKN.2.1 hR.1 (aOff q1) 1 hat rfl (iZ_in h01 h02 (by omega)) hd ?_
              rw [iZ_cl h01 (by omega), Int.toNat_of_nonneg h01]
              exact hK _ _ _ _ _ h9 (aLv_c (w := .inl (z q1 i1)) trivial (aLv_tl (aLv_tl hs))) hl hbd hlen H locs la hR hS hL
            · exfalso
              revert h0
              split
              · next he => intro _; cases he; exact hty rfl
              · exact id
        · exact False.elim h
    · exact False.elim h
    · exact False.elim h
    · exact False.elim h

theorem sk_laload {l : Launch} {g : aG} {f : aFr} {y o : Nat} {Q : Option aV → aSt → aM → Prop} {X : Nat → aSt → aM → Prop} {p : Program} {e : Env} {R : Room} {s : State} {m : MethodId} {args : Array Value} {below : List Frame} {meth : Method} {c : Code} (hF : aFrm l g f y o p e R s m args below meth c) {pc n t a b : Nat} {sw : List (Int × Nat)}  (hI : aOk y o (aMt y).2.1 pc (.laload, n, t, a, b, sw) = true) {k : aK} {z : aM} {ls : List (Option aV)} {st : List aV} {K : aK → aM → Nat → List (Option aV) → List aV → Prop} (h : stp l g f Q X pc (.laload, n, t, a, b, sw) k z ls st K) (hK : ∀ k z pc ls st, K k z pc ls st → aBs l g f Q X p e R s m args below meth c k z pc ls st) : aBs l g f Q X p e R s m args below meth c k z pc ls st := by
  obtain ⟨⟨hx, hst, hb, hml, hown, hlk, hrt⟩, ⟨hKN, hbs, hold⟩, ⟨hex, hnm, hrk, hho, hhc⟩, hr1, hr2, hr3, hr4, hr5⟩ := hF
  obtain ⟨hd, rfl, h2⟩ := aOk_d hI (by first | decide | (intro q; cases q))
  rcases st with _ | ⟨i1, st⟩
  · exact False.elim h
  · rcases i1 with i1 | i1 | i1 | i1
    · rcases st with _ | ⟨q1, st⟩
      · exact False.elim h
      · rcases q1 with q1 | q1 | q1 | q1
        · exact False.elim h
        · exact False.elim h
        · have h0 := h
          unfold stp at h0
          simp only at h0
          rcases hsh : aSh q1 with ci | ⟨ty, m1⟩
          · rw [hsh] at h0; exact False.elim h0
          · rw [hsh] at h0
            by_cases hty : ty = 4
            · subst hty
              simp only at h0
              obtain ⟨⟨h01, h02⟩, h9⟩ := h0
              intro hs hl hbd hlen H locs la hR hS hL
              obtain ⟨hp, hc⟩ := aLp_ar (hs (.inr (.inr (.inl q1))) (List.mem_cons_of_mem _ List.mem_cons_self)) hsh (by decide)
              have hb9 := aSh_r hp hsh
              refine W.eq (g2 := F0 m pc la (.int (iZ i1) :: .ref (aAd g q1) :: st.map (aC g))) rfl ?_
              have hat := aWs_at (g := g) (z := z) hp hc
              rw [aCe_a hsh] at hat
              refine va_lald hx hb hKN.2.1 hR.1 (aOff q1) 4 hat rfl (iZ_in h01 h02 (by omega)) hd ?_
              rw [iZ_cl h01 (by omega), Int.toNat_of_nonneg h01]
              exact hK _ _ _ _ _ h9 (aLv_c (w := .inr (.inl (z q1 i1))) trivial (aLv_tl (aLv_tl hs))) hl hbd hlen H locs la hR hS hL
            · exfalso
              revert h0
              split
              · next he => intro _; cases he; exact hty rfl
              · exact id
        · exact False.elim h
    · exact False.elim h
    · exact False.elim h
    · exact False.elim h

theorem sk_daload {l : Launch} {g : aG} {f : aFr} {y o : Nat} {Q : Option aV → aSt → aM → Prop} {X : Nat → aSt → aM → Prop} {p : Program} {e : Env} {R : Room} {s : State} {m : MethodId} {args : Array Value} {below : List Frame} {meth : Method} {c : Code} (hF : aFrm l g f y o p e R s m args below meth c) {pc n t a b : Nat} {sw : List (Int × Nat)}  (hI : aOk y o (aMt y).2.1 pc (.daload, n, t, a, b, sw) = true) {k : aK} {z : aM} {ls : List (Option aV)} {st : List aV} {K : aK → aM → Nat → List (Option aV) → List aV → Prop} (h : stp l g f Q X pc (.daload, n, t, a, b, sw) k z ls st K) (hK : ∀ k z pc ls st, K k z pc ls st → aBs l g f Q X p e R s m args below meth c k z pc ls st) : aBs l g f Q X p e R s m args below meth c k z pc ls st := by
  obtain ⟨⟨hx, hst, hb, hml, hown, hlk, hrt⟩, ⟨hKN, hbs, hold⟩, ⟨hex, hnm, hrk, hho, hhc⟩, hr1, hr2, hr3, hr4, hr5⟩ := hF
  obtain ⟨hd, rfl, h2⟩ := aOk_d hI (by first | decide | (intro q; cases q))
  rcases st with _ | ⟨i1, st⟩
  · exact False.elim h
  · rcases i1 with i1 | i1 | i1 | i1
    · rcases st with _ | ⟨q1, st⟩
      · exact False.elim h
      · rcases q1 with q1 | q1 | q1 | q1
        · exact False.elim h
        · exact False.elim h
        · have h0 := h
          unfold stp at h0
          simp only at h0
          rcases hsh : aSh q1 with ci | ⟨ty, m1⟩
          · rw [hsh] at h0; exact False.elim h0
          · rw [hsh] at h0
            by_cases hty : ty = 5
            · subst hty
              simp only at h0
              obtain ⟨⟨h01, h02⟩, h9⟩ := h0
              intro hs hl hbd hlen H locs la hR hS hL
              obtain ⟨hp, hc⟩ := aLp_ar (hs (.inr (.inr (.inl q1))) (List.mem_cons_of_mem _ List.mem_cons_self)) hsh (by decide)
              have hb9 := aSh_r hp hsh
              refine W.eq (g2 := F0 m pc la (.int (iZ i1) :: .ref (aAd g q1) :: st.map (aC g))) rfl ?_
              have hat := aWs_at (g := g) (z := z) hp hc
              rw [aCe_a hsh] at hat
              refine va_dald hx hb hKN.2.1 hR.1 (aOff q1) 5 hat rfl (iZ_in h01 h02 (by omega)) hd ?_
              rw [iZ_cl h01 (by omega), Int.toNat_of_nonneg h01]
              exact hK _ _ _ _ _ h9 (aLv_c (w := .inr (.inr (.inr (.double (UInt64.ofNat (z q1 i1).toNat))))) trivial (aLv_tl (aLv_tl hs))) hl hbd hlen H locs la hR hS hL
            · exfalso
              revert h0
              split
              · next he => intro _; cases he; exact hty rfl
              · exact id
        · exact False.elim h
    · exact False.elim h
    · exact False.elim h
    · exact False.elim h

theorem sk_iastore {l : Launch} {g : aG} {f : aFr} {y o : Nat} {Q : Option aV → aSt → aM → Prop} {X : Nat → aSt → aM → Prop} {p : Program} {e : Env} {R : Room} {s : State} {m : MethodId} {args : Array Value} {below : List Frame} {meth : Method} {c : Code} (hF : aFrm l g f y o p e R s m args below meth c) {pc n t a b : Nat} {sw : List (Int × Nat)}  (hI : aOk y o (aMt y).2.1 pc (.iastore, n, t, a, b, sw) = true) {k : aK} {z : aM} {ls : List (Option aV)} {st : List aV} {K : aK → aM → Nat → List (Option aV) → List aV → Prop} (h : stp l g f Q X pc (.iastore, n, t, a, b, sw) k z ls st K) (hK : ∀ k z pc ls st, K k z pc ls st → aBs l g f Q X p e R s m args below meth c k z pc ls st) : aBs l g f Q X p e R s m args below meth c k z pc ls st := by
  obtain ⟨⟨hx, hst, hb, hml, hown, hlk, hrt⟩, ⟨hKN, hbs, hold⟩, ⟨hex, hnm, hrk, hho, hhc⟩, hr1, hr2, hr3, hr4, hr5⟩ := hF
  obtain ⟨hd, rfl, h2⟩ := aOk_d hI (by first | decide | (intro q; cases q))
  rcases st with _ | ⟨x1, st⟩
  · exact False.elim h
  · rcases x1 with x1 | x1 | x1 | x1
    · rcases st with _ | ⟨i1, st⟩
      · exact False.elim h
      · rcases i1 with i1 | i1 | i1 | i1
        · rcases st with _ | ⟨q1, st⟩
          · exact False.elim h
          · rcases q1 with q1 | q1 | q1 | q1
            · exact False.elim h
            · exact False.elim h
            · have h0 := h
              unfold stp at h0
              simp only at h0
              rcases hsh : aSh q1 with ci | ⟨ty, m1⟩
              · rw [hsh] at h0; exact False.elim h0
              · rw [hsh] at h0
                by_cases hty : ty = 0
                · subst hty
                  simp only at h0
                  obtain ⟨⟨h01, h02⟩, h9⟩ := h0
                  intro hs hl hbd hlen H locs la hR hS hL
                  obtain ⟨hp, hc⟩ := aLp_ar (hs (.inr (.inr (.inl q1))) (List.mem_cons_of_mem _ (List.mem_cons_of_mem _ List.mem_cons_self))) hsh (by decide)
                  have hb9 := aSh_r hp hsh
                  refine W.eq (g2 := F0 m pc la (.int (iZ x1) :: .int (iZ i1) :: .ref (aAd g q1) :: st.map (aC g))) rfl ?_
                  have hcell := aArr hR hp hc hsh
                  refine W.iast hx hb hcell (aTl hKN 0 rfl _ _) (fun q => by cases q) (aAin h01 h02 (by omega)) rfl rfl hd (fun H1 e1 e2 e3 => ?_)
                  rw [iZ_cl h01 (by omega)] at e1 ⊢
                  have hRn : aRep g k.1 (aWr z q1 i1 x1) H1 := by
                    refine aSto hR hp hc hsh (Or.inl rfl) ?_ (fun j hj => ?_) (fun q hq => aCe_ne (fun j => aWr_ne hq)) (fun j => aWr_ne (aLk_31 hp)) e1 e2 e3
                    · show _ = aAv g k.1 (aWr z q1 i1 x1) q1 0 i1.toNat
                      unfold aAv
                      rw [Int.toNat_of_nonneg h01, aWr_at]
                      first | rfl | skip
                    · unfold aAv
                      rw [aWr_nk (by omega)]
                  exact hK _ _ _ _ _ h9 (aLv_tl (aLv_tl (aLv_tl hs))) hl hbd hlen H1 _ la hRn (hS.put e2 e3 (aAd_A hp)) hL
                · exfalso
                  revert h0
                  split
                  · next he => intro _; cases he; exact hty rfl
                  · exact id
            · exact False.elim h
        · exact False.elim h
        · exact False.elim h
        · exact False.elim h
    · exact False.elim h
    · exact False.elim h
    · exact False.elim h

theorem sk_castore {l : Launch} {g : aG} {f : aFr} {y o : Nat} {Q : Option aV → aSt → aM → Prop} {X : Nat → aSt → aM → Prop} {p : Program} {e : Env} {R : Room} {s : State} {m : MethodId} {args : Array Value} {below : List Frame} {meth : Method} {c : Code} (hF : aFrm l g f y o p e R s m args below meth c) {pc n t a b : Nat} {sw : List (Int × Nat)}  (hI : aOk y o (aMt y).2.1 pc (.castore, n, t, a, b, sw) = true) {k : aK} {z : aM} {ls : List (Option aV)} {st : List aV} {K : aK → aM → Nat → List (Option aV) → List aV → Prop} (h : stp l g f Q X pc (.castore, n, t, a, b, sw) k z ls st K) (hK : ∀ k z pc ls st, K k z pc ls st → aBs l g f Q X p e R s m args below meth c k z pc ls st) : aBs l g f Q X p e R s m args below meth c k z pc ls st := by
  obtain ⟨⟨hx, hst, hb, hml, hown, hlk, hrt⟩, ⟨hKN, hbs, hold⟩, ⟨hex, hnm, hrk, hho, hhc⟩, hr1, hr2, hr3, hr4, hr5⟩ := hF
  obtain ⟨hd, rfl, h2⟩ := aOk_d hI (by first | decide | (intro q; cases q))
  rcases st with _ | ⟨x1, st⟩
  · exact False.elim h
  · rcases x1 with x1 | x1 | x1 | x1
    · rcases st with _ | ⟨i1, st⟩
      · exact False.elim h
      · rcases i1 with i1 | i1 | i1 | i1
        · rcases st with _ | ⟨q1, st⟩
          · exact False.elim h
          · rcases q1 with q1 | q1 | q1 | q1
            · exact False.elim h
            · exact False.elim h
            · have h0 := h
              unfold stp at h0
              simp only at h0
              rcases hsh : aSh q1 with ci | ⟨ty, m1⟩
              · rw [hsh] at h0; exact False.elim h0
              · rw [hsh] at h0
                by_cases hty : ty = 1
                · subst hty
                  simp only at h0
                  obtain ⟨⟨h01, h02⟩, h9⟩ := h0
                  intro hs hl hbd hlen H locs la hR hS hL
                  obtain ⟨hp, hc⟩ := aLp_ar (hs (.inr (.inr (.inl q1))) (List.mem_cons_of_mem _ (List.mem_cons_of_mem _ List.mem_cons_self))) hsh (by decide)
                  have hb9 := aSh_r hp hsh
                  refine W.eq (g2 := F0 m pc la (.int (iZ x1) :: .int (iZ i1) :: .ref (aAd g q1) :: st.map (aC g))) rfl ?_
                  have hcell := aArr hR hp hc hsh
                  refine W.cast hx hb hcell (aTl hKN 1 rfl _ _) (fun q => by cases q) (aAin h01 h02 (by omega)) rfl rfl hd (fun H1 e1 e2 e3 => ?_)
                  rw [iZ_cl h01 (by omega)] at e1 ⊢
                  have hRn : aRep g k.1 (aWr z q1 i1 (x1 % 65536)) H1 := by
                    refine aSto hR hp hc hsh (Or.inl rfl) ?_ (fun j hj => ?_) (fun q hq => aCe_ne (fun j => aWr_ne hq)) (fun j => aWr_ne (aLk_31 hp)) e1 e2 e3
                    · show _ = aAv g k.1 (aWr z q1 i1 (x1 % 65536)) q1 1 i1.toNat
                      unfold aAv
                      rw [Int.toNat_of_nonneg h01, aWr_at]
                      exact aNc x1
                    · unfold aAv
                      rw [aWr_nk (by omega)]
                  exact hK _ _ _ _ _ h9 (aLv_tl (aLv_tl (aLv_tl hs))) hl hbd hlen H1 _ la hRn (hS.put e2 e3 (aAd_A hp)) hL
                · exfalso
                  revert h0
                  split
                  · next he => intro _; cases he; exact hty rfl
                  · exact id
            · exact False.elim h
        · exact False.elim h
        · exact False.elim h
        · exact False.elim h
    · exact False.elim h
    · exact False.elim h
    · exact False.elim h

theorem sk_lastore {l : Launch} {g : aG} {f : aFr} {y o : Nat} {Q : Option aV → aSt → aM → Prop} {X : Nat → aSt → aM → Prop} {p : Program} {e : Env} {R : Room} {s : State} {m : MethodId} {args : Array Value} {below : List Frame} {meth : Method} {c : Code} (hF : aFrm l g f y o p e R s m args below meth c) {pc n t a b : Nat} {sw : List (Int × Nat)}  (hI : aOk y o (aMt y).2.1 pc (.lastore, n, t, a, b, sw) = true) {k : aK} {z : aM} {ls : List (Option aV)} {st : List aV} {K : aK → aM → Nat → List (Option aV) → List aV → Prop} (h : stp l g f Q X pc (.lastore, n, t, a, b, sw) k z ls st K) (hK : ∀ k z pc ls st, K k z pc ls st → aBs l g f Q X p e R s m args below meth c k z pc ls st) : aBs l g f Q X p e R s m args below meth c k z pc ls st := by
  obtain ⟨⟨hx, hst, hb, hml, hown, hlk, hrt⟩, ⟨hKN, hbs, hold⟩, ⟨hex, hnm, hrk, hho, hhc⟩, hr1, hr2, hr3, hr4, hr5⟩ := hF
  obtain ⟨hd, rfl, h2⟩ := aOk_d hI (by first | decide | (intro q; cases q))
  rcases st with _ | ⟨x1, st⟩
  · exact False.elim h
  · rcases x1 with x1 | x1 | x1 | x1
    · exact False.elim h
    · rcases st with _ | ⟨i1, st⟩
      · exact False.elim h
      · rcases i1 with i1 | i1 | i1 | i1
        · rcases st with _ | ⟨q1, st⟩
          · exact False.elim h
          · rcases q1 with q1 | q1 | q1 | q1
            · exact False.elim h
            · exact False.elim h
            · have h0 := h
              unfold stp at h0
              simp only at h0
              rcases hsh : aSh q1 with ci | ⟨ty, m1⟩
              · rw [hsh] at h0; exact False.elim h0
              · rw [hsh] at h0
                by_cases hty : ty = 4
                · subst hty
                  simp only at h0
                  obtain ⟨⟨h01, h02⟩, h9⟩ := h0
                  intro hs hl hbd hlen H locs la hR hS hL
                  obtain ⟨hp, hc⟩ := aLp_ar (hs (.inr (.inr (.inl q1))) (List.mem_cons_of_mem _ (List.mem_cons_of_mem _ List.mem_cons_self))) hsh (by decide)
                  have hb9 := aSh_r hp hsh
                  refine W.eq (g2 := F0 m pc la (.long (lZ x1) :: .int (iZ i1) :: .ref (aAd g q1) :: st.map (aC g))) rfl ?_
                  have hcell := aArr hR hp hc hsh
                  refine W.last hx hb hcell (aTl hKN 4 rfl _ _) (fun q => by cases q) (aAin h01 h02 (by omega)) rfl rfl hd (fun H1 e1 e2 e3 => ?_)
                  rw [iZ_cl h01 (by omega)] at e1 ⊢
                  have hRn : aRep g k.1 (aWr z q1 i1 x1) H1 := by
                    refine aSto hR hp hc hsh (Or.inl rfl) ?_ (fun j hj => ?_) (fun q hq => aCe_ne (fun j => aWr_ne hq)) (fun j => aWr_ne (aLk_31 hp)) e1 e2 e3
                    · show _ = aAv g k.1 (aWr z q1 i1 x1) q1 4 i1.toNat
                      unfold aAv
                      rw [Int.toNat_of_nonneg h01, aWr_at]
                      first | rfl | skip
                    · unfold aAv
                      rw [aWr_nk (by omega)]
                  exact hK _ _ _ _ _ h9 (aLv_tl (aLv_tl (aLv_tl hs))) hl hbd hlen H1 _ la hRn (hS.put e2 e3 (aAd_A hp)) hL
                · exfalso
                  revert h0
                  split
                  · next he => intro _; cases he; exact hty rfl
                  · exact id
            · exact False.elim h
        · exact False.elim h
        · exact False.elim h
        · exact False.elim h
    · exact False.elim h
    · exact False.elim h

theorem sk_dastore {l : Launch} {g : aG} {f : aFr} {y o : Nat} {Q : Option aV → aSt → aM → Prop} {X : Nat → aSt → aM → Prop} {p : Program} {e : Env} {R : Room} {s : State} {m : MethodId} {args : Array Value} {below : List Frame} {meth : Method} {c : Code} (hF : aFrm l g f y o p e R s m args below meth c) {pc n t a b : Nat} {sw : List (Int × Nat)}  (hI : aOk y o (aMt y).2.1 pc (.dastore, n, t, a, b, sw) = true) {k : aK} {z : aM} {ls : List (Option aV)} {st : List aV} {K : aK → aM → Nat → List (Option aV) → List aV → Prop} (h : stp l g f Q X pc (.dastore, n, t, a, b, sw) k z ls st K) (hK : ∀ k z pc ls st, K k z pc ls st → aBs l g f Q X p e R s m args below meth c k z pc ls st) : aBs l g f Q X p e R s m args below meth c k z pc ls st := by
  obtain ⟨⟨hx, hst, hb, hml, hown, hlk, hrt⟩, ⟨hKN, hbs, hold⟩, ⟨hex, hnm, hrk, hho, hhc⟩, hr1, hr2, hr3, hr4, hr5⟩ := hF
  obtain ⟨hd, rfl, h2⟩ := aOk_d hI (by first | decide | (intro q; cases q))
  rcases st with _ | ⟨x1, st⟩
  · exact False.elim h
  · rcases x1 with x1 | x1 | x1 | x1
    · exact False.elim h
    · exact False.elim h
    · exact False.elim h
    · cases x1 with
      | double x1 =>
        rcases st with _ | ⟨i1, st⟩
        · exact False.elim h
        · rcases i1 with i1 | i1 | i1 | i1
          · rcases st with _ | ⟨q1, st⟩
            · exact False.elim h
            · rcases q1 with q1 | q1 | q1 | q1
              · exact False.elim h
              · exact False.elim h
              · have h0 := h
                unfold stp at h0
                simp only at h0
                rcases hsh : aSh q1 with ci | ⟨ty, m1⟩
                · rw [hsh] at h0; exact False.elim h0
                · rw [hsh] at h0
                  by_cases hty : ty = 5
                  · subst hty
                    simp only at h0
                    obtain ⟨⟨h01, h02⟩, h9⟩ := h0
                    intro hs hl hbd hlen H locs la hR hS hL
                    obtain ⟨hp, hc⟩ := aLp_ar (hs (.inr (.inr (.inl q1))) (List.mem_cons_of_mem _ (List.mem_cons_of_mem _ List.mem_cons_self))) hsh (by decide)
                    have hb9 := aSh_r hp hsh
                    refine W.eq (g2 := F0 m pc la (.double x1 :: .int (iZ i1) :: .ref (aAd g q1) :: st.map (aC g))) rfl ?_
                    have hcell := aArr hR hp hc hsh
                    refine W.dast hx hb hcell (aTl hKN 5 rfl _ _) (fun q => by cases q) (aAin h01 h02 (by omega)) rfl rfl hd (fun H1 e1 e2 e3 => ?_)
                    rw [iZ_cl h01 (by omega)] at e1 ⊢
                    have hRn : aRep g k.1 (aWr z q1 i1 (x1.toNat : Int)) H1 := by
                      refine aSto hR hp hc hsh (Or.inl rfl) ?_ (fun j hj => ?_) (fun q hq => aCe_ne (fun j => aWr_ne hq)) (fun j => aWr_ne (aLk_31 hp)) e1 e2 e3
                      · show _ = aAv g k.1 (aWr z q1 i1 (x1.toNat : Int)) q1 5 i1.toNat
                        unfold aAv
                        rw [Int.toNat_of_nonneg h01, aWr_at]
                        rw [Int.toNat_natCast]; exact congrArg Value.double (UInt64.ofNat_toNat).symm
                      · unfold aAv
                        rw [aWr_nk (by omega)]
                    exact hK _ _ _ _ _ h9 (aLv_tl (aLv_tl (aLv_tl hs))) hl hbd hlen H1 _ la hRn (hS.put e2 e3 (aAd_A hp)) hL
                  · exfalso
                    revert h0
                    split
                    · next he => intro _; cases he; exact hty rfl
                    · exact id
              · exact False.elim h
          · exact False.elim h
          · exact False.elim h
          · exact False.elim h
      | _ => exact False.elim h
end
section
/-! THE JVM KEEPS TO THE STEP: arrays of references, switches, returns (heads printed by wip/whole/sound4.py) -/
theorem aTn {g : aG} {ty : Nat} (h : ty = 2 ∨ ty = 3) : ∃ C, (aTyl g)[ty]? = some (g.2.1 ty, .object C) ∧ ∀ s z p, aAr g s z p ty = .inr (.inr (.inr (.inr (fun k => aRv g s p (k : Int))))) := by
  rcases h with rfl | rfl
  · exact ⟨_, rfl, fun _ _ _ => rfl⟩
  · exact ⟨_, rfl, fun _ _ _ => rfl⟩
theorem sk_aaload {l : Launch} {g : aG} {f : aFr} {y o : Nat} {Q : Option aV → aSt → aM → Prop} {X : Nat → aSt → aM → Prop} {p : Program} {e : Env} {R : Room} {s : State} {m : MethodId} {args : Array Value} {below : List Frame} {meth : Method} {c : Code} (hF : aFrm l g f y o p e R s m args below meth c) {pc n t a b : Nat} {sw : List (Int × Nat)}  (hI : aOk y o (aMt y).2.1 pc (.aaload, n, t, a, b, sw) = true) {k : aK} {z : aM} {ls : List (Option aV)} {st : List aV} {K : aK → aM → Nat → List (Option aV) → List aV → Prop} (h : stp l g f Q X pc (.aaload, n, t, a, b, sw) k z ls st K) (hK : ∀ k z pc ls st, K k z pc ls st → aBs l g f Q X p e R s m args below meth c k z pc ls st) : aBs l g f Q X p e R s m args below meth c k z pc ls st := by
  obtain ⟨⟨hx, hst, hb, hml, hown, hlk, hrt⟩, ⟨hKN, hbs, hold⟩, ⟨hex, hnm, hrk, hho, hhc⟩, hr1, hr2, hr3, hr4, hr5⟩ := hF
  obtain ⟨hd, rfl, h2⟩ := aOk_d hI (by first | decide | (intro q; cases q))
  rcases st with _ | ⟨i1, st⟩
  · exact False.elim h
  rcases i1 with i1 | i1 | i1 | i1
  · rcases st with _ | ⟨q1, st⟩
    · exact False.elim h
    rcases q1 with q1 | q1 | q1 | q1
    · exact False.elim h
    · exact False.elim h
    · have h0 := h
      unfold stp at h0
      simp only at h0
      rcases hsh : aSh q1 with ci | ⟨ty, m1⟩
      · rw [hsh] at h0; exact False.elim h0
      rw [hsh] at h0
      simp only at h0
      obtain ⟨⟨h01, h02, hty⟩, h9⟩ := h0
      intro hs hl hbd hlen H locs la hR hS hL
      obtain ⟨hp, hc⟩ := aLp_ar (hs (.inr (.inr (.inl q1))) (List.mem_cons_of_mem _ List.mem_cons_self)) hsh (by omega)
      have hb9 := aSh_r hp hsh
      obtain ⟨C, htl, har⟩ := aTn (g := g) hty
      refine W.eq (g2 := F0 m pc la (.int (iZ i1) :: .ref (aAd g q1) :: st.map (aC g))) rfl ?_
      have hat := aWs_at (g := g) (z := z) hp hc
      rw [aCe_a hsh, har] at hat
      refine va_aldq hx hb hKN.2.1 hR.1 (aOff q1) ty hat htl (iZ_in h01 h02 (by omega)) hd ?_
      rw [iZ_cl h01 (by omega), Int.toNat_of_nonneg h01]
      have key : aLp k.1 (aRf q1 i1) → aRv g k.1 q1 i1 = some (aAd g (aRf q1 i1)) → K k z (pc + 1) ls (.inr (.inr (.inl (aRf q1 i1))) :: st) → W p l e R s m args below meth c H locs k.2.1 k.2.2 (vx_MQ below (aQ g Q) (aX g X) args s f.2.1 f.2.2.1 (aA g)) (F0 m (pc + 1) la (va_rf (aRv g k.1 q1 i1) :: st.map (aC g))) := by
        intro hw he h99
        rw [he]
        exact hK _ _ _ _ _ h99 (aLv_c (w := .inr (.inr (.inl (aRf q1 i1)))) hw (aLv_tl (aLv_tl hs))) hl hbd hlen H locs la hR hS hL
      obtain ⟨sta, u9, v9⟩ := k
      rcases sta with _ | ⟨cnt, r⟩
      · exact key (aRefA_lv hp hsh hty h01 h02 (Or.inl rfl)) rfl h9
      · obtain ⟨⟨ha1, ha2⟩, h00⟩ := h9
        exact key (aRefA_lv (s := some (cnt, r)) hp hsh hty h01 h02 (Or.inr ha2)) (aRv_eq (s := some (cnt, r)) ha1) h00
    · exact False.elim h
  · exact False.elim h
  · exact False.elim h
  · exact False.elim h

theorem sk_arraylength {l : Launch} {g : aG} {f : aFr} {y o : Nat} {Q : Option aV → aSt → aM → Prop} {X : Nat → aSt → aM → Prop} {p : Program} {e : Env} {R : Room} {s : State} {m : MethodId} {args : Array Value} {below : List Frame} {meth : Method} {c : Code} (hF : aFrm l g f y o p e R s m args below meth c) {pc n t a b : Nat} {sw : List (Int × Nat)}  (hI : aOk y o (aMt y).2.1 pc (.arraylength, n, t, a, b, sw) = true) {k : aK} {z : aM} {ls : List (Option aV)} {st : List aV} {K : aK → aM → Nat → List (Option aV) → List aV → Prop} (h : stp l g f Q X pc (.arraylength, n, t, a, b, sw) k z ls st K) (hK : ∀ k z pc ls st, K k z pc ls st → aBs l g f Q X p e R s m args below meth c k z pc ls st) : aBs l g f Q X p e R s m args below meth c k z pc ls st := by
  obtain ⟨⟨hx, hst, hb, hml, hown, hlk, hrt⟩, ⟨hKN, hbs, hold⟩, ⟨hex, hnm, hrk, hho, hhc⟩, hr1, hr2, hr3, hr4, hr5⟩ := hF
  obtain ⟨hd, rfl, h2⟩ := aOk_d hI (by first | decide | (intro q; cases q))
  rcases st with _ | ⟨q1, st⟩
  · exact False.elim h
  rcases q1 with q1 | q1 | q1 | q1
  · exact False.elim h
  · exact False.elim h
  · obtain ⟨rfl, h9⟩ := h
    intro hs hl hbd hlen H locs la hR hS hL
    refine W.eq (g2 := F0 m pc la (.ref g.2.2.2.2.1 :: st.map (aC g))) rfl ?_
    obtain ⟨scr, c1, c2, c3⟩ := hR.2.2.2.2
    obtain ⟨scr2, d1, d2, d3⟩ := hKN.2.2.2.2.2.2.2.2.2.2
    obtain rfl : scr2 = scr := Option.some.inj (d1.symm.trans c1)
    have hbl : g.2.2.2.2.1 < aBase g := (Array.getElem?_eq_some_iff.mp c1).1
    have hX : va_X g.2.2.2.2.1 g.2.2.2.2.2 (fun j => iZ (z (31, 0, 0) (j : Int))) s s.heap := ⟨scr2, by rw [hold _ hbl]; exact c1, d2, d3, c2, c3⟩
    refine va_slen hx hb hX (Nat.lt_of_lt_of_le hbl hbs) (Nat.not_le.mpr hbl) hS hd ?_
    have e : nI g.2.2.2.2.2 = iZ (g.2.2.2.2.2 : Int) := by rw [iZ_nat (Int.natCast_nonneg _), Int.toNat_natCast]
    have h99 := hK _ _ _ _ _ h9 (aLv_c (w := .inl (g.2.2.2.2.2 : Int)) trivial (aLv_tl hs)) hl hbd hlen H locs la hR hS hL
    first | (rw [e]; exact h99) | exact h99
  · exact False.elim h

theorem sk_aastore {l : Launch} {g : aG} {f : aFr} {y o : Nat} {Q : Option aV → aSt → aM → Prop} {X : Nat → aSt → aM → Prop} {p : Program} {e : Env} {R : Room} {s : State} {m : MethodId} {args : Array Value} {below : List Frame} {meth : Method} {c : Code} (hF : aFrm l g f y o p e R s m args below meth c) {pc n t a b : Nat} {sw : List (Int × Nat)}  (hI : aOk y o (aMt y).2.1 pc (.aastore, n, t, a, b, sw) = true) {k : aK} {z : aM} {ls : List (Option aV)} {st : List aV} {K : aK → aM → Nat → List (Option aV) → List aV → Prop} (h : stp l g f Q X pc (.aastore, n, t, a, b, sw) k z ls st K) (hK : ∀ k z pc ls st, K k z pc ls st → aBs l g f Q X p e R s m args below meth c k z pc ls st) : aBs l g f Q X p e R s m args below meth c k z pc ls st := by
  obtain ⟨⟨hx, hst, hb, hml, hown, hlk, hrt⟩, ⟨hKN, hbs, hold⟩, ⟨hex, hnm, hrk, hho, hhc⟩, hr1, hr2, hr3, hr4, hr5⟩ := hF
  obtain ⟨hd, rfl, h2⟩ := aOk_d hI (by first | decide | (intro q; cases q))
  rcases st with _ | ⟨q2, st⟩
  · exact False.elim h
  rcases q2 with q2 | q2 | q2 | q2
  · exact False.elim h
  · exact False.elim h
  · rcases st with _ | ⟨i1, st⟩
    · exact False.elim h
    rcases i1 with i1 | i1 | i1 | i1
    · rcases st with _ | ⟨q1, st⟩
      · exact False.elim h
      rcases q1 with q1 | q1 | q1 | q1
      · exact False.elim h
      · exact False.elim h
      · have h0 := h
        unfold stp at h0
        simp only at h0
        rcases hsh : aSh q1 with ci | ⟨ty, m1⟩
        · rw [hsh] at h0; exact False.elim h0
        rw [hsh] at h0
        obtain ⟨sta, u9, v9⟩ := k
        rcases sta with _ | ⟨cnt, r⟩
        · exact False.elim h0
        obtain ⟨⟨⟨h01, h02⟩, hty, rfl⟩, h9⟩ := h0
        intro hs hl hbd hlen H locs la hR hS hL
        obtain ⟨hp, hc⟩ := aLp_ar (hs (.inr (.inr (.inl q1))) (List.mem_cons_of_mem _ (List.mem_cons_of_mem _ List.mem_cons_self))) hsh (by omega)
        have hb9 := aSh_r hp hsh
        have hlq : aLp (some (cnt, r)) (aRf q1 i1) := hs (.inr (.inr (.inl (aRf q1 i1)))) List.mem_cons_self
        obtain ⟨C, htl, har⟩ := aTn (g := g) hty
        refine W.eq (g2 := F0 m pc la (.ref (aAd g (aRf q1 i1)) :: .int (iZ i1) :: .ref (aAd g q1) :: st.map (aC g))) rfl ?_
        -- the thing that is put is an object of the array's class
        obtain ⟨ci, hsq, hrn⟩ : ∃ ci, aSh (aRf q1 i1) = .inl ci ∧ (aTyl g)[ty]? = some (g.2.1 ty, .object (aRn ci)) ∧ ci < 8 := by
          obtain ⟨kd, a9, b9⟩ := q1
          rcases hty with rfl | rfl
          · have hk : kd = 4 := by
              revert hsh
              simp only [aSh]
              split <;> intro hh <;> first | rfl | cases hh | (revert hh; split <;> intro hh <;> cases hh)
            subst hk
            exact ⟨4, rfl, rfl, by decide⟩
          · have hk : kd = 8 := by
              revert hsh
              simp only [aSh]
              split <;> intro hh <;> first | rfl | cases hh | (revert hh; split <;> intro hh <;> cases hh)
            subst hk
            exact ⟨5, rfl, rfl, by decide⟩
        obtain ⟨hq1, hq2⟩ := aLp_in hlq (by rw [hsq]; intro q; cases q)
        have hatq := aWs_at (g := g) (z := z) hq1 hq2
        rw [aCe_o hsq] at hatq
        obtain ⟨r', hr', cellV, g1, g2, g3, -⟩ := hR.1 _ _ hatq
        have hcell := aArr hR hp hc hsh
        have hcls := (hKN.2.1.1 ci _ (aCl_at ci hrn.2)).2
        obtain ⟨kA, comp, k1, k2, k3, -⟩ := (hKN.2.1.2 ty _ hrn.1).2
        have hcomp : comp = g.1.1 ci := Option.some.inj (k3.symm.trans hcls.1)
        subst hcomp
        obtain ⟨kC, hkC, -⟩ := hcls.2
        refine W.aast hx hb hcell (fun q h => by cases h) (fun h => by cases h) k1 k2 rfl hkC ⟨fun q => (aAin (cA := g.2.1 ty) (f := fun _ => .null) h01 h02 (by omega)) (Or.inl q), ?_⟩ g1 (fun q h => by rw [g3] at h; cases h) (by rw [g2]; exact hkC) (by rw [g2]; exact va_assign hcls) rfl rfl hd (fun H1 e1 e2 e3 => ?_)
        · show _ < (arrV _ _ _).slots.size
          rw [arrV_size, iZ_cl h01 (by omega)]
          omega
        rw [iZ_cl h01 (by omega)] at e1 ⊢
        have hav : ∀ s z j, aAv g s z q1 ty j = va_rf (aRv g s q1 (j : Int)) := fun s z j => by rcases hty with rfl | rfl <;> rfl
        have hRn : aRep g (some (cnt, aBt r q1 i1)) z H1 := by
          refine aSto hR hp hc hsh (Or.inr ⟨cnt, r, _, rfl, rfl⟩) ?_ (fun j hj => ?_) (fun q hq => aCe_bt hq) (fun j => rfl) e1 e2 e3
          · rw [hav, Int.toNat_of_nonneg h01, aRv_eq (s := some (cnt, aBt r q1 i1)) (by unfold aBt; exact if_pos ⟨rfl, rfl⟩)]
            rfl
          · rw [hav, hav]
            have e : aBt r q1 i1 q1 (j : Int) = r q1 (j : Int) := by unfold aBt; rw [if_neg (fun w => hj (by omega))]
            unfold aRv
            simp only [e]
        exact hK _ _ _ _ _ h9 (aCl_st (s := some (cnt, r)) rfl (aLv_tl (aLv_tl (aLv_tl hs)))) (aCl_ls (s := some (cnt, r)) rfl hl) hbd hlen H1 _ la hRn (hS.put e2 e3 (aAd_A hp)) hL
      · exact False.elim h
    · exact False.elim h
    · exact False.elim h
    · exact False.elim h
  · exact False.elim h

theorem aSwk_at {pc : Nat} : ∀ (os : List Int) (sw : List (Int × Nat)) (lo x : Int) (t : Nat) (K : Nat → Prop), aSwk pc lo os sw = true → aSw x K t sw → (∀ j : Nat, j < os.length → x = lo + (j : Int) → ∃ (o : Int) (t' : Nat), os[j]? = some o ∧ (pc : Int) + o = (t' : Int) ∧ K t') ∧ ((x < lo ∨ lo + (os.length : Int) ≤ x) → K t)
  | [], [], lo, x, t, K, _, h => ⟨fun j hj => absurd hj (Nat.not_lt_zero _), fun _ => h⟩
  | [], _ :: _, _, _, _, _, h, _ => by cases h
  | _ :: _, [], _, _, _, _, h, _ => by cases h
  | o :: os, (v, t') :: r, lo, x, t, K, h, hK => by
    simp only [aSwk, Bool.and_eq_true, decide_eq_true_eq] at h
    obtain ⟨rfl, h2, h3⟩ := h
    obtain ⟨k1, k2⟩ := hK
    refine ⟨fun j hj hx => ?_, fun hx => ?_⟩
    · cases j with
      | zero => exact ⟨o, t', rfl, h2, k1 (by omega)⟩
      | succ j =>
        obtain ⟨a1, a2⟩ := aSwk_at os r (v + 1) x t K h3 (k2 (by omega))
        obtain ⟨o', t'', b1, b2, b3⟩ := a1 j (by simpa using hj) (by omega)
        exact ⟨o', t'', by rw [List.getElem?_cons_succ]; exact b1, b2, b3⟩
    · obtain ⟨a1, a2⟩ := aSwk_at os r (v + 1) x t K h3 (k2 (by simp only [List.length_cons] at hx; omega))
      refine a2 ?_
      simp only [List.length_cons] at hx
      omega
theorem sk_tableswitch {l : Launch} {g : aG} {f : aFr} {y o : Nat} {Q : Option aV → aSt → aM → Prop} {X : Nat → aSt → aM → Prop} {p : Program} {e : Env} {R : Room} {s : State} {m : MethodId} {args : Array Value} {below : List Frame} {meth : Method} {c : Code} (hF : aFrm l g f y o p e R s m args below meth c) {pc n t a b : Nat} {sw : List (Int × Nat)} {d8 lo8 hi8 : Int} {offs8 : Array Int} (hI : aOk y o (aMt y).2.1 pc (.tableswitch d8 lo8 hi8 offs8, n, t, a, b, sw) = true) {k : aK} {z : aM} {ls : List (Option aV)} {st : List aV} {K : aK → aM → Nat → List (Option aV) → List aV → Prop} (h : stp l g f Q X pc (.tableswitch d8 lo8 hi8 offs8, n, t, a, b, sw) k z ls st K) (hK : ∀ k z pc ls st, K k z pc ls st → aBs l g f Q X p e R s m args below meth c k z pc ls st) : aBs l g f Q X p e R s m args below meth c k z pc ls st := by
  obtain ⟨⟨hx, hst, hb, hml, hown, hlk, hrt⟩, ⟨hKN, hbs, hold⟩, ⟨hex, hnm, hrk, hho, hhc⟩, hr1, hr2, hr3, hr4, hr5⟩ := hF
  simp only [aOk, aOk2, Bool.and_eq_true, Bool.or_eq_true, decide_eq_true_eq] at hI
  obtain ⟨hd, -, ht, hhi, hrg, hsw⟩ := hI
  rcases st with _ | ⟨x1, st⟩
  · exact False.elim h
  rcases x1 with x1 | x1 | x1 | x1
  · obtain ⟨hxr, h9⟩ := h
    intro hs hl hbd hlen H locs la hR hS hL
    refine W.eq (g2 := F0 m pc la (.int (iZ x1) :: st.map (aC g))) rfl ?_
    obtain ⟨a1, a2⟩ := aSwk_at _ _ _ _ _ _ hsw h9
    have hln : offs8.toList.length = offs8.size := Array.length_toList
    by_cases hq : x1 < lo8 ∨ hi8 < x1
    · refine lv_tableOut (tgt := t) hx hb hd (by rw [iZ_to hxr]; exact hq) ht ?_
      exact hK _ _ _ _ _ (a2 (by omega)) (aLv_tl hs) hl hbd hlen H locs la hR hS hL
    · obtain ⟨o', t', b1, b2, b3⟩ := a1 (x1 - lo8).toNat (by omega) (by omega)
      refine lv_tableIn (off := o') (tgt := t') hx hb hd (by rw [iZ_to hxr]; omega) (by rw [iZ_to hxr]; omega) (by rw [iZ_to hxr, ← Array.getElem?_toList]; exact b1) b2 ?_
      exact hK _ _ _ _ _ b3 (aLv_tl hs) hl hbd hlen H locs la hR hS hL
  · exact False.elim h
  · exact False.elim h
  · exact False.elim h

theorem aRk_1 {r : Option FieldType} (h : aRk r = 1) : r = some .int := by
  unfold aRk at h; split at h <;> first | rfl | cases h
theorem aRk_2 {r : Option FieldType} (h : aRk r = 2) : r = some .boolean := by
  unfold aRk at h; split at h <;> first | rfl | cases h
theorem aRk_3 {r : Option FieldType} (h : aRk r = 3) : r = some .char := by
  unfold aRk at h; split at h <;> first | rfl | cases h
theorem aRk_4 {r : Option FieldType} (h : aRk r = 4) : ∃ n, r = some (.object n) := by
  unfold aRk at h; split at h <;> first | exact ⟨_, rfl⟩ | cases h
theorem aRk_5 {r : Option FieldType} (h : aRk r = 5) : r = some .double := by
  unfold aRk at h; split at h <;> first | rfl | cases h
theorem aRk_6 {r : Option FieldType} (h : aRk r = 6) : r = some .float := by
  unfold aRk at h; split at h <;> first | rfl | cases h
theorem aRk_0 {r : Option FieldType} (h : aRk r = 0) : r = none := by
  unfold aRk at h; split at h <;> first | rfl | cases h
theorem aLq {g : aG} {l : List Loc} {s : State} {H : Heap} (h : va_S (aA g) s.heap H l) : ∀ q ∈ l, aA g q.base := h.2.2
theorem sk_ireturn {l : Launch} {g : aG} {f : aFr} {y o : Nat} {Q : Option aV → aSt → aM → Prop} {X : Nat → aSt → aM → Prop} {p : Program} {e : Env} {R : Room} {s : State} {m : MethodId} {args : Array Value} {below : List Frame} {meth : Method} {c : Code} (hF : aFrm l g f y o p e R s m args below meth c) {pc n t a b : Nat} {sw : List (Int × Nat)}  (hI : aOk y o (aMt y).2.1 pc (.ireturn, n, t, a, b, sw) = true) {k : aK} {z : aM} {ls : List (Option aV)} {st : List aV} {K : aK → aM → Nat → List (Option aV) → List aV → Prop} (h : stp l g f Q X pc (.ireturn, n, t, a, b, sw) k z ls st K) (hK : ∀ k z pc ls st, K k z pc ls st → aBs l g f Q X p e R s m args below meth c k z pc ls st) : aBs l g f Q X p e R s m args below meth c k z pc ls st := by
  obtain ⟨⟨hx, hst, hb, hml, hown, hlk, hrt⟩, ⟨hKN, hbs, hold⟩, ⟨hex, hnm, hrk, hho, hhc⟩, hr1, hr2, hr3, hr4, hr5⟩ := hF
  obtain ⟨hd, rfl, h2⟩ := aOk_d hI (by first | decide | (intro q; cases q))
  rcases st with _ | ⟨x1, st⟩
  · exact False.elim h
  rcases x1 with x1 | x1 | x1 | x1
  · rcases st with _ | ⟨w9, st⟩
    · have h0 := h
      unfold stp at h0
      simp only at h0
      have key : ∀ ty, (aMt y).2.2.2.1 = some ty → narrow ty (.int (iZ x1)) = .int (iZ x1) → Q (some (.inl x1)) k.1 z → aBs l g f Q X p e R s m args below meth c k z pc ls [.inl x1] := by
        intro ty hty hn hq hs hl hbd hlen H locs la hR hS hL
        refine W.widen (k := f.2.1) (n := f.2.2.1) hbd.1 hbd.2 (vx_ret ?_)
        exact W.zret (v := iZ x1) hx hb (hrt.trans hty) hn (fun t ht hW => ⟨some (.inl x1), k.1, z, rfl, fun v hv => by cases hv; trivial, hq, by rw [ht]; exact hR, hS.F ht⟩) hS.2.2 hd hlk
      split at h0
      · next he => exact key .int (aRk_1 (hrk.trans he)) rfl h0
      · next he => exact key .boolean (aRk_2 (hrk.trans he)) (by rcases h0.1 with rfl | rfl <;> rfl) h0.2
      · next he => exact key .char (aRk_3 (hrk.trans he)) (by rw [aNc, Int.emod_eq_of_lt h0.1.1 (by omega)]) h0.2
      · exact False.elim h0
    · exact False.elim h
  · exact False.elim h
  · exact False.elim h
  · exact False.elim h

theorem sk_areturn {l : Launch} {g : aG} {f : aFr} {y o : Nat} {Q : Option aV → aSt → aM → Prop} {X : Nat → aSt → aM → Prop} {p : Program} {e : Env} {R : Room} {s : State} {m : MethodId} {args : Array Value} {below : List Frame} {meth : Method} {c : Code} (hF : aFrm l g f y o p e R s m args below meth c) {pc n t a b : Nat} {sw : List (Int × Nat)}  (hI : aOk y o (aMt y).2.1 pc (.areturn, n, t, a, b, sw) = true) {k : aK} {z : aM} {ls : List (Option aV)} {st : List aV} {K : aK → aM → Nat → List (Option aV) → List aV → Prop} (h : stp l g f Q X pc (.areturn, n, t, a, b, sw) k z ls st K) (hK : ∀ k z pc ls st, K k z pc ls st → aBs l g f Q X p e R s m args below meth c k z pc ls st) : aBs l g f Q X p e R s m args below meth c k z pc ls st := by
  obtain ⟨⟨hx, hst, hb, hml, hown, hlk, hrt⟩, ⟨hKN, hbs, hold⟩, ⟨hex, hnm, hrk, hho, hhc⟩, hr1, hr2, hr3, hr4, hr5⟩ := hF
  obtain ⟨hd, rfl, h2⟩ := aOk_d hI (by first | decide | (intro q; cases q))
  have h0 := h
  unfold stp at h0
  simp only at h0
  split at h0
  · next x1 =>
    rcases hrk9 : Nat.beq f.2.2.2.1 4 with _ | _
    · rw [hrk9] at h0; exact False.elim h0
    rw [hrk9] at h0
    have hre : f.2.2.2.1 = 4 := Nat.eq_of_beq_eq_true hrk9
    intro hs hl hbd hlen H locs la hR hS hL
    refine W.widen (k := f.2.1) (n := f.2.2.1) hbd.1 hbd.2 (vx_ret ?_)
    obtain ⟨nm, hnm9⟩ := aRk_4 (hrk.trans hre)
    exact W.aret (v := .ref (aAd g x1)) hx hb (hrt.trans hnm9) (Or.inl ⟨_, rfl⟩) (Or.inr ⟨_, rfl⟩) (fun t ht hW => ⟨some (.inr (.inr (.inl x1))), k.1, z, rfl, fun v hv => by cases hv; exact hs _ List.mem_cons_self, h0, by rw [ht]; exact hR, hS.F ht⟩) hS.2.2 hd hlk
  · exact False.elim h0

theorem sk_dreturn {l : Launch} {g : aG} {f : aFr} {y o : Nat} {Q : Option aV → aSt → aM → Prop} {X : Nat → aSt → aM → Prop} {p : Program} {e : Env} {R : Room} {s : State} {m : MethodId} {args : Array Value} {below : List Frame} {meth : Method} {c : Code} (hF : aFrm l g f y o p e R s m args below meth c) {pc n t a b : Nat} {sw : List (Int × Nat)}  (hI : aOk y o (aMt y).2.1 pc (.dreturn, n, t, a, b, sw) = true) {k : aK} {z : aM} {ls : List (Option aV)} {st : List aV} {K : aK → aM → Nat → List (Option aV) → List aV → Prop} (h : stp l g f Q X pc (.dreturn, n, t, a, b, sw) k z ls st K) (hK : ∀ k z pc ls st, K k z pc ls st → aBs l g f Q X p e R s m args below meth c k z pc ls st) : aBs l g f Q X p e R s m args below meth c k z pc ls st := by
  obtain ⟨⟨hx, hst, hb, hml, hown, hlk, hrt⟩, ⟨hKN, hbs, hold⟩, ⟨hex, hnm, hrk, hho, hhc⟩, hr1, hr2, hr3, hr4, hr5⟩ := hF
  obtain ⟨hd, rfl, h2⟩ := aOk_d hI (by first | decide | (intro q; cases q))
  have h0 := h
  unfold stp at h0
  simp only at h0
  split at h0
  · next x1 =>
    rcases hrk9 : Nat.beq f.2.2.2.1 5 with _ | _
    · rw [hrk9] at h0; exact False.elim h0
    rw [hrk9] at h0
    have hre : f.2.2.2.1 = 5 := Nat.eq_of_beq_eq_true hrk9
    intro hs hl hbd hlen H locs la hR hS hL
    refine W.widen (k := f.2.1) (n := f.2.2.1) hbd.1 hbd.2 (vx_ret ?_)
    exact W.dret (v := x1) hx hb (hrt.trans (aRk_5 (hrk.trans hre))) (fun t ht hW => ⟨some (.inr (.inr (.inr (.double x1)))), k.1, z, rfl, fun v hv => by cases hv; trivial, h0, by rw [ht]; exact hR, hS.F ht⟩) hS.2.2 hd hlk
  · exact False.elim h0

theorem sk_freturn {l : Launch} {g : aG} {f : aFr} {y o : Nat} {Q : Option aV → aSt → aM → Prop} {X : Nat → aSt → aM → Prop} {p : Program} {e : Env} {R : Room} {s : State} {m : MethodId} {args : Array Value} {below : List Frame} {meth : Method} {c : Code} (hF : aFrm l g f y o p e R s m args below meth c) {pc n t a b : Nat} {sw : List (Int × Nat)}  (hI : aOk y o (aMt y).2.1 pc (.freturn, n, t, a, b, sw) = true) {k : aK} {z : aM} {ls : List (Option aV)} {st : List aV} {K : aK → aM → Nat → List (Option aV) → List aV → Prop} (h : stp l g f Q X pc (.freturn, n, t, a, b, sw) k z ls st K) (hK : ∀ k z pc ls st, K k z pc ls st → aBs l g f Q X p e R s m args below meth c k z pc ls st) : aBs l g f Q X p e R s m args below meth c k z pc ls st := by
  obtain ⟨⟨hx, hst, hb, hml, hown, hlk, hrt⟩, ⟨hKN, hbs, hold⟩, ⟨hex, hnm, hrk, hho, hhc⟩, hr1, hr2, hr3, hr4, hr5⟩ := hF
  obtain ⟨hd, rfl, h2⟩ := aOk_d hI (by first | decide | (intro q; cases q))
  have h0 := h
  unfold stp at h0
  simp only at h0
  split at h0
  · next x1 =>
    rcases hrk9 : Nat.beq f.2.2.2.1 6 with _ | _
    · rw [hrk9] at h0; exact False.elim h0
    rw [hrk9] at h0
    have hre : f.2.2.2.1 = 6 := Nat.eq_of_beq_eq_true hrk9
    intro hs hl hbd hlen H locs la hR hS hL
    refine W.widen (k := f.2.1) (n := f.2.2.1) hbd.1 hbd.2 (vx_ret ?_)
    exact W.fret (v := x1) hx hb (hrt.trans (aRk_6 (hrk.trans hre))) (fun t ht hW => ⟨some (.inr (.inr (.inr (.float x1)))), k.1, z, rfl, fun v hv => by cases hv; trivial, h0, by rw [ht]; exact hR, hS.F ht⟩) hS.2.2 hd hlk
  · exact False.elim h0

theorem sk_return_ {l : Launch} {g : aG} {f : aFr} {y o : Nat} {Q : Option aV → aSt → aM → Prop} {X : Nat → aSt → aM → Prop} {p : Program} {e : Env} {R : Room} {s : State} {m : MethodId} {args : Array Value} {below : List Frame} {meth : Method} {c : Code} (hF : aFrm l g f y o p e R s m args below meth c) {pc n t a b : Nat} {sw : List (Int × Nat)}  (hI : aOk y o (aMt y).2.1 pc (.return_, n, t, a, b, sw) = true) {k : aK} {z : aM} {ls : List (Option aV)} {st : List aV} {K : aK → aM → Nat → List (Option aV) → List aV → Prop} (h : stp l g f Q X pc (.return_, n, t, a, b, sw) k z ls st K) (hK : ∀ k z pc ls st, K k z pc ls st → aBs l g f Q X p e R s m args below meth c k z pc ls st) : aBs l g f Q X p e R s m args below meth c k z pc ls st := by
  obtain ⟨⟨hx, hst, hb, hml, hown, hlk, hrt⟩, ⟨hKN, hbs, hold⟩, ⟨hex, hnm, hrk, hho, hhc⟩, hr1, hr2, hr3, hr4, hr5⟩ := hF
  obtain ⟨hd, rfl, h2⟩ := aOk_d hI (by first | decide | (intro q; cases q))
  have h0 := h
  unfold stp at h0
  simp only at h0
  split at h0
  · skip
    rcases hrk9 : Nat.beq f.2.2.2.1 0 with _ | _
    · rw [hrk9] at h0; exact False.elim h0
    rw [hrk9] at h0
    have hre : f.2.2.2.1 = 0 := Nat.eq_of_beq_eq_true hrk9
    intro hs hl hbd hlen H locs la hR hS hL
    refine W.widen (k := f.2.1) (n := f.2.2.1) hbd.1 hbd.2 (vx_ret ?_)
    exact W.vret hx hb (hrt.trans (aRk_0 (hrk.trans hre))) (fun t ht hW => ⟨none, k.1, z, rfl, fun v hv => (by cases hv), h0, by rw [ht]; exact hR, hS.F ht⟩) hS.2.2 hd hlk
  · exact False.elim h0
end
section
/-! THE JVM KEEPS TO THE STEP: new things, Math, arraycopy (heads printed by wip/whole/sound5.py) -/
theorem aSm_w {g : aG} {st : List aV} (h : aSml st = true) : ((st.map (aC g)).map fun v => v.category).sum ≤ 8 := by
  have hl : st.length ≤ 4 := Nat.le_of_ble_eq_true h
  have key : ∀ l : List aV, ((l.map (aC g)).map fun v => v.category).sum ≤ 2 * l.length := by
    intro l
    induction l with
    | nil => simp
    | cons v l ih =>
      simp only [List.map_cons, List.sum_cons, List.length_cons]
      have hv : (aC g v).category ≤ 2 := by rw [aC_cat]; split <;> omega
      simp only [List.map_map] at ih ⊢
      omega
  have := key st
  omega
theorem aPc_w {q : Nat × Nat × Nat} (h : q ∈ aPcs) : (Cond.classLink (aRn q.1) q.2.1 (aRn q.2.2) ∈ lw_tbl ∧ aWarm (Cond.classLink (aRn q.1) q.2.1 (aRn q.2.2)) = true) ∧ (Cond.instantiable (aRn q.2.2) (aFl q.2.2).length ∈ lw_tbl ∧ aWarm (Cond.instantiable (aRn q.2.2) (aFl q.2.2).length) = true) ∧ (Cond.initialized (aRn q.2.2) ∈ lw_tbl ∧ aWarm (Cond.initialized (aRn q.2.2)) = true) := by
  have h1 := List.all_eq_true.mp aPcs_ok q h
  simp only [aIn, Bool.and_eq_true, decide_eq_true_eq] at h1
  exact ⟨h1.1.1, h1.1.2, h1.2⟩
theorem aPm_w {q : Nat × Nat × Nat × Nat} (h : q ∈ aPms) {w : Cond} (hw : w ∈ aPmW q) {g : aG} {s : State} (hK : aKN g s) (args : Array Value) : w.before args s = true := hK.w ((aPms_in q h).1 w hw).1 ((aPms_in q h).1 w hw).2 args
/-- memory and heap after a new thing -/
theorem aRep.push {g : aG} {n : Nat} {r : aP → Int → Bool} {z : aM} {H H1 : Heap} {p : aP} (hR : aRep g (some (n, r)) z H) (hp : aAll[aOff p]? = some p) (ho : aOff p = n) (hsz : H1.size = H.size + 1) (hq : ∀ q : Nat, q < H.size → H1[q]? = H[q]?) (he : va_at g.1 aCl (aAd g p, aCe g (some (n + 1, aBf r p)) (aZr z p) p) H1) : aRep g (some (n + 1, aBf r p)) (aZr z p) H1 := by
  obtain ⟨h1, h2, ⟨h3, h3'⟩, h4, h5⟩ := id hR
  have hn : n < 320 := by have := (aOkp hp).1; omega
  have hne : ∀ i : Nat, i < n → aAll.getD i (0, 0, 0) ≠ p := by
    intro i hi e
    have := (aAll_off i (by omega)).1
    rw [e, ho] at this
    omega
  have hce : ∀ q : aP, q ≠ p → aCe g (some (n + 1, aBf r p)) (aZr z p) q = aCe g (some (n, r)) z q := by
    intro q hqp
    have e1 : (aZr z p) q = z q := by funext j; unfold aZr; rw [if_neg hqp]
    have e2 : ∀ j, aBf r p q j = r q j := fun j => by unfold aBf; rw [if_neg hqp]
    unfold aCe aFv aAr aRv
    simp only [e1, e2]
  have hws : aWs g (some (n + 1, aBf r p)) (aZr z p) = aWs g (some (n, r)) z ++ [(aAd g p, aCe g (some (n + 1, aBf r p)) (aZr z p) p)] := by
    unfold aWs
    show (List.range (n + 1)).map _ = (List.range n).map _ ++ _
    rw [List.range_succ, List.map_append]
    congr 1
    · refine List.map_congr_left (fun i hi => ?_)
      rw [hce _ (hne i (List.mem_range.mp hi))]
    · simp only [List.map_cons, List.map_nil]
      rw [aAd_of (aOkp hp).2.2, ho, ← ho, (aOkp hp).2.1]
  refine ⟨?_, fun q hq2 => ?_, ⟨by rw [hsz, h3]; omega, by omega⟩, by omega, ?_⟩
  · rw [hws]
    refine (h1.kept (fun k q hk => hq q.1 (h1 k q hk).lt)).app (fun k q hk => ?_)
    have hz : k < 1 := (List.getElem?_eq_some_iff.mp hk).1
    rw [show k = 0 by omega] at hk
    cases hk
    exact he
  · rw [hq q (by omega)]
    exact h2 q hq2
  · obtain ⟨scr, a1, a2, a3⟩ := h5
    refine ⟨scr, a1, a2, fun j hj => ?_⟩
    have e : aZr z p (31, 0, 0) (j : Int) = z (31, 0, 0) (j : Int) := by unfold aZr; rw [if_neg (aLk_31 hp)]
    rw [e]
    exact a3 j hj
theorem aSpush {g : aG} {s : State} {H H1 : Heap} {locs : List Loc} (hS : va_S (aA g) s.heap H locs) (hsz : H1.size = H.size + 1) (hq : ∀ q : Nat, q < H.size → H1[q]? = H[q]?) : va_S (aA g) s.heap H1 locs :=
  ⟨by have := hS.1; omega, fun q h1 h2 => (hq q (Nat.lt_of_lt_of_le h1 hS.1)).trans (hS.2.1 q h1 h2), hS.2.2⟩
theorem aLv_up {n : Nat} {r r' : aP → Int → Bool} {v : aV} (h : aLv (some (n, r)) v) : aLv (some (n + 1, r')) v := by
  rcases v with v | v | v | v
  · trivial
  · trivial
  · rcases h with h | h
    · exact Or.inl ⟨h.1, Nat.lt_succ_of_lt h.2⟩
    · exact Or.inr h
  · trivial
theorem aRv_new {g : aG} {n : Nat} {r : aP → Int → Bool} {p : aP} {k : Int} : aRv g (some (n, aBf r p)) p k = none := by
  have e : aBf r p p k = false := by unfold aBf; rw [if_pos rfl]
  show (if aBf r p p k = true then some (aAd g (aRf p k)) else none) = none
  rw [e]
  rfl
theorem aLv_new {n : Nat} {r' : aP → Int → Bool} {p : aP} (hp : aAll[aOff p]? = some p) (ho : aOff p = n) : aLv (some (n + 1, r')) (.inr (.inr (.inl p))) := Or.inl ⟨hp, by show aOff p < n + 1; omega⟩
theorem aFl_k : ∀ ci : Nat, ci < 8 → ∀ k : Nat, k < (aFl ci).length → (aFl ci)[k]? ≠ some 2 → (aFl ci)[k]? = some 0 ∨ (aFl ci)[k]? = some 1 := by decide +kernel
theorem sk_newO {l : Launch} {g : aG} {f : aFr} {y o : Nat} {Q : Option aV → aSt → aM → Prop} {X : Nat → aSt → aM → Prop} {p : Program} {e : Env} {R : Room} {s : State} {m : MethodId} {args : Array Value} {below : List Frame} {meth : Method} {c : Code} (hF : aFrm l g f y o p e R s m args below meth c) {pc n t a b : Nat} {sw : List (Int × Nat)} {i8 : Nat} (ha : a ≠ 100) (hI : aOk y o (aMt y).2.1 pc (.new i8, n, t, a, b, sw) = true) {k : aK} {z : aM} {ls : List (Option aV)} {st : List aV} {K : aK → aM → Nat → List (Option aV) → List aV → Prop} (h : stp l g f Q X pc (.new i8, n, t, a, b, sw) k z ls st K) (hK : ∀ k z pc ls st, K k z pc ls st → aBs l g f Q X p e R s m args below meth c k z pc ls st) : aBs l g f Q X p e R s m args below meth c k z pc ls st := by
  obtain ⟨⟨hx, hst, hb, hml, hown, hlk, hrt⟩, ⟨hKN, hbs, hold⟩, ⟨hex, hnm, hrk, hho, hhc⟩, hr1, hr2, hr3, hr4, hr5⟩ := hF
  obtain ⟨hd, rfl, h2⟩ := aOk_d hI (by first | decide | (intro q; cases q))
  have h0 := h
  unfold stp at h0
  simp only at h0
  have hbq : Nat.beq a 100 = false := by
    rcases hq : Nat.beq a 100 with _ | _
    · rfl
    · exact absurd (Nat.eq_of_beq_eq_true hq) ha
  rw [hbq] at h0
  simp only [aOk2, if_neg ha, decide_eq_true_eq] at h2
  obtain ⟨sta, u9, v9⟩ := k
  rcases sta with _ | ⟨cnt, r⟩
  · exact False.elim h0
  obtain ⟨q1, ⟨⟨ho, hp⟩, hsh, hb1, hb2⟩, h9⟩ := h0
  have hc8 := aSh_o hp hsh
  obtain ⟨w1, w2, w3⟩ := aPc_w h2
  intro hs hl hbd hlen H locs la hR hS hL
  have hKn := hKN.2.1.1 a _ (aCl_at a hc8)
  refine W.newcK (g := F0 m pc la (st.map (aC g))) hx hb hown (hKN.w w1.1 w1.2 args) (hKN.w w2.1 w2.2 args) (hKN.w w3.1 w3.2 args) rfl hd (Nat.le_trans hb1 hr2) (Nat.le_trans hb2 hr3) hKn.2.1 (h := H.size) rfl (fun H1 kC hkC e1 e2 e3 => ?_)
  have had : aAd g q1 = H.size := by rw [aAd_of (aOkp hp).2.2, ho]; exact hR.2.2.1.1.symm
  have hRn : aRep g (some (cnt + 1, aBf r q1)) (aZr z q1) H1 := by
    refine hR.push hp ho e2 e3 ?_
    rw [aCe_o hsh]
    refine ⟨_, aCl_at a hc8, (u_born (aTy a) (aHts (args := args) hKN hc8) (fun w hw => hw) hKn hkC (by rw [had]; exact e1) (aTy_ok a hc8)).to (fun j hj => ?_)⟩
    show defaultValue (aTy a j) = vp_V _ j
    have hj9 := aFs_at (g := g) (s := some (cnt + 1, aBf r q1)) (z := aZr z q1) (p := q1) hj
    have hv9 : vp_V ((List.range (aFl a).length).map (aFv g (some (cnt + 1, aBf r q1)) (aZr z q1) q1 a)) j = aFv g (some (cnt + 1, aBf r q1)) (aZr z q1) q1 a j := by
      unfold vp_V
      rw [List.getD_eq_getElem?_getD, hj9]
      rfl
    rw [hv9]
    have hj21 : j < 21 := Nat.lt_of_lt_of_le hj (aFl_21 a hc8)
    obtain ⟨t0, t1, t2⟩ := aTy_k a hc8 j hj21
    unfold aFv
    by_cases hf2 : (aFl a)[j]? = some 2
    · rw [if_pos hf2]
      have hrv : aRv g (some (cnt + 1, aBf r q1)) q1 (j : Int) = none := aRv_new
      rw [hrv]
      have := t2 hf2
      revert this
      cases aTy a j <;> intro hq <;> first | rfl | cases hq
    · rw [if_neg hf2]
      have hz9 : aZr z q1 q1 (j : Int) = 0 := by unfold aZr; rw [if_pos rfl]
      rw [hz9]
      have hcase : (aFl a)[j]? = some 0 ∨ (aFl a)[j]? = some 1 := aFl_k a hc8 j hj hf2
      rcases hcase with hq | hq
      · rw [t0 hq]; rfl
      · rw [t1 hq]; rfl
  have h99 := hK _ _ _ _ _ h9 (aLv_c (aLv_new hp ho) (fun v hv => aLv_up (hs v hv))) (fun v hv => aLv_up (hl v hv)) ⟨hb1, hb2⟩ hlen H1 locs la hRn (aSpush hS e2 e3) hL
  have h98 := h99
  show W p l e R s m args below meth c H1 locs _ _ _ (F0 m (pc + 3) la (.ref H.size :: st.map (aC g)))
  rw [← had]
  exact h98

theorem sk_newarray {l : Launch} {g : aG} {f : aFr} {y o : Nat} {Q : Option aV → aSt → aM → Prop} {X : Nat → aSt → aM → Prop} {p : Program} {e : Env} {R : Room} {s : State} {m : MethodId} {args : Array Value} {below : List Frame} {meth : Method} {c : Code} (hF : aFrm l g f y o p e R s m args below meth c) {pc n t a b : Nat} {sw : List (Int × Nat)} {ty8 : ArrayType} (hI : aOk y o (aMt y).2.1 pc (.newarray ty8, n, t, a, b, sw) = true) {k : aK} {z : aM} {ls : List (Option aV)} {st : List aV} {K : aK → aM → Nat → List (Option aV) → List aV → Prop} (h : stp l g f Q X pc (.newarray ty8, n, t, a, b, sw) k z ls st K) (hK : ∀ k z pc ls st, K k z pc ls st → aBs l g f Q X p e R s m args below meth c k z pc ls st) : aBs l g f Q X p e R s m args below meth c k z pc ls st := by
  obtain ⟨⟨hx, hst, hb, hml, hown, hlk, hrt⟩, ⟨hKN, hbs, hold⟩, ⟨hex, hnm, hrk, hho, hhc⟩, hr1, hr2, hr3, hr4, hr5⟩ := hF
  obtain ⟨hd, rfl, h2⟩ := aOk_d hI (by first | decide | (intro q; cases q))
  rcases st with _ | ⟨m1, st⟩
  · exact False.elim h
  rcases m1 with m1 | m1 | m1 | m1
  · have h0 := h
    unfold stp at h0
    simp only at h0
    obtain ⟨sta, u9, v9⟩ := k
    rcases sta with _ | ⟨cnt, r⟩
    · exact False.elim h0
    simp only at h0
    obtain ⟨q1, ⟨⟨ho, hp⟩, hsh, hb1, hb2⟩, h9⟩ := h0
    have hb9 := aSh_r hp hsh
    simp only [aOk2, aIn, Bool.and_eq_true, decide_eq_true_eq] at h2
    intro hs hl hbd hlen H locs la hR hS hL
    refine W.eq (g2 := F0 m pc la (.int (iZ m1) :: st.map (aC g))) rfl ?_
    have had : aAd g q1 = H.size := by rw [aAd_of (aOkp hp).2.2, ho]; exact hR.2.2.1.1.symm
    have hm0 : ¬ iZ m1 < 0 := by rw [← iZ_0, iZ_lt ⟨by omega, by omega⟩ ⟨by omega, by omega⟩]; omega
    have hcl := iZ_cl (x := m1) hb9.2.1 (by omega)
    have key : ∀ (ty : Nat) (t : FieldType) (dv : Value), newarray.typeOf ty8 = t → aSh q1 = .inr (ty, m1) → (aTyl g)[ty]? = some (g.2.1 ty, t) → (∀ cA, va_RA s cA t → s.vm.findClass ("[" ++ t.toString) = some cA) → defaultValue t = dv → (∀ j, aAv g (some (cnt + 1, aBf r q1)) (aZr z q1) q1 ty j = dv) → componentBytes t ≤ 8 → W p l e R s m args below meth c H locs u9 v9 (vx_MQ below (aQ g Q) (aX g X) args s f.2.1 f.2.2.1 (aA g)) (F0 m pc la (.int (iZ m1) :: st.map (aC g))) := by
      intro ty t dv hty hsh2 htl hra hdv hav hcb
      refine W.newa hx hb (hKN.w h2.1 h2.2 args) (g := F0 m pc la (.int (iZ m1) :: st.map (aC g))) rfl hd rfl hm0 (by rw [hcl, hty]; have := Nat.mul_le_mul (show m1.toNat ≤ 2000 by omega) hcb; omega) (Nat.le_trans hb1 hr2) (by rw [hcl]; exact Nat.le_trans hb2 hr3) (fun cA kA comp f1 f2 f3 => ?_)
      rw [hty] at f1 ⊢
      have hcA : cA = g.2.1 ty := Option.some.inj (f1.symm.trans (hra _ (hKN.2.1.2 ty _ htl).2))
      subst hcA
      generalize hH1 : H.push ({ cls := g.2.1 ty, slots := Array.replicate (iZ m1).toNatClampNeg (defaultValue t), vm := .none } : Cell) = H1
      have e2 : H1.size = H.size + 1 := by rw [← hH1, Array.size_push]
      have e1 : H1[H.size]? = some (arrV (g.2.1 ty) m1.toNat (fun _ => dv)) := by rw [← hH1, Array.getElem?_push_size, arrV_new, hcl, hdv]
      have e3 : ∀ q : Nat, q < H.size → H1[q]? = H[q]? := fun q hq => by rw [← hH1, Array.getElem?_push, if_neg (Nat.ne_of_lt hq)]
      have hRn : aRep g (some (cnt + 1, aBf r q1)) (aZr z q1) H1 := by
        refine hR.push hp ho e2 e3 ((aVp hsh2).mpr ?_)
        rw [had, e1]
        congr 2
        funext j
        exact (hav j).symm
      have h98 := hK _ _ _ _ _ h9 (aLv_c (aLv_new hp ho) (fun v hv => aLv_up (aLv_tl hs v hv))) (fun v hv => aLv_up (hl v hv)) ⟨hb1, hb2⟩ hlen H1 locs la hRn (aSpush hS e2 e3) hL
      refine W.cs (cells' := u9 + 1) (slots' := v9 + m1.toNat) rfl (by rw [hcl]) ?_
      show W p l e R s m args below meth c H1 locs _ _ _ (F0 m (pc + 2) la (.ref H.size :: st.map (aC g)))
      rw [← had]
      exact h98
    have hz9 : ∀ j, aZr z q1 q1 j = 0 := fun j => by unfold aZr; rw [if_pos rfl]
    cases ty8 with
    | int => exact key 0 .int (.int 0) rfl hsh rfl (fun _ h => h) rfl (fun j => by unfold aAv; rw [hz9]; rfl) (by decide)
    | char => exact key 1 .char (.int 0) rfl hsh rfl (fun _ h => h) rfl (fun j => by unfold aAv; rw [hz9]; rfl) (by decide)
    | long => exact key 4 .long (.long 0) rfl hsh rfl (fun _ h => h) rfl (fun j => by unfold aAv; rw [hz9]; rfl) (by decide)
    | double => exact key 5 .double (.double 0) rfl hsh rfl (fun _ h => h) rfl (fun j => by unfold aAv; rw [hz9]; rfl) (by decide)
    | _ => exact absurd hb9.1 (by decide)
  · exact False.elim h
  · exact False.elim h
  · exact False.elim h

theorem sk_anewarray {l : Launch} {g : aG} {f : aFr} {y o : Nat} {Q : Option aV → aSt → aM → Prop} {X : Nat → aSt → aM → Prop} {p : Program} {e : Env} {R : Room} {s : State} {m : MethodId} {args : Array Value} {below : List Frame} {meth : Method} {c : Code} (hF : aFrm l g f y o p e R s m args below meth c) {pc n t a b : Nat} {sw : List (Int × Nat)} {i8 : Nat} (hI : aOk y o (aMt y).2.1 pc (.anewarray i8, n, t, a, b, sw) = true) {k : aK} {z : aM} {ls : List (Option aV)} {st : List aV} {K : aK → aM → Nat → List (Option aV) → List aV → Prop} (h : stp l g f Q X pc (.anewarray i8, n, t, a, b, sw) k z ls st K) (hK : ∀ k z pc ls st, K k z pc ls st → aBs l g f Q X p e R s m args below meth c k z pc ls st) : aBs l g f Q X p e R s m args below meth c k z pc ls st := by
  obtain ⟨⟨hx, hst, hb, hml, hown, hlk, hrt⟩, ⟨hKN, hbs, hold⟩, ⟨hex, hnm, hrk, hho, hhc⟩, hr1, hr2, hr3, hr4, hr5⟩ := hF
  obtain ⟨hd, rfl, h2⟩ := aOk_d hI (by first | decide | (intro q; cases q))
  rcases st with _ | ⟨m1, st⟩
  · exact False.elim h
  rcases m1 with m1 | m1 | m1 | m1
  · have h0 := h
    unfold stp at h0
    simp only at h0
    obtain ⟨sta, u9, v9⟩ := k
    rcases sta with _ | ⟨cnt, r⟩
    · exact False.elim h0
    simp only at h0
    obtain ⟨q1, ⟨⟨ho, hp⟩, hsh, hb1, hb2⟩, h9⟩ := h0
    have hb9 := aSh_r hp hsh
    simp only [aOk2, Bool.and_eq_true, decide_eq_true_eq] at h2
    obtain ⟨h2, ha45⟩ := h2
    obtain ⟨w1, w2, w3⟩ := aPc_w h2
    intro hs hl hbd hlen H locs la hR hS hL
    refine W.eq (g2 := F0 m pc la (.int (iZ m1) :: st.map (aC g))) rfl ?_
    have had : aAd g q1 = H.size := by rw [aAd_of (aOkp hp).2.2, ho]; exact hR.2.2.1.1.symm
    have hm0 : ¬ iZ m1 < 0 := by rw [← iZ_0, iZ_lt ⟨by omega, by omega⟩ ⟨by omega, by omega⟩]; omega
    have hcl := iZ_cl (x := m1) hb9.2.1 (by omega)
    have key : ∀ (ty : Nat), (ty = 2 ∨ ty = 3) → aSh q1 = .inr (ty, m1) → (aTyl g)[ty]? = some (g.2.1 ty, .object (aRn a)) → va_AO (aRn a) s → W p l e R s m args below meth c H locs u9 v9 (vx_MQ below (aQ g Q) (aX g X) args s f.2.1 f.2.2.1 (aA g)) (F0 m pc la (.int (iZ m1) :: st.map (aC g))) := by
      intro ty hty hsh2 htl hao
      refine W.anew hx hb hown (hKN.w w1.1 w1.2 args) (va_AO.use hao) (g := F0 m pc la (.int (iZ m1) :: st.map (aC g))) rfl hd rfl hm0 (by rw [hcl]; omega) (Nat.le_trans hb1 hr2) (by rw [hcl]; exact Nat.le_trans hb2 hr3) (fun cA kA comp f1 f2 f3 f4 => ?_)
      have hra := (hKN.2.1.2 ty _ htl).2
      obtain ⟨kA', comp', r1, r2, r3, r4⟩ := hra
      have hcA : cA = g.2.1 ty := Option.some.inj (f1.symm.trans r4)
      subst hcA
      generalize hH1 : H.push ({ cls := g.2.1 ty, slots := Array.replicate (iZ m1).toNatClampNeg .null, vm := .none } : Cell) = H1
      have e2 : H1.size = H.size + 1 := by rw [← hH1, Array.size_push]
      have e1 : H1[H.size]? = some (arrV (g.2.1 ty) m1.toNat (fun _ => .null)) := by rw [← hH1, Array.getElem?_push_size, arrV_new, hcl]
      have e3 : ∀ q : Nat, q < H.size → H1[q]? = H[q]? := fun q hq => by rw [← hH1, Array.getElem?_push, if_neg (Nat.ne_of_lt hq)]
      have hav : ∀ j, aAv g (some (cnt + 1, aBf r q1)) (aZr z q1) q1 ty j = .null := by
        intro j
        have hrv : aRv g (some (cnt + 1, aBf r q1)) q1 (j : Int) = none := aRv_new
        rcases hty with rfl | rfl
        · show va_rf _ = _
          rw [hrv]; rfl
        · show va_rf _ = _
          rw [hrv]; rfl
      have hRn : aRep g (some (cnt + 1, aBf r q1)) (aZr z q1) H1 := by
        refine hR.push hp ho e2 e3 ((aVp hsh2).mpr ?_)
        rw [had, e1]
        congr 2
        funext j
        exact (hav j).symm
      have h98 := hK _ _ _ _ _ h9 (aLv_c (aLv_new hp ho) (fun v hv => aLv_up (aLv_tl hs v hv))) (fun v hv => aLv_up (hl v hv)) ⟨hb1, hb2⟩ hlen H1 locs la hRn (aSpush hS e2 e3) hL
      refine W.cs (cells' := u9 + 1) (slots' := v9 + m1.toNat) rfl (by rw [hcl]) ?_
      show W p l e R s m args below meth c H1 locs _ _ _ (F0 m (pc + 3) la (.ref H.size :: st.map (aC g)))
      rw [← had]
      exact h98
    rcases ha45 with rfl | rfl
    · exact key 2 (Or.inl rfl) hsh rfl hKN.2.2.1
    · exact key 3 (Or.inr rfl) hsh rfl hKN.2.2.2.1
  · exact False.elim h
  · exact False.elim h
  · exact False.elim h
end
section
/-! THE JVM KEEPS TO THE STEP: calls -/
theorem aKN.warm {g : aG} {s U : State} (hW : s.WarmedH U.vm) (h : aKN g s) : aKN g U := by
  obtain ⟨h1, h2, h3, h4, h5, h6, h7, h8, h9, ⟨t1, t2, t3⟩, scr, h10, h11, h12⟩ := h
  refine ⟨fun w hm ha => ?_, h2.moved hW.alike, h3.moved hW.alike, h4.moved hW.alike, fun q hq => ?_, fun k q hq => (h6 k q hq).warm hW, h7.moved hW.alike, h8.moved hW.alike, fun x y hx hy hne => (h9 x y hx hy hne).moved hW.alike, ⟨t1.moved hW.alike, t2.moved hW.alike, t3.moved hW.alike⟩, scr, h10, State.isArrayOf_alike hW.alike h11, h12⟩
  · have hb := h1 w hm ha
    by_cases hg : goodWord w = true
    · exact word_at hW (good_of_word hg) hb
    · unfold aWarm at ha
      rw [Bool.or_eq_true] at ha
      rcases ha with ha | ha
      · exact absurd ha hg
      · split at ha
        · exact va_Nw.warmC hW hb
        · exact va_Nw.warmD hW hb
        · exact va_Nw.warmM hW hb
        · cases ha
  · obtain ⟨a, ha⟩ := h5 q hq
    exact ⟨a, ha.warm hW⟩
theorem aU_blind {g : aG} {s : aSt} {z : aM} {av : List Value} : FrameBlind (va_Pc av (aU g s z)) := fun _ U _ _ h => ⟨h.1, h.2.1, h.2.2.warm (s := U) (State.WarmedH.refl U)⟩
theorem aPop_s : ∀ (n : Nat) (acc st : List aV) (c : List aV → List aV → Prop), aPop n acc st c → ∃ ws rest, st = ws ++ rest ∧ ws.length = n ∧ c (ws.reverse ++ acc) rest
  | 0, acc, st, c, h => ⟨[], st, rfl, rfl, h⟩
  | n + 1, acc, [], c, h => h.elim
  | n + 1, acc, v :: st, c, h => by
    obtain ⟨ws, rest, h1, h2, h3⟩ := aPop_s n (v :: acc) st c h
    refine ⟨v :: ws, rest, by rw [h1]; rfl, by simp [h2], ?_⟩
    simpa using h3
theorem aPu_s {r : Option aV} {rest : List aV} {c : List aV → Prop} (h : aPu r rest c) : c (r.toList ++ rest) := by
  cases r with
  | none => exact h
  | some v => exact h
theorem aHnd_s {pc x : Nat} {kk : Nat → Prop} {o : Prop} : ∀ hs : List (Nat × Nat × Nat × Nat), aHnd hs pc x kk o →
    (∃ pre a b h c suf, hs = pre ++ (a, b, h, c) :: suf ∧ (∀ q ∈ pre, ¬ ((q.1 ≤ pc ∧ pc < q.2.1) ∧ aCx q.2.2.2 = x)) ∧ ((a ≤ pc ∧ pc < b) ∧ aCx c = x) ∧ kk h) ∨ ((∀ q ∈ hs, ¬ ((q.1 ≤ pc ∧ pc < q.2.1) ∧ aCx q.2.2.2 = x)) ∧ o)
  | [], h => Or.inr ⟨fun q hq => (by cases hq), h⟩
  | (a, b, hp, c) :: r, h => by
    have h0 : (match Nat.ble a pc && (Nat.blt pc b && Nat.beq (aCx c) x) with
      | true => kk hp
      | false => aHnd r pc x kk o) := h
    rcases hq : (Nat.ble a pc && (Nat.blt pc b && Nat.beq (aCx c) x)) with _ | _
    · rw [hq] at h0
      have hn : ¬ ((a ≤ pc ∧ pc < b) ∧ aCx c = x) := by
        intro ⟨⟨q1, q2⟩, q3⟩
        have e1 : Nat.ble a pc = true := Nat.ble_eq.mpr q1
        have e2 : Nat.blt pc b = true := Nat.blt_eq.mpr q2
        have e3 : Nat.beq (aCx c) x = true := Nat.beq_eq.mpr q3
        rw [e1, e2, e3] at hq
        cases hq
      rcases aHnd_s r h0 with ⟨pre, a', b', h', c', suf, e1, e2, e3, e4⟩ | ⟨e1, e2⟩
      · exact Or.inl ⟨(a, b, hp, c) :: pre, a', b', h', c', suf, by rw [e1]; rfl, fun q hq => (List.mem_cons.mp hq).elim (fun e => by rw [e]; exact hn) (e2 q), e3, e4⟩
      · exact Or.inr ⟨fun q hq => (List.mem_cons.mp hq).elim (fun e => by rw [e]; exact hn) (e1 q), e2⟩
    · rw [hq] at h0
      simp only [Bool.and_eq_true] at hq
      exact Or.inl ⟨[], a, b, hp, c, r, rfl, fun q hq => (by cases hq), ⟨⟨Nat.ble_eq.mp hq.1, Nat.blt_eq.mp hq.2.1⟩, Nat.beq_eq.mp hq.2.2⟩, h0⟩
section AGO
variable {p : Program} {l : Launch} {e : Env} {R : Room} {s : State} {m : MethodId} {args : Array Value} {below : List Frame} {meth : Method} {c : Code} {H : Heap} {locs : List Loc} {u v : Nat} {Z : State → Prop} {g : aG}
/-- behind a call that may throw -/
theorem aGo {mc ms pc : Nat} {la : Array Slot} {st0 rest : List Value} {Q : Option aV → aSt → aM → Prop} {X : Nat → aSt → aM → Prop} {a : Array Value} (hr : vx_Run p l e R s m args below meth c H locs u v mc ms (F0 m pc la st0) rest (aQ g Q a) (aX g X) (aA g)) (hS : va_S (aA g) s.heap H locs)
    (hret : ∀ (r : Option aV) (s' : aSt) (z' : aM) (H1 : Heap) (locs1 : List Loc), (∀ v, r = some v → aLv s' v) → Q r s' z' → aRep g s' z' H1 → va_S (aA g) s.heap H1 locs1 → W p l e R s m args below meth c H1 locs1 (u + mc) (v + ms) Z (F0 m (pc + 3) la ((r.map (aC g)).toList ++ rest)))
    (hthr : ∀ (x : Nat) (s' : aSt) (z' : aM) (H1 : Heap) (locs1 : List Loc) (q : Addr) (ce : Cell), x < 6 → X x s' z' → aRep g s' z' H1 → va_S (aA g) s.heap H1 locs1 → H1[q]? = some ce → ce.vm = .none → s.vm.findClass (aEx.getD x "") = some ce.cls → vx_W p l e R s m args below meth c H1 locs1 (u + mc) (v + ms) Z (F0 m pc la rest) q) :
    W p l e R s m args below meth c H locs u v Z (F0 m pc la st0) := by
  intro T hT X0
  rcases hr T hT X0 with ⟨w, st₀, t, T', L, h0, X', hL, e1, e2, hq, st⟩ | ⟨q, st₀, t, T', L, E, ce, h0, X', hL, e1, e2, hx, hce, hcv, hcl, st⟩
  · obtain ⟨r, s', z', k1, k2, k3, k4, k5⟩ := hq
    cases k1
    obtain ⟨-, -, hS'⟩ := vx_keep h0 e1 hS (fun _ _ h => h) (fun _ h => h) hL k5
    obtain ⟨t2, a1, b1⟩ := hret r s' z' T'.heap (locs ++ L) k2 k3 (by rw [e1]; exact k4) hS' T' rfl X'
    exact ⟨t2, st t2 a1, b1⟩
  · obtain ⟨x, s', z', k1, k2, k3, k4, k5⟩ := hx
    subst k2
    obtain ⟨-, -, hS'⟩ := vx_keep h0 e1 hS (fun _ _ h => h) (fun _ h => h) hL k5
    obtain ⟨t2, a1, b1⟩ := hthr x s' z' T'.heap (locs ++ L) q ce k1 k3 (by rw [e1]; exact k4) hS' (by rw [e1]; exact hce) hcv hcl T' rfl X'
    exact ⟨t2, st.trans a1, b1⟩
end AGO
theorem aPms_cl_at {q : Nat × Nat × Nat × Nat} (h : q ∈ aPms) : (q.2.2.1 = 0 → aRn (aMc q.2.2.2) = (aMt q.2.2.2).1.cls ∧ aMc q.2.2.2 < 8) ∧ (q.2.2.1 = 0 ∨ q.2.2.1 = 3 ∨ q.2.2.1 = 4 ∨ q.2.2.1 = 5 → (aMt q.2.2.2).2.2.2.2 = []) := by
  have h1 := List.all_eq_true.mp aPms_cl q h
  simp only [Bool.and_eq_true, decide_eq_true_eq] at h1
  exact h1
theorem aCxW {c : Nat} (h : aCx c < 6) : c ≠ 0 ∧ Cond.classLink RL c (aEx.getD (aCx c) "") ∈ lw_tbl ∧ aWarm (Cond.classLink RL c (aEx.getD (aCx c) "")) = true := by
  have hm : c ∈ [13, 15, 25, 69, 124, 144] := by
    unfold aCx at h
    split at h
    · simp
    · simp
    · simp
    · simp
    · simp
    · simp
    · exact absurd h (by decide)
  refine ⟨fun q => by subst q; simp at hm, ?_, rfl⟩
  have key : ∀ w ∈ [Cond.classLink RL 13 (aEx.getD 0 ""), Cond.classLink RL 15 (aEx.getD 1 ""), Cond.classLink RL 25 (aEx.getD 2 ""), Cond.classLink RL 69 (aEx.getD 3 ""), Cond.classLink RL 124 (aEx.getD 4 ""), Cond.classLink RL 144 (aEx.getD 5 "")], w ∈ lw_tbl := by
    intro w hw
    rw [show [Cond.classLink RL 13 (aEx.getD 0 ""), Cond.classLink RL 15 (aEx.getD 1 ""), Cond.classLink RL 25 (aEx.getD 2 ""), Cond.classLink RL 69 (aEx.getD 3 ""), Cond.classLink RL 124 (aEx.getD 4 ""), Cond.classLink RL 144 (aEx.getD 5 "")] = _ from aCx_at] at hw
    obtain ⟨i, -, hi⟩ := List.mem_filterMap.mp hw
    exact List.mem_of_getElem? hi
  simp only [List.mem_cons, List.not_mem_nil, or_false] at hm
  rcases hm with rfl | rfl | rfl | rfl | rfl | rfl
  · exact key _ (List.mem_of_getElem? (i := 0) rfl)
  · exact key _ (List.mem_of_getElem? (i := 1) rfl)
  · exact key _ (List.mem_of_getElem? (i := 2) rfl)
  · exact key _ (List.mem_of_getElem? (i := 3) rfl)
  · exact key _ (List.mem_of_getElem? (i := 4) rfl)
  · exact key _ (List.mem_of_getElem? (i := 5) rfl)
theorem aCstW {x : Nat} (h : x < 6) : Cond.castable (aEx.getD x "") (aEx.getD x "") ∈ lw_tbl ∧ aWarm (Cond.castable (aEx.getD x "") (aEx.getD x "")) = true := by
  refine ⟨?_, rfl⟩
  have hw : Cond.castable (aEx.getD x "") (aEx.getD x "") ∈ aEx.map (fun e => Cond.castable e e) := by
    refine List.mem_map.mpr ⟨aEx.getD x "", ?_, rfl⟩
    rw [List.getD_eq_getElem?_getD, List.getElem?_eq_getElem (show x < aEx.length from h)]
    exact List.getElem_mem _
  rw [aCst_at] at hw
  obtain ⟨i, -, hi⟩ := List.mem_filterMap.mp hw
  exact List.mem_of_getElem? hi
theorem aWd_c {y : Nat} (h : (aMt y).2.2.2.2 = []) : aWd y = .code (aMt y).1 (aMt y).2.1 (aMt y).2.2.1 (aMt y).2.2.2.1 := by
  unfold aWd
  rw [h]
theorem aWd_h {y : Nat} {q : Nat × Nat × Nat × Nat} {r : List (Nat × Nat × Nat × Nat)} (h : (aMt y).2.2.2.2 = q :: r) : aWd y = .codeWith (aMt y).1 (aMt y).2.1 (aMt y).2.2.1 (aMt y).2.2.2.1 (aMt y).2.2.2.2 := by
  unfold aWd
  rw [h]
theorem aWd_g {s : State} {y : Nat} {args : Array Value} (h : (aWd y).before args s = true) : ∀ w ∈ [aWd y], ∀ (a' : Array Value) (U : State), s.WarmedH U.vm → w.before a' U = true := by
  intro w hw a' U hW
  rw [List.mem_singleton] at hw
  subst hw
  refine word_at hW (good_of_word ?_) h
  unfold aWd
  split <;> rfl
section ARUN
variable {p : Program} {l : Launch} {e : Env} {R : Room} {s : State} {m : MethodId} {args : Array Value} {below : List Frame} {meth : Method} {c : Code} {H : Heap} {locs : List Loc} {u v : Nat} {g : aG}
/-- a call of a method that keeps its contract -/
theorem aRun {cc : ByteArray} {o i8 kd y t d mc ms pc : Nat} {la : Array Slot} {rest : List Value} {Q : Option aV → aSt → aM → Prop} {X : Nat → aSt → aM → Prop} {sta : aSt} {z : aM} {as : List aV} {ins : Instr}
    (hx : p.tables.exec = Jvm.exec) (hb : c.code = cc) (hown : s.vm.findClass (aRn o) = some m.cls) (hKN : aKN g s) (hla : la.size = c.maxLocals) (hq : (o, i8, kd, y) ∈ aPms)
    (hi : (kd = 0 ∧ ins = .invokevirtual i8 ∧ (parseMethodDescriptor (aMt y).1.desc).map (fun d => d.parameters.length + 1) = some t) ∨ ((kd = 1 ∨ kd = 5) ∧ ins = .invokestatic i8 ∧ (parseMethodDescriptor (aMt y).1.desc).map (fun d => d.parameters.length) = some t) ∨ ((kd = 3 ∨ kd = 4) ∧ ins = .invokespecial i8 ∧ (parseMethodDescriptor (aMt y).1.desc).map (fun d => d.parameters.length + 1) = some t))
    (hlen : as.length = t) (hrc : aRcv kd y as = true) (hd : decode cc pc = .ok (ins, 3)) (hlg : l.stackTraces = false ∧ g.2.2.2.2.2 < 2 ^ 31) (hct : aCt l g y d mc ms sta as z Q X) (hlv : ∀ v ∈ as, aLv sta v) (hR : aRep g sta z H) (hW : (rest.map fun v => v.category).sum ≤ 8) (hfr : d + 1 ≤ R.frames) (hlo : 500 * (d + 1) ≤ R.locals) (hcl : u + mc ≤ R.cells) (hsl : v + ms ≤ R.slots) :
    ∃ a, vx_Run p l e R s m args below meth c H locs u v mc ms (F0 m pc la ((as.map (aC g)).reverse ++ rest)) rest (aQ g Q a) (aX g X) (aA g) := by
  have hM := hct hlg hlv
  have hpm := aPms_in _ hq
  have hpc := aPms_cl_at hq
  have hw : ∀ w ∈ aPmW (o, i8, kd, y), w.before args s = true := fun w hw => aPm_w hq hw hKN args
  have hT := hpm.2
  have hWr : 2 * (F0 m pc la ((as.map (aC g)).reverse ++ rest)).monitorRoom + (rest.map fun v => v.category).sum ≤ 8 := lv_room hW
  have hPc : ∀ av : List Value, av = as.map (aC g) → ∀ U : State, U.heap = H → s.WarmedH U.vm → va_Pc (as.map (aC g)) (aU g sta z) av.toArray U := by
    intro av hav U hU hWm
    exact ⟨by rw [hav], by show aRep g sta z U.heap; rw [hU]; exact hR, hKN.warm hWm⟩
  have hS0 : CallFix p m c cc c.maxLocals s args [] (aRn o) := ⟨hx, hb, rfl, hown, fun _ h => by cases h⟩
  rcases hi with ⟨rfl, rfl, hsig⟩ | ⟨hk, rfl, hsig⟩ | ⟨hk, rfl, hsig⟩
  · have hh := hpc.2 (Or.inl rfl)
    have hlk : (Cond.methodLink (aRn o) i8 (aMt y).1).before args s = true := hw _ (List.mem_of_getElem? (i := 0) rfl)
    have hin : (Cond.instanceMethod (aMt y).1).before args s = true := hw _ (List.mem_of_getElem? (i := 1) rfl)
    have hse : (Cond.selects (aMt y).1.cls (aMt y).1 (aMt y).1).before args s = true := hw _ (List.mem_of_getElem? (i := 2) rfl)
    have hni : (Cond.initialized (aMt y).1.cls).before args s = true := hw _ (List.mem_of_getElem? (i := 3) rfl)
    have hwd : (aWd y).before args s = true := hw _ (List.mem_of_getElem? (i := 4) rfl)
    simp only [aPmT, Bool.and_eq_true, decide_eq_true_eq] at hT
    obtain ⟨⟨⟨⟨⟨n1, n2⟩, n3⟩, n4⟩, -⟩, -⟩ := hT
    have hwdg := aWd_g hwd
    rw [aWd_c hh] at hwd hwdg hM
    have hlen2 : ∀ sig, parseMethodDescriptor (aMt y).1.desc = some sig → as.length - 1 = sig.parameters.length := fun sig hs => by
      rw [hs] at hsig
      have : sig.parameters.length + 1 = t := Option.some.inj hsig
      omega
    have hex : ∃ q1 as', as = .inr (.inr (.inl q1)) :: as' ∧ aSh q1 = .inl (aMc y) := by
      match as, hrc with
      | .inr (.inr (.inl q1)) :: as', hrc =>
        have hrc' : (match aSh q1 with
          | .inl ci => Nat.beq ci (aMc y)
          | .inr _ => false) = true := hrc
        rcases hsh : aSh q1 with ci | sh
        · rw [hsh] at hrc'
          exact ⟨q1, as', rfl, by rw [hsh, Nat.eq_of_beq_eq_true hrc']⟩
        · rw [hsh] at hrc'; cases hrc'
      | [], hrc => cases hrc
      | .inl _ :: _, hrc => cases hrc
      | .inr (.inl _) :: _, hrc => cases hrc
      | .inr (.inr (.inr _)) :: _, hrc => cases hrc
    obtain ⟨q1, as', rfl, hsh⟩ := hex
    obtain ⟨hp, hc⟩ := aLp_in (hlv (.inr (.inr (.inl q1))) List.mem_cons_self) (by rw [hsh]; intro q; cases q)
    have hat := aWs_at (g := g) (z := z) hp hc
    rw [aCe_o hsh] at hat
    obtain ⟨hcn, hc8⟩ := hpc.1 rfl
    have hrv := va_recv hKN.2.1 hR.1 (ci := aMc y) (q0 := aOff q1) (aCl_at _ hc8) hat
    have hrv : ∃ cellB : Cell, H[aAd g q1]? = some cellB ∧ cellB.vm.isStatics = false ∧ s.vm.findClass (aRn (aMc y)) = some cellB.cls := hrv
    rw [hcn] at hrv
    exact ⟨_, vx_runV (C := (aMt y).1.cls) (b := aAd g q1) (As := as'.map (aC g)) (n := as'.length) (index := i8) hS0 hM ⟨⟨rfl, rfl, hfr, by show 8 + ((aMt y).2.2.1 + 11) + 500 * d ≤ R.locals; omega, hwdg, List.mem_singleton_self _, hwd, hni, ⟨n1, n2⟩, fun sig hs => by have := hlen2 sig hs; simpa using this, hlk⟩, hin, hse⟩ ⟨aU_blind, hrv, fun U hU hWm => hPc _ rfl U hU hWm⟩ rfl (by simp) hla (by simp [aC]) hWr hd ⟨hcl, hsl⟩⟩
  · have hlen2 : ∀ sig, parseMethodDescriptor (aMt y).1.desc = some sig → as.length = sig.parameters.length := fun sig hs => by
      rw [hs] at hsig
      have : sig.parameters.length = t := Option.some.inj hsig
      omega
    rcases hk with rfl | rfl
    · have hlk : (Cond.methodLink (aRn o) i8 (aMt y).1).before args s = true := hw _ (List.mem_of_getElem? (i := 0) rfl)
      have hst : (Cond.static (aMt y).1).before args s = true := hw _ (List.mem_of_getElem? (i := 1) rfl)
      have hni : (Cond.initialized (aMt y).1.cls).before args s = true := hw _ (List.mem_of_getElem? (i := 2) rfl)
      have hwd : (aWd y).before args s = true := hw _ (List.mem_of_getElem? (i := 3) rfl)
      simp only [aPmT, Bool.and_eq_true, decide_eq_true_eq] at hT
      obtain ⟨⟨⟨⟨⟨n1, n2⟩, n3⟩, n4⟩, -⟩, -⟩ := hT
      have hwdg := aWd_g hwd
      rcases hh : (aMt y).2.2.2.2 with _ | ⟨q9, r9⟩
      · rw [aWd_c hh] at hwd hwdg hM
        exact ⟨_, vx_runS (As := as.map (aC g)) (n := as.length) (index := i8) hS0 hM ⟨⟨rfl, rfl, hfr, by show 8 + ((aMt y).2.2.1 + 11) + 500 * d ≤ R.locals; omega, hwdg, List.mem_singleton_self _, hwd, hni, ⟨n1, n2⟩, hlen2, hlk⟩, hst⟩ ⟨aU_blind, fun U hU hWm => hPc _ rfl U hU hWm⟩ rfl (by simp) hla rfl hWr hd ⟨hcl, hsl⟩⟩
      · rw [aWd_h hh] at hwd hwdg hM
        exact ⟨_, vx_runSX (As := as.map (aC g)) (n := as.length) (index := i8) hS0 hM ⟨⟨rfl, rfl, hfr, by show 8 + ((aMt y).2.2.1 + 11) + 500 * d ≤ R.locals; omega, hwdg, List.mem_singleton_self _⟩, hwd, hni, ⟨n1, n2⟩, hlen2, hlk, hst⟩ ⟨aU_blind, fun U hU hWm => hPc _ rfl U hU hWm⟩ rfl (by simp) hla rfl hWr hd ⟨hcl, hsl⟩⟩
    · have hh := hpc.2 (by simp)
      have hlk : (Cond.methodLinkNest (aRn o) i8 (aMt y).1 "SheepdogTrial").before args s = true := hw _ (List.mem_of_getElem? (i := 0) rfl)
      have hst : (Cond.static (aMt y).1).before args s = true := hw _ (List.mem_of_getElem? (i := 1) rfl)
      have hni : (Cond.initialized (aMt y).1.cls).before args s = true := hw _ (List.mem_of_getElem? (i := 2) rfl)
      have hwd : (aWd y).before args s = true := hw _ (List.mem_of_getElem? (i := 3) rfl)
      simp only [aPmT, Bool.and_eq_true, decide_eq_true_eq] at hT
      obtain ⟨⟨⟨⟨⟨n1, n2⟩, n3⟩, n4⟩, -⟩, -⟩ := hT
      have hwdg := aWd_g hwd
      rw [aWd_c hh] at hwd hwdg hM
      exact ⟨_, vx_runSN (As := as.map (aC g)) (n := as.length) (index := i8) hS0 hM ⟨⟨⟨rfl, rfl, hfr, by show 8 + ((aMt y).2.2.1 + 11) + 500 * d ≤ R.locals; omega, hwdg, List.mem_singleton_self _⟩, hwd, hni, ⟨n1, n2⟩, hlen2, hlk⟩, hst, trivial⟩ ⟨aU_blind, fun U hU hWm => hPc _ rfl U hU hWm⟩ rfl (by simp) hla rfl hWr hd ⟨hcl, hsl⟩⟩
  · have hh := hpc.2 (by rcases hk with rfl | rfl <;> simp)
    have hlen2 : ∀ sig, parseMethodDescriptor (aMt y).1.desc = some sig → as.length - 1 = sig.parameters.length := fun sig hs => by
      rw [hs] at hsig
      have : sig.parameters.length + 1 = t := Option.some.inj hsig
      omega
    have hex : ∃ q1 as', as = .inr (.inr (.inl q1)) :: as' := by
      rcases hk with rfl | rfl
      · match as, hrc with
        | .inr (.inr (.inl q1)) :: as', _ => exact ⟨q1, as', rfl⟩
        | [], hrc => cases hrc
        | .inl _ :: _, hrc => cases hrc
        | .inr (.inl _) :: _, hrc => cases hrc
        | .inr (.inr (.inr _)) :: _, hrc => cases hrc
      · match as, hrc with
        | .inr (.inr (.inl q1)) :: as', _ => exact ⟨q1, as', rfl⟩
        | [], hrc => cases hrc
        | .inl _ :: _, hrc => cases hrc
        | .inr (.inl _) :: _, hrc => cases hrc
        | .inr (.inr (.inr _)) :: _, hrc => cases hrc
    obtain ⟨q1, as', rfl⟩ := hex
    rcases hk with rfl | rfl
    · have hlk : (Cond.methodLink (aRn o) i8 (aMt y).1).before args s = true := hw _ (List.mem_of_getElem? (i := 0) rfl)
      have hin : (Cond.instanceMethod (aMt y).1).before args s = true := hw _ (List.mem_of_getElem? (i := 1) rfl)
      have hni : (Cond.initialized (aMt y).1.cls).before args s = true := hw _ (List.mem_of_getElem? (i := 2) rfl)
      have hwd : (aWd y).before args s = true := hw _ (List.mem_of_getElem? (i := 3) rfl)
      simp only [aPmT, Bool.and_eq_true, decide_eq_true_eq] at hT
      obtain ⟨⟨⟨⟨⟨n1, n2⟩, n3⟩, n4⟩, -⟩, hny⟩ := hT
      obtain ⟨hy1, hy2⟩ := hny (by simp)
      have hwdg := aWd_g hwd
      rw [aWd_c hh, hy2] at hwd hwdg hM
      exact ⟨_, vx_runI (b := aAd g q1) (As := as'.map (aC g)) (n := as'.length) (index := i8) hS0 hM ⟨⟨rfl, rfl, hfr, by show 8 + ((aMt y).2.2.1 + 11) + 500 * d ≤ R.locals; omega, hwdg, List.mem_singleton_self _, hwd, hni, ⟨n1, n2⟩, fun sig hs => by have := hlen2 sig hs; simpa using this, hlk⟩, hy1, hin⟩ ⟨aU_blind, fun U hU hWm => hPc _ rfl U hU hWm⟩ rfl (by simp) hla (by simp [aC]) hWr hd ⟨hcl, hsl⟩⟩
    · have hlk : (Cond.methodLinkNest (aRn o) i8 (aMt y).1 "SheepdogTrial").before args s = true := hw _ (List.mem_of_getElem? (i := 0) rfl)
      have hin : (Cond.instanceMethod (aMt y).1).before args s = true := hw _ (List.mem_of_getElem? (i := 1) rfl)
      have hni : (Cond.initialized (aMt y).1.cls).before args s = true := hw _ (List.mem_of_getElem? (i := 2) rfl)
      have hwd : (aWd y).before args s = true := hw _ (List.mem_of_getElem? (i := 3) rfl)
      simp only [aPmT, Bool.and_eq_true, decide_eq_true_eq] at hT
      obtain ⟨⟨⟨⟨⟨n1, n2⟩, n3⟩, n4⟩, -⟩, hny⟩ := hT
      obtain ⟨hy1, hy2⟩ := hny (by simp)
      have hwdg := aWd_g hwd
      rw [aWd_c hh, hy2] at hwd hwdg hM
      exact ⟨_, vx_runIN (b := aAd g q1) (As := as'.map (aC g)) (n := as'.length) (index := i8) hS0 hM ⟨⟨⟨rfl, rfl, hfr, by show 8 + ((aMt y).2.2.1 + 11) + 500 * d ≤ R.locals; omega, hwdg, List.mem_singleton_self _⟩, hwd, hni, ⟨n1, n2⟩, fun sig hs => by have := hlen2 sig hs; simpa using this, hlk⟩, hy1, hin⟩ ⟨aU_blind, fun U hU hWm => hPc _ rfl U hU hWm⟩ rfl (by simp) hla (by simp [aC]) hWr hd ⟨hcl, hsl⟩⟩
end ARUN
end
section
/-! THE JVM KEEPS TO THE STEP: a call, as the walk sees it -/
theorem aLv_mono {s s' : aSt} {v : aV} (h : aCnt s ≤ aCnt s') (hv : aLv s v) : aLv s' v := by
  rcases v with v | v | v | v
  · trivial
  · trivial
  · rcases hv with hv | hv
    · exact Or.inl ⟨hv.1, Nat.lt_of_lt_of_le hv.2 h⟩
    · exact Or.inr hv
  · trivial
theorem sk_inv {l : Launch} {g : aG} {f : aFr} {y0 o : Nat} {Q : Option aV → aSt → aM → Prop} {X : Nat → aSt → aM → Prop} {p : Program} {e : Env} {R : Room} {s : State} {m : MethodId} {args : Array Value} {below : List Frame} {meth : Method} {c : Code} (hF : aFrm l g f y0 o p e R s m args below meth c) {pc i8 kd y t : Nat} {ins : Instr} {k : aK} {z : aM} {ls : List (Option aV)} {st : List aV} {K : aK → aM → Nat → List (Option aV) → List aV → Prop}
    (hq : (o, i8, kd, y) ∈ aPms) (hi : (kd = 0 ∧ ins = .invokevirtual i8 ∧ (parseMethodDescriptor (aMt y).1.desc).map (fun d => d.parameters.length + 1) = some t) ∨ ((kd = 1 ∨ kd = 5) ∧ ins = .invokestatic i8 ∧ (parseMethodDescriptor (aMt y).1.desc).map (fun d => d.parameters.length) = some t) ∨ ((kd = 3 ∨ kd = 4) ∧ ins = .invokespecial i8 ∧ (parseMethodDescriptor (aMt y).1.desc).map (fun d => d.parameters.length + 1) = some t))
    (hd : decode (aMt y0).2.1 pc = .ok (ins, 3)) (h : aInv l g f X kd pc y (pc + 3) t k z ls st K) (hK : ∀ k z pc ls st, K k z pc ls st → aBs l g f Q X p e R s m args below meth c k z pc ls st) : aBs l g f Q X p e R s m args below meth c k z pc ls st := by
  obtain ⟨⟨hx, hst, hb, hml, hown, hlk, hrt⟩, ⟨hKN, hbs, hold⟩, ⟨hex, hnm, hrk, hho, hhc⟩, hr1, hr2, hr3, hr4, hr5⟩ := hF
  obtain ⟨ws, rest, rfl, hwl, hc⟩ := aPop_s _ _ _ _ h
  rw [List.append_nil] at hc
  obtain ⟨as, rfl⟩ : ∃ as : List aV, ws = as.reverse := ⟨ws.reverse, by simp⟩
  rw [List.reverse_reverse] at hc
  rw [List.length_reverse] at hwl
  obtain ⟨⟨⟨hsm, hrc⟩, hd1⟩, halt⟩ := hc
  intro hs hl hbd hlen H locs la hR hS hL
  have hlvA : ∀ v ∈ as, aLv k.1 v := fun v hv => hs v (List.mem_append_left _ (List.mem_reverse.mpr hv))
  have hlvR : ∀ v ∈ rest, aLv k.1 v := fun v hv => hs v (List.mem_append_right _ hv)
  refine W.eq (g2 := F0 m pc la ((as.map (aC g)).reverse ++ rest.map (aC g))) (by rw [List.map_append, List.map_reverse]) ?_
  have hfr : f.1 - 1 + 1 ≤ R.frames := by omega
  have hlo : 500 * (f.1 - 1 + 1) ≤ R.locals := by rw [Nat.sub_add_cancel hd1]; exact hr4
  have back : ∀ (r : Option aV) (s' : aSt) (z' : aM) (H1 : Heap) (locs1 : List Loc) (u' v' : Nat), aCnt k.1 ≤ aCnt s' → (∀ v, r = some v → aLv s' v) → aPu r rest (fun st' => K (s', u', v') z' (pc + 3) ls st') → u' ≤ f.2.1 → v' ≤ f.2.2.1 → aRep g s' z' H1 → va_S (aA g) s.heap H1 locs1 → W p l e R s m args below meth c H1 locs1 u' v' (vx_MQ below (aQ g Q) (aX g X) args s f.2.1 f.2.2.1 (aA g)) (F0 m (pc + 3) la ((r.map (aC g)).toList ++ rest.map (aC g))) := by
    intro r s' z' H1 locs1 u' v' hcn hlr hpu hu hv hR1 hS1
    have h9 := hK _ _ _ _ _ (aPu_s hpu) (fun v hv => (List.mem_append.mp hv).elim (fun h => hlr v (by cases r with
      | none => cases h
      | some w => rw [show v = w from List.mem_singleton.mp h])) (fun h => aLv_mono hcn (hlvR v h))) (fun v hv => aLv_mono hcn (hl v hv)) ⟨hu, hv⟩ hlen H1 locs1 la hR1 hS1 hL
    cases r with
    | none => exact h9
    | some w => exact h9
  rcases halt with hA | ⟨hb1, hB⟩ | ⟨c', m', hb1, hC⟩
  · obtain ⟨a, hr⟩ := aRun (R := R) (locs := locs) (u := k.2.1) (v := k.2.2) (la := la) (rest := rest.map (aC g)) hx hb hown hKN hL.1 hq hi hwl hrc hd ⟨hst, hr5⟩ hA hlvA hR (aSm_w hsm) hfr hlo (Nat.le_trans hbd.1 hr2) (Nat.le_trans hbd.2 hr3)
    refine aGo hr hS (fun r s' z' H1 locs1 hlr hq9 hR1 hS1 => ?_) (fun x s' z' H1 locs1 q ce hx6 hX => hX.elim)
    obtain ⟨rfl, hpu⟩ := hq9
    exact W.cs rfl rfl (back r k.1 z' H1 locs1 k.2.1 k.2.2 (Nat.le_refl _) hlr hpu hbd.1 hbd.2 hR1 hS1)
  · obtain ⟨a, hr⟩ := aRun (R := R) (locs := locs) (u := k.2.1) (v := k.2.2) (la := la) (rest := rest.map (aC g)) hx hb hown hKN hL.1 hq hi hwl hrc hd ⟨hst, hr5⟩ hB hlvA hR (aSm_w hsm) hfr hlo (Nat.le_trans hb1.1 hr2) (Nat.le_trans hb1.2 hr3)
    refine aGo hr hS (fun r s' z' H1 locs1 hlr hq9 => hq9.elim) (fun x s' z' H1 locs1 q ce hx6 hX hR1 hS1 hce hcv hcl => ?_)
    obtain ⟨rfl, hX⟩ := hX
    have pass : ∀ zz ∈ f.2.2.2.2, ¬ ((zz.1 ≤ pc ∧ pc < zz.2.1) ∧ aCx zz.2.2.2 = x) → covers ⟨zz.1, zz.2.1, zz.2.2.1, zz.2.2.2⟩ pc = false ∨ (zz.2.2.2 ≠ 0 ∧ ∃ nm : String, (Cond.classLink (aRn o) zz.2.2.2 nm).before args s = true ∧ va_Nc (aEx.getD x "") nm s) := by
      intro zz hz hn
      by_cases hcv9 : zz.1 ≤ pc ∧ pc < zz.2.1
      · have hc6 := hhc zz hz
        obtain ⟨w1, w2, w3⟩ := aCxW hc6
        have ho8 : o = 8 := by
          rcases hho with h9 | h9
          · rw [h9] at hz; cases hz
          · exact h9
        subst ho8
        exact Or.inr ⟨w1, _, hKN.w w2 w3 args, hKN.2.2.2.2.2.2.2.2.1 x (aCx zz.2.2.2) hx6 hc6 (fun e => hn ⟨hcv9, e.symm⟩)⟩
      · refine Or.inl ?_
        simp only [covers]
        rcases Nat.lt_or_ge pc zz.1 with h9 | h9
        · simp [Nat.not_le.mpr h9]
        · have : ¬ pc < zz.2.1 := fun h8 => hcv9 ⟨h9, h8⟩
          simp [this]
    rcases aHnd_s _ hX with ⟨pre, a', b', h', c', suf, e1, e2, e3, e4⟩ | ⟨e1, e2⟩
    · have hmem : (a', b', h', c') ∈ f.2.2.2.2 := by rw [e1]; simp
      have hc6 := hhc _ hmem
      obtain ⟨w1, w2, w3⟩ := aCxW hc6
      have ho8 : o = 8 := by
        rcases hho with h9 | h9
        · rw [h9] at hmem; cases hmem
        · exact h9
      subst ho8
      have hcx : aCx c' = x := e3.2
      refine vx_catch (own := aRn 8) (name := aEx.getD x "") (E := aEx.getD x "") hown (tableOf pre) ⟨a', b', h', c'⟩ (tableOf suf) (by rw [hex, e1]; simp [tableOf]) (fun zz hz => ?_) ?_ w1 (by rw [← hcx]; exact hKN.w w2 w3 args) (hKN.w (aCstW hx6).1 (aCstW hx6).2 args) hce hcv hcl ?_
      · obtain ⟨z9, hz9, rfl⟩ := List.mem_map.mp hz
        exact pass z9 (by rw [e1]; exact List.mem_append_left _ hz9) (e2 z9 hz9)
      · simp only [covers]
        simp [e3.1.1, e3.1.2]
      · exact hK _ _ _ _ _ (e4 q) (fun v hv => by rw [List.mem_singleton.mp hv]; trivial) hl ⟨hb1.1, hb1.2⟩ hlen H1 locs1 la hR1 hS1 hL
    · refine vx_outP (own := aRn o) (E := aEx.getD x "") hown hlk (fun zz hz => ?_) hce hcv hcl (fun t ht hW => ⟨x, _, z', hx6, rfl, e2, by rw [ht]; exact hR1, hS1.F ht⟩) hS1.2.2 hb1.1 hb1.2
      rw [hex] at hz
      obtain ⟨z9, hz9, rfl⟩ := List.mem_map.mp hz
      exact pass z9 hz9 (e1 z9 hz9)
  · obtain ⟨a, hr⟩ := aRun (R := R) (locs := locs) (u := k.2.1) (v := k.2.2) (la := la) (rest := rest.map (aC g)) hx hb hown hKN hL.1 hq hi hwl hrc hd ⟨hst, hr5⟩ hC hlvA hR (aSm_w hsm) hfr hlo (Nat.le_trans hb1.1 hr2) (Nat.le_trans hb1.2 hr3)
    refine aGo hr hS (fun r s' z' H1 locs1 hlr hq9 hR1 hS1 => ?_) (fun x s' z' H1 locs1 q ce hx6 hX => hX.elim)
    exact back r s' z' H1 locs1 _ _ hq9.1 hlr hq9.2 hb1.1 hb1.2 hR1 hS1
end
section
/-! THE JVM KEEPS TO THE STEP: the primitives, throws (heads printed by wip/whole/sound6.py) -/
theorem aNfw : nativeFrameWords "java/lang/System" "arraycopy" 5 + 11 ≤ 400 := by decide +kernel
theorem sk_oinit {l : Launch} {g : aG} {f : aFr} {y0 o : Nat} {Q : Option aV → aSt → aM → Prop} {X : Nat → aSt → aM → Prop} {p : Program} {e : Env} {R : Room} {s : State} {m : MethodId} {args : Array Value} {below : List Frame} {meth : Method} {c : Code} (hF : aFrm l g f y0 o p e R s m args below meth c) {pc i8 b : Nat} {k : aK} {z : aM} {ls : List (Option aV)} {st : List aV} {K : aK → aM → Nat → List (Option aV) → List aV → Prop}
    (hq : (o, i8, 2, b) ∈ aPms) (hd : decode (aMt y0).2.1 pc = .ok (.invokespecial i8, 3)) (h : aPrim f 2 (pc + 3) k z ls st K) (hK : ∀ k z pc ls st, K k z pc ls st → aBs l g f Q X p e R s m args below meth c k z pc ls st) : aBs l g f Q X p e R s m args below meth c k z pc ls st := by
  obtain ⟨⟨hx, hst, hb, hml, hown, hlk, hrt⟩, ⟨hKN, hbs, hold⟩, ⟨hex, hnm, hrk, hho, hhc⟩, hr1, hr2, hr3, hr4, hr5⟩ := hF
  have hw : ∀ w ∈ aPmW (o, i8, 2, b), w.before args s = true := fun w hw => aPm_w hq hw hKN args
  rcases st with _ | ⟨q1, st⟩
  · exact False.elim h
  · rcases q1 with q1 | q1 | q1 | q1
    · exact False.elim h
    · exact False.elim h
    · obtain ⟨⟨hsm, hd1⟩, h9⟩ := h
      intro hs hl hbd hlen H locs la hR hS hL
      refine W.eq (g2 := F0 m pc la (.ref (aAd g q1) :: st.map (aC g))) rfl ?_
      refine W.objInit (own := aRn o) (idx := i8) hx hb hown (hw _ (List.mem_of_getElem? (i := 0) rfl)) (hw _ (List.mem_of_getElem? (i := 1) rfl)) (hw _ (List.mem_of_getElem? (i := 2) rfl)) rfl hL.1 rfl hd (by omega) (by have h8 := lv_room (m := m) (pc := pc) (ls := la) (rest := .ref (aAd g q1) :: st.map (aC g)) (aSm_w (g := g) hsm); show 2 * (F0 m pc la (.ref (aAd g q1) :: st.map (aC g))).monitorRoom + _ + 12 ≤ R.locals; omega) ?_
      exact hK _ _ _ _ _ h9 (aLv_tl hs) hl hbd hlen H locs la hR hS hL
    · exact False.elim h

theorem sk_max {l : Launch} {g : aG} {f : aFr} {y0 o : Nat} {Q : Option aV → aSt → aM → Prop} {X : Nat → aSt → aM → Prop} {p : Program} {e : Env} {R : Room} {s : State} {m : MethodId} {args : Array Value} {below : List Frame} {meth : Method} {c : Code} (hF : aFrm l g f y0 o p e R s m args below meth c) {pc i8 b : Nat} {k : aK} {z : aM} {ls : List (Option aV)} {st : List aV} {K : aK → aM → Nat → List (Option aV) → List aV → Prop}
    (hq : (o, i8, 6, b) ∈ aPms) (hd : decode (aMt y0).2.1 pc = .ok (.invokestatic i8, 3)) (h : aPrim f 6 (pc + 3) k z ls st K) (hK : ∀ k z pc ls st, K k z pc ls st → aBs l g f Q X p e R s m args below meth c k z pc ls st) : aBs l g f Q X p e R s m args below meth c k z pc ls st := by
  obtain ⟨⟨hx, hst, hb, hml, hown, hlk, hrt⟩, ⟨hKN, hbs, hold⟩, ⟨hex, hnm, hrk, hho, hhc⟩, hr1, hr2, hr3, hr4, hr5⟩ := hF
  have hw : ∀ w ∈ aPmW (o, i8, 6, b), w.before args s = true := fun w hw => aPm_w hq hw hKN args
  rcases st with _ | ⟨y1, st⟩
  · exact False.elim h
  · rcases y1 with y1 | y1 | y1 | y1
    · rcases st with _ | ⟨x1, st⟩
      · exact False.elim h
      · rcases x1 with x1 | x1 | x1 | x1
        · obtain ⟨⟨⟨hxr, hyr⟩, hsm, hd1⟩, h9⟩ := h
          intro hs hl hbd hlen H locs la hR hS hL
          refine W.eq (g2 := F0 m pc la (.int (iZ y1) :: .int (iZ x1) :: st.map (aC g))) rfl ?_
          have h8 := aSm_w (g := g) hsm
          refine va_mmax hx hb hL.1.symm hown (hw _ (List.mem_of_getElem? (i := 0) rfl)) (hw _ (List.mem_of_getElem? (i := 1) rfl)) (hw _ (List.mem_of_getElem? (i := 2) rfl)) (hw _ (List.mem_of_getElem? (i := 3) rfl)) (by omega) (by omega) (Nat.le_trans hbd.1 hr2) (Nat.le_trans hbd.2 hr3) hd ?_
          rw [iZ_max hxr hyr]
          exact hK _ _ _ _ _ h9 (aLv_c (w := .inl (max x1 y1)) trivial (aLv_tl (aLv_tl hs))) hl hbd hlen H locs la hR hS hL
        · exact False.elim h
        · exact False.elim h
        · exact False.elim h
    · exact False.elim h
    · exact False.elim h
    · exact False.elim h

theorem iZ_min2 {x y : Int} (hx : aIR x) (hy : aIR y) : (if iZ y < iZ x then iZ y else iZ x) = iZ (min x y) := by
  by_cases h : y < x
  · rw [if_pos ((iZ_lt hy hx).mpr h), Int.min_eq_right (by omega)]
  · rw [if_neg (fun q => h ((iZ_lt hy hx).mp q)), Int.min_eq_left (by omega)]
theorem sk_min {l : Launch} {g : aG} {f : aFr} {y0 o : Nat} {Q : Option aV → aSt → aM → Prop} {X : Nat → aSt → aM → Prop} {p : Program} {e : Env} {R : Room} {s : State} {m : MethodId} {args : Array Value} {below : List Frame} {meth : Method} {c : Code} (hF : aFrm l g f y0 o p e R s m args below meth c) {pc i8 b : Nat} {k : aK} {z : aM} {ls : List (Option aV)} {st : List aV} {K : aK → aM → Nat → List (Option aV) → List aV → Prop}
    (hq : (o, i8, 7, b) ∈ aPms) (hd : decode (aMt y0).2.1 pc = .ok (.invokestatic i8, 3)) (h : aPrim f 7 (pc + 3) k z ls st K) (hK : ∀ k z pc ls st, K k z pc ls st → aBs l g f Q X p e R s m args below meth c k z pc ls st) : aBs l g f Q X p e R s m args below meth c k z pc ls st := by
  obtain ⟨⟨hx, hst, hb, hml, hown, hlk, hrt⟩, ⟨hKN, hbs, hold⟩, ⟨hex, hnm, hrk, hho, hhc⟩, hr1, hr2, hr3, hr4, hr5⟩ := hF
  have hw : ∀ w ∈ aPmW (o, i8, 7, b), w.before args s = true := fun w hw => aPm_w hq hw hKN args
  rcases st with _ | ⟨y1, st⟩
  · exact False.elim h
  · rcases y1 with y1 | y1 | y1 | y1
    · rcases st with _ | ⟨x1, st⟩
      · exact False.elim h
      · rcases x1 with x1 | x1 | x1 | x1
        · obtain ⟨⟨⟨hxr, hyr⟩, hsm, hd1⟩, h9⟩ := h
          intro hs hl hbd hlen H locs la hR hS hL
          refine W.eq (g2 := F0 m pc la (.int (iZ y1) :: .int (iZ x1) :: st.map (aC g))) rfl ?_
          have h8 := aSm_w (g := g) hsm
          refine va_mmin hx hb hL.1.symm hown (hw _ (List.mem_of_getElem? (i := 0) rfl)) (hw _ (List.mem_of_getElem? (i := 1) rfl)) (hw _ (List.mem_of_getElem? (i := 2) rfl)) (hw _ (List.mem_of_getElem? (i := 3) rfl)) (by omega) (by omega) (Nat.le_trans hbd.1 hr2) (Nat.le_trans hbd.2 hr3) hd ?_
          rw [iZ_min2 hxr hyr]
          exact hK _ _ _ _ _ h9 (aLv_c (w := .inl (min x1 y1)) trivial (aLv_tl (aLv_tl hs))) hl hbd hlen H locs la hR hS hL
        · exact False.elim h
        · exact False.elim h
        · exact False.elim h
    · exact False.elim h
    · exact False.elim h
    · exact False.elim h

theorem sk_acopy {l : Launch} {g : aG} {f : aFr} {y0 o : Nat} {Q : Option aV → aSt → aM → Prop} {X : Nat → aSt → aM → Prop} {p : Program} {e : Env} {R : Room} {s : State} {m : MethodId} {args : Array Value} {below : List Frame} {meth : Method} {c : Code} (hF : aFrm l g f y0 o p e R s m args below meth c) {pc i8 b : Nat} {k : aK} {z : aM} {ls : List (Option aV)} {st : List aV} {K : aK → aM → Nat → List (Option aV) → List aV → Prop}
    (hq : (o, i8, 8, b) ∈ aPms) (hd : decode (aMt y0).2.1 pc = .ok (.invokestatic i8, 3)) (h : aPrim f 8 (pc + 3) k z ls st K) (hK : ∀ k z pc ls st, K k z pc ls st → aBs l g f Q X p e R s m args below meth c k z pc ls st) : aBs l g f Q X p e R s m args below meth c k z pc ls st := by
  obtain ⟨⟨hx, hst, hb, hml, hown, hlk, hrt⟩, ⟨hKN, hbs, hold⟩, ⟨hex, hnm, hrk, hho, hhc⟩, hr1, hr2, hr3, hr4, hr5⟩ := hF
  have hw : ∀ w ∈ aPmW (o, i8, 8, b), w.before args s = true := fun w hw => aPm_w hq hw hKN args
  rcases st with _ | ⟨m1, st⟩
  · exact False.elim h
  · rcases m1 with m1 | m1 | m1 | m1
    · rcases st with _ | ⟨dp, st⟩
      · exact False.elim h
      · rcases dp with dp | dp | dp | dp
        · rcases st with _ | ⟨q2, st⟩
          · exact False.elim h
          · rcases q2 with q2 | q2 | q2 | q2
            · exact False.elim h
            · exact False.elim h
            · rcases st with _ | ⟨sp, st⟩
              · exact False.elim h
              · rcases sp with sp | sp | sp | sp
                · rcases st with _ | ⟨q1, st⟩
                  · exact False.elim h
                  · rcases q1 with q1 | q1 | q1 | q1
                    · exact False.elim h
                    · exact False.elim h
                    · have h0 : (match aSh q1, aSh q2 with
                        | .inr (0, mp), .inr (0, mq) => ((((0 ≤ m1 ∧ 0 ≤ sp) ∧ (0 ≤ dp ∧ (sp + m1 ≤ mp ∧ dp + m1 ≤ mq))) ∧ (aSml st = true ∧ 1 ≤ f.1)) ∧ k.1 = none) ∧ K k (aCp z q1 sp q2 dp m1) (pc + 3) ls st
                        | _, _ => False) := h
                      rcases hs1 : aSh q1 with ci | ⟨ty1, mp⟩
                      · rw [hs1] at h0; exact False.elim h0
                      rcases hs2 : aSh q2 with ci | ⟨ty2, mq⟩
                      · rw [hs1, hs2] at h0; revert h0; split <;> intro h0 <;> first | (next he => cases he) | exact h0.elim
                      rw [hs1, hs2] at h0
                      by_cases ht : ty1 = 0 ∧ ty2 = 0
                      · obtain ⟨rfl, rfl⟩ := ht
                        obtain ⟨⟨⟨⟨⟨a1, a2⟩, a3, a4, a5⟩, hsm, hd1⟩, hkn⟩, h9⟩ := h0
                        intro hs hl hbd hlen H locs la hR hS hL
                        obtain ⟨hp1, hc1⟩ := aLp_ar (hs (.inr (.inr (.inl q1))) (by simp)) hs1 (by decide)
                        obtain ⟨hp2, hc2⟩ := aLp_ar (hs (.inr (.inr (.inl q2))) (by simp)) hs2 (by decide)
                        have hb1 := aSh_r hp1 hs1
                        have hb2 := aSh_r hp2 hs2
                        refine W.eq (g2 := F0 m pc la (.int (iZ m1) :: .int (iZ dp) :: .ref (aAd g q2) :: .int (iZ sp) :: .ref (aAd g q1) :: st.map (aC g))) rfl ?_
                        have h8 := aSm_w (g := g) hsm
                        have hat1 := aWs_at (g := g) (z := z) hp1 hc1
                        have hat2 := aWs_at (g := g) (z := z) hp2 hc2
                        rw [aCe_a hs1] at hat1
                        rw [aCe_a hs2] at hat2
                        have n1 : ∀ x : Int, 0 ≤ x → x ≤ 2147483647 → ¬ iZ x < 0 := fun x h1 h2 => by rw [← iZ_0, iZ_lt ⟨by omega, h2⟩ ⟨by omega, by omega⟩]; omega
                        have c1 := iZ_cl (x := m1) a1 (by omega)
                        have c2 := iZ_cl (x := sp) a2 (by omega)
                        have c3 := iZ_cl (x := dp) a3 (by omega)
                        refine va_copyi hx hb hL.1.symm hown (hw _ (List.mem_of_getElem? (i := 0) rfl)) (hw _ (List.mem_of_getElem? (i := 1) rfl)) (hw _ (List.mem_of_getElem? (i := 2) rfl)) (hw _ (List.mem_of_getElem? (i := 3) rfl)) hKN.2.1 hR.1 aWs_D hS (aOff q1) (aOff q2) 0 0 (ty := .int) hat1 hat2 rfl rfl rfl (n1 sp a2 (by omega)) (n1 dp a3 (by omega)) (n1 m1 a1 (by omega)) (by rw [c1, c2]; omega) (by rw [c1, c3]; omega) (fun _ _ => rfl) (by omega) (by have h7 := aNfw; omega) hd (fun H1 locs1 hP1 hD1 hS1 => ?_)
                        have hRn : aRep g k.1 (aCp z q1 sp q2 dp m1) H1 := by
                          obtain ⟨b1, b2, b3, b4, b5⟩ := id hR
                          have hne : ∀ q : aP, q ≠ q2 → aCp z q1 sp q2 dp m1 q = z q := fun q hq => by funext j; unfold aCp; rw [if_neg (fun w => hq w.1)]
                          refine ⟨?_, fun q hq2 => ?_, ?_, Nat.le_trans hbs hS1.1, ?_⟩
                          · rw [← aWs_set (z' := aCp z q1 sp q2 dp m1) (s' := k.1) hp2 hc2 (aRep_cnt hR) rfl rfl (fun q hq => aCe_ne (fun j => congrFun (hne q hq) j))]
                            rw [aCe_a hs2]
                            have hf : (Sum.inl (va_cpy (fun k => iZ (z q1 (k : Int))) (fun k => iZ (z q2 (k : Int))) (iZ sp).toNatClampNeg (iZ dp).toNatClampNeg (iZ m1).toNatClampNeg) : (Nat → Int32) ⊕ (Nat → Int64) ⊕ (Nat → UInt32) ⊕ (Nat → UInt64) ⊕ (Nat → Option Nat)) = aAr g k.1 (aCp z q1 sp q2 dp m1) q2 0 := by
                              show _ = Sum.inl _
                              congr 1
                              funext j
                              rw [c1, c2, c3]
                              unfold va_cpy aCp
                              by_cases hj : dp.toNat ≤ j ∧ j < dp.toNat + m1.toNat
                              · rw [if_pos hj, if_pos ⟨rfl, by omega, by omega⟩]
                                have e1 : ((sp.toNat + (j - dp.toNat) : Nat) : Int) = sp + ((j : Int) - dp) := by omega
                                show iZ (z q1 ((sp.toNat + (j - dp.toNat) : Nat) : Int)) = _
                                rw [e1]
                              · rw [if_neg hj, if_neg (fun w => hj (by have h1 := w.2.1; have h2 := w.2.2; omega))]
                            rw [← hf]
                            exact hP1
                          · rw [hS1.2.1 q (Nat.lt_of_lt_of_le hq2 hbs) (Nat.not_le.mpr hq2)]
                            exact hold q hq2
                          · rw [hkn]; trivial
                          · obtain ⟨scr, d1, d2, d3⟩ := b5
                            exact ⟨scr, d1, d2, fun j hj => by rw [congrFun (hne _ (aLk_31 hp2)) _]; exact d3 j hj⟩
                        exact hK _ _ _ _ _ h9 (aLv_tl (aLv_tl (aLv_tl (aLv_tl (aLv_tl hs))))) hl hbd hlen H1 locs1 la hRn hS1 hL
                      · exfalso
                        revert h0
                        split
                        · next he1 he2 => intro _; cases he1; cases he2; exact ht ⟨rfl, rfl⟩
                        · exact id
                    · exact False.elim h
                · exact False.elim h
                · exact False.elim h
                · exact False.elim h
            · exact False.elim h
        · exact False.elim h
        · exact False.elim h
        · exact False.elim h
    · exact False.elim h
    · exact False.elim h
    · exact False.elim h
end
section
/-! THE JVM KEEPS TO THE STEP: throws. NoSuchElementException's constructor calls her super by another place of the pool than the others: a law of our own for her. -/
def axChain (X : String) (ix : Nat) (rx : ByteArray) : List String → List Cond
  | [] => Bundle.passSAtoms X Bundle.tN ix rx
  | Y :: r => Bundle.passSAtoms X Y ix rx ++ Bundle.chainSAtoms Y r
def axOwn (own : String) (ic : Nat) (X : String) (ix : Nat) (rx : ByteArray) (names : List String) : List Cond :=
  Bundle.throwableAtoms ++ Bundle.throwableSAtoms ++ axChain X ix rx names ++
  [.methodLink own ic (Bundle.initS X), .instantiable X 6, .castable X X, .selects X Bundle.tFill0 Bundle.tFill0, .selects X Bundle.tFill Bundle.tFill,
   .lays X Bundle.tN "cause" "Ljava/lang/Throwable;", .lays X Bundle.tN "stackTrace" Bundle.steD, .lays X Bundle.tN "suppressedExceptions" Bundle.listD, .lays X Bundle.tN "detailMessage" "Ljava/lang/String;",
   .isRef (.static Bundle.tN "UNASSIGNED_STACK" Bundle.steD), .isRef (.static Bundle.tN "SUPPRESSED_SENTINEL" Bundle.listD),
   .fieldLink Bundle.tN 198 Bundle.tN "backtrace" "Ljava/lang/Object;", .lays Bundle.tN Bundle.tN "backtrace" "Ljava/lang/Object;", .lays X Bundle.tN "backtrace" "Ljava/lang/Object;"]
def axAt (own : String) (ic : Nat) (X : String) (ix : Nat) (rx : ByteArray) (names : List String) : List Cond := (axOwn own ic X ix rx names).filter vx_no
abbrev axD (rx : ByteArray) (ix : Nat) : Prop := (decode rx 0 = .ok (.aload_n 0, 1) ∧ decode rx 1 = .ok (.aload_n 1, 1)) ∧ (decode rx 2 = .ok (.invokespecial ix, 3) ∧ decode rx 5 = .ok (.return_, 1))
theorem axChainS {args : Array Value} {s : State} {pl : Platform} (hpl : pl.magicAccessors = ({} : Platform).magicAccessors) {top : MethodId} (htop : s.methodNamed? (Bundle.initS Bundle.tN) = some top)
    {ix : Nat} {rx : ByteArray} (hx : axD rx ix) (names : List String) (X : String) (hX : Bundle.fit X = true) (hn : ∀ n ∈ names, Bundle.fit n = true) (h : ∀ c ∈ axChain X ix rx names, c.before args s = true) :
    ∃ (P1 : PassC) (Ps : List PassC), Ps.length = names.length ∧ P1.LinksS pl s ∧ (∀ P, P ∈ Ps → P.LinksS pl s) ∧ s.methodNamed? (Bundle.initS X) = some P1.m ∧
        P1.sup = firstOf top (Ps.map (·.toPassT)) ∧ PassesOn top (Ps.map (·.toPassT)) := by
  obtain ⟨⟨x0, x1⟩, x2, x5⟩ := hx
  cases names with
  | nil =>
    obtain ⟨P, L, hm, hs⟩ := PassC.ofS_atoms (args := args) (s := s) hpl (X := X) (Y := Bundle.tN) (Bundle.fit_spec hX).1 (by decide) x0 x1 x2 x5 h
    exact ⟨P, [], rfl, L, (fun _ hP => by cases hP), hm, Option.some.inj (hs.symm.trans htop), trivial⟩
  | cons Y r =>
    obtain ⟨P, L, hm, hs⟩ := PassC.ofS_atoms (args := args) (s := s) hpl (X := X) (Y := Y) (Bundle.fit_spec hX).1 (Bundle.fit_spec (hn Y List.mem_cons_self)).2 x0 x1 x2 x5
      (fun c hc => h c (List.mem_append.mpr (Or.inl hc)))
    obtain ⟨P', Ps, hlen, L', hL, hm', hsup, hpass⟩ := Bundle.chainS (args := args) hpl htop r Y (hn Y List.mem_cons_self) (fun n hn' => hn n (List.mem_cons_of_mem _ hn')) (fun c hc => h c (List.mem_append.mpr (Or.inr hc)))
    refine ⟨P, P' :: Ps, by simp [hlen], L, fun Q hQ => ?_, hm, Option.some.inj (hs.symm.trans hm'), hsup, hpass⟩
    exact (List.mem_cons.mp hQ).elim (fun q => by rw [q]; exact L') (hL Q)
section AXT
variable {p : Program} {l : Launch} {e : Env} {R : Room} {s : State} {m₀ : MethodId} {args : Array Value} {below : List Frame} {meth : Method} {c : Code} {V : State} {locs : List Loc} {cells slots : Nat}
set_option maxHeartbeats 4000000 in
theorem axCtor (X : Stand p l e R s m₀ args below meth c V locs cells slots) (hexec : p.tables.exec = Jvm.exec) (htr : e.platform.stackTraces = false) {own cls : String} {names : List String} {ic ix : Nat} {rx : ByteArray} (hx : axD rx ix)
    (hown : s.vm.findClass own = some m₀.cls) (hcls : Bundle.fit cls = true) (hnames : ∀ n ∈ names, Bundle.fit n = true)
    (h : ∀ a ∈ axOwn own ic cls ix rx names, a.before args s = true) (hlocs : ∀ x ∈ locs, ∀ cell, s.heap[x.base]? = some cell → cell.vm.isStatics = false)
    {a : Addr} {cX : ClassId} {kX : Class} (hfoundX : s.vm.findClass cls = some cX) (hkX : s.vm.classes[cX]? = some kX) (hcell : V.heap[a]? = some (freshCell cX kX)) (hnew : s.heap.size ≤ a)
    {msg : Value} (hmsg : msg.isRef = true)
    {g : JFrame} (hg : g.method = m₀) (hsize : g.locals.size = c.maxLocals) (hlocked : g.locked = none) (hentered : g.entered = []) {rest : List Value} (hstack : g.stack = msg :: .ref a :: .ref a :: rest)
    (hd6 : decode c.code g.pc = .ok (.invokespecial ic, 3)) (hd9 : decode c.code (g.pc + 3) = .ok (.athrow, 1)) (hout : ∀ x ∈ c.exceptionTable.toList, covers x (g.pc + 3) = false)
    (hRframes : names.length + 3 < R.frames) (hRlocals : 2 * g.monitorRoom + ((Value.ref a :: rest).map fun v => v.category).sum + (13 * (names.length + 1) + 42) ≤ R.locals) (hlocks : meth.locks = false) :
    ∃ U : State, Steps p.tables e below (V.setTop g) U ∧ U.status = .running ∧ Ended U below (.threw a) ∧ s.WarmedH U.vm ∧ s.sameButNew ({ U with vm := s.vm } : State) locs cells slots ∧
      ∃ ce, U.heap[a]? = some ce ∧ ce.cls = cX ∧ ce.vm = .none := by
  have howns : e.platform.frameOwnsMonitors = true := by rw [X.admits.platform]
  have hfin : e.platform.finalization = false := by rw [X.admits.platform]
  have hpl : e.platform.magicAccessors = ({} : Platform).magicAccessors := by rw [X.admits.platform]
  have a' : ∀ x, x ∈ axOwn own ic cls ix rx names → x.holds args s none s [] = true := fun x hx => h x hx
  obtain ⟨T, Z0, L, -, Y⟩ := ThrowableC.of_atoms (args := args) howns hfin hpl (fun x hx => h x (by simp [axOwn, hx]))
  obtain ⟨Z, M, LZ, LM, hnZ⟩ := Init0T.ofS_atoms (args := args) hpl L Y (fun x hx => h x (by simp [axOwn, hx]))
  obtain ⟨P1, Ps, hlen, L1, hL, hP1m, hlink1, hlink⟩ := axChainS (args := args) hpl hnZ hx names cls hcls hnames (fun x hx => h x (by simp [axOwn, hx]))
  have hfound : s.vm.findClass cls = some P1.m.cls := findClass_of_methodNamed hP1m
  cases Option.some.inj (hfoundX.symm.trans hfound)
  obtain ⟨c1, kX', hc1, hk, hord, -, -, hn6⟩ := Cond.instantiable_spec (a' (.instantiable cls 6) (by simp [axOwn]))
  cases Option.some.inj (hc1.symm.trans hfound)
  cases Option.some.inj (hkX.symm.trans hk)
  have hsel0 : selectMethod e.platform s.vm P1.m.cls T.fill0 = .method T.fill0 := by
    obtain ⟨c2, r2, m2, q1, q2, q3, q4, -⟩ := Cond.selects_spec (a' (.selects cls Bundle.tFill0 Bundle.tFill0) (by simp [axOwn]))
    cases Option.some.inj (q1.symm.trans hfound)
    cases Option.some.inj (q2.symm.trans (State.methodFound?_of_named Y.fill0 (by decide)))
    cases Option.some.inj (q3.symm.trans Y.fill0)
    rw [Launch.admits_selectMethod X.admits]; exact q4
  have hselF : selectMethod e.platform s.vm P1.m.cls T.fill = .method T.fill := by
    obtain ⟨c2, r2, m2, q1, q2, q3, q4, -⟩ := Cond.selects_spec (a' (.selects cls Bundle.tFill Bundle.tFill) (by simp [axOwn]))
    cases Option.some.inj (q1.symm.trans hfound)
    cases Option.some.inj (q2.symm.trans (State.methodFound?_of_named Y.fill (by decide)))
    cases Option.some.inj (q3.symm.trans Y.fill)
    rw [Launch.admits_selectMethod X.admits]; exact q4
  obtain ⟨cellS0, hcS0, hiss⟩ := Y.statics
  obtain ⟨u0, hu0⟩ := Cond.staticRefV Y.unassigned L.unassignedStatic L.statics hcS0 hiss (a' (.isRef (.static Bundle.tN "UNASSIGNED_STACK" Bundle.steD)) (by simp [axOwn]))
  obtain ⟨sen, hsen⟩ := Cond.staticRefV Y.sentinel L.sentinelStatic L.statics hcS0 hiss (a' (.isRef (.static Bundle.tN "SUPPRESSED_SENTINEL" Bundle.listD)) (by simp [axOwn]))
  obtain ⟨ci198, i198, fB, hk198, hg198, ha198, hsB, -, hnB, htB, hffB⟩ := Cond.ownField (t := .object "java/lang/Object") Y.found L.cls (by decide +kernel) (a' (.fieldLink Bundle.tN 198 Bundle.tN "backtrace" "Ljava/lang/Object;") (by simp [axOwn])) (a' (.lays Bundle.tN Bundle.tN "backtrace" "Ljava/lang/Object;") (by simp [axOwn])) e.platform hpl
  obtain ⟨cellS, hcS', heS, -, hkeep⟩ := X.same.2.2.2.2.2 T.aS cellS0 hcS0
  have hcellS : V.heap[T.aS]? = some cellS := hcS'
  have hout' : ∀ i, (⟨T.aS, i⟩ : Loc) ∉ locs := fun i hmem => by
    have := hlocs _ hmem cellS0 hcS0
    rw [hiss] at this; cases this
  have hknownS : cellS.vm ≠ .unknown := by
    rw [heS]; intro hu
    rw [show cellS0.vm = .unknown from hu] at hiss
    cases hiss
  have hneS : T.aS ≠ a := Nat.ne_of_lt (Nat.lt_of_lt_of_le (Array.getElem?_eq_some_iff.mp hcS0).1 hnew)
  obtain ⟨iM, hffM⟩ := Y.msg
  obtain ⟨tyC, dC, hdC, hdnC⟩ := Cond.laysAt hfound hk Y.cause (a' (.lays cls Bundle.tN "cause" "Ljava/lang/Throwable;") (by simp [axOwn]))
  obtain ⟨tyS, dS, hdS, hdnS⟩ := Cond.laysAt hfound hk Y.stack (a' (.lays cls Bundle.tN "stackTrace" Bundle.steD) (by simp [axOwn]))
  obtain ⟨tyP, dP, hdP, hdnP⟩ := Cond.laysAt hfound hk Y.supp (a' (.lays cls Bundle.tN "suppressedExceptions" Bundle.listD) (by simp [axOwn]))
  obtain ⟨tyM, dM, hdM, hdnM⟩ := Cond.laysAt hfound hk hffM (a' (.lays cls Bundle.tN "detailMessage" "Ljava/lang/String;") (by simp [axOwn]))
  obtain ⟨tyB, dB, hdB, hdnB⟩ := Cond.laysAt hfound hk hffB (a' (.lays cls Bundle.tN "backtrace" "Ljava/lang/Object;") (by simp [axOwn]))
  have bC := Cond.laysApart hdB hdC hdnB hdnC (by rw [hnB, Y.causeName]; decide)
  have bS := Cond.laysApart hdB hdS hdnB hdnS (by rw [hnB, Y.stackName]; decide)
  have bP := Cond.laysApart hdB hdP hdnB hdnP (by rw [hnB, Y.suppName]; decide)
  have hskip : SkipFacts T e.platform s (fun u => u) u0 ((preparedCellV T.toThrowableT (freshCell P1.m.cls kX) a u0 sen).withEntry V.cur) :=
    ⟨{ ci198 := ci198, i198 := i198, fBack := fB }, ⟨hk198, hg198, ha198, hsB⟩, by
      have := fresh_default (c := P1.m.cls) tyB
      rw [htB] at this
      simpa [preparedCellV, Cell.setSlot, Cell.withEntry, Array.getElem?_setIfInBounds, bC, bS, bP, bC.symm, bS.symm, bP.symm, defaultValue] using this, fun _ _ => rfl⟩
  obtain ⟨tm, methC, cdC, kC, vm₁, hnC, -, -, -, -, -, -, -, hW₁, st1⟩ := Steps.initColdS (tb := p.tables) (e := e) (below := below) (s := s) (U := V) X.here hexec X.warmed hpl hown (t := Bundle.initS cls) rfl rfl (Bundle.fit_spec hcls).2
    (a' (.methodLink own ic (Bundle.initS cls)) (by simp [axOwn])) (h (.instanceMethod (Bundle.initS cls)) (by cases names <;> simp [axOwn, axChain, Bundle.passSAtoms])) (bytes := rx) (maxL := 2) (h (.code (Bundle.initS cls) rx 2 none) (by cases names <;> simp [axOwn, axChain, Bundle.passSAtoms]))
    (f := g) hg (a := a) (msg := msg) (rest := .ref a :: rest) hstack hd6
  cases Option.some.inj (hnC.symm.trans hP1m)
  have X₁ := X.noted hW₁
  obtain ⟨vm₂, X₂, st2⟩ := X₁.ctorMessageOffV hexec (g := { g with stack := .ref a :: rest }) hg hsize T L Z LZ M LM (P1 :: Ps)
    (fun P hP => (List.mem_cons.mp hP).elim (fun q => by rw [q]; exact L1) (hL P)) ⟨hlink1, hlink⟩ (u0 := u0) (sen := sen) (self := a) hmsg (cell := freshCell P1.m.cls kX) (cellS := cellS)
    hcell (fun _ => by simp) (by simp) rfl rfl hsel0 hselF hcellS hneS hknownS (by rw [hkeep _ (hout' _)]; exact hu0) (by rw [hkeep _ (hout' _)]; exact hsen)
    (Takes.of_laid hk hord tyC (by rw [Y.causeType]; rfl)) (Takes.of_laid hk hord tyS (by rw [Y.stackType]; exact fits_refV_array _ u0)) (Takes.of_laid hk hord tyP (by rw [Y.suppType]; exact fits_refV_object _ sen))
    (Takes.of_laid hk hord tyM (by rw [Y.msgType]; exact fits_refV_object _ ⟨msg, hmsg⟩)) Y.objLocals hskip htr [] hd6
    (by simp only [List.length_cons, hlen]; omega) (by simp only [List.length_cons, hlen]; exact hRlocals)
  obtain ⟨hwalk, hrun, hended, hWU, hsame⟩ := X₂.athrowLeaves hexec (g := { g with stack := .ref a :: rest, pc := g.pc + 3 }) hg hlocked hentered hout (a := a) (rest := rest) rfl hd9
  have hlt : a < ((V.setVm vm₁).setVm vm₂).heap.size := (Array.getElem?_eq_some_iff.mp hcell).1
  have hU := heapAt_setCell_self (s := (V.setVm vm₁).setVm vm₂) (plainBareV T.toThrowableT (freshCell P1.m.cls kX) a u0 sen msg) hlt
  refine ⟨_, st1 _ (fun acts => ?_), hrun, hended, hWU, hsame.weaken (fun y hy hlt' => ?_) (Nat.le_refl _) (Nat.le_refl _), _, hU, rfl, rfl⟩
  · rw [doInvoke_state]
    exact st2 _ hwalk
  · rcases List.mem_append.mp hy with h1 | h1
    · exact h1
    · exfalso
      have hb : y.base = a := by
        simp only [List.mem_cons, List.not_mem_nil, or_false] at h1
        rcases h1 with rfl | rfl | rfl | rfl | rfl <;> rfl
      rw [hb] at hlt'
      exact Nat.not_lt.mpr hnew hlt'
end AXT

section AXU
variable {p : Program} {l : Launch} {e : Env} {R : Room} {s : State} {m : MethodId} {args : Array Value} {below : List Frame} {meth : Method} {c : Code} {H : Heap} {locs : List Loc} {cells slots : Nat}
variable {mc ms : Nat} {free : Addr → Prop} {ls : Array Slot} {rest : List Value} {Qc : Array Value → State → Outcome → State → Prop} {XC : String → State → State → Prop}
set_option maxHeartbeats 4000000 in
theorem axThrow {cc : ByteArray} {pc : Nat} (hexec : p.tables.exec = Jvm.exec) (hb : c.code = cc) (hl : l.stackTraces = false) {own cls text : String} {names : List String} {ik is ic sa ix len : Nat} {rx : ByteArray} {A : Nat → Prop} (hxd : axD rx ix)
    (hown : s.vm.findClass own = some m.cls) (hcls : Bundle.fit cls = true) (hnames : ∀ n ∈ names, Bundle.fit n = true)
    (hstr : vk_R own is text sa s) (hat : ∀ w ∈ Cond.classLink own ik cls :: Cond.initialized cls :: axAt own ic cls ix rx names, w.before args s = true ∧ vx_ot w = true)
    (hU : vx_Zq Bundle.tN "UNASSIGNED_STACK" Bundle.steD A s s.heap) (hN : vx_Zq Bundle.tN "SUPPRESSED_SENTINEL" Bundle.listD A s s.heap) (hS : va_S A s.heap H locs) (hsize : ls.size = c.maxLocals)
    (d0 : decode cc pc = .ok (.new ik, 3)) (d3 : decode cc (pc + 3) = .ok (.dup, 1)) (d4 : (decode cc (pc + 4) = .ok (.ldc is, 2) ∧ len = 2) ∨ (decode cc (pc + 4) = .ok (.ldc_w is, 3) ∧ len = 3)) (d6 : decode cc (pc + 4 + len) = .ok (.invokespecial ic, 3)) (d9 : decode cc (pc + 4 + len + 3) = .ok (.athrow, 1))
    (hout : ∀ x ∈ c.exceptionTable.toList, covers x (pc + 4 + len + 3) = false)
    (hRframes : names.length + 3 < R.frames) (hRlocals : (rest.map fun v => v.category).sum + (13 * (names.length + 1) + 43) ≤ R.locals) (hRcells : cells + 1 ≤ R.cells) (hRslots : slots + 6 ≤ R.slots) (hlocks : meth.locks = false)
    (hx : ∀ t : State, s.vm.Alike t.vm → H.size ≤ t.heap.size → (∀ q : Nat, q < H.size → t.heap[q]? = H[q]?) → XC cls s t)
    (hf : ∀ z ∈ locs, free z.base) (hc : cells + 1 ≤ mc) (hs : slots + 6 ≤ ms) :
    W p l e R s m args below meth c H locs cells slots (vx_MQ below Qc XC args s mc ms free) (F0 m pc ls rest) := by
  intro T hT X
  have htr : e.platform.stackTraces = false := (show e.platform.stackTraces = l.stackTraces by rw [X.admits.platform]).trans hl
  have Y := vx_rebase X (R' := { frames := R.frames, locals := R.locals, cells := 1, slots := 6 }) (Nat.le_refl _) (Nat.le_refl _) hRcells hRslots
  obtain ⟨s', hA⟩ : ∃ z, z = (T.setVm s.vm).setFrames (.invoking m args :: below) := ⟨_, rfl⟩
  rw [← hA] at Y
  have hvm : s'.vm = s.vm := by rw [hA]; rfl
  have hhp : s'.heap = H := by rw [hA]; exact hT
  have hW0 : s.WarmedH s'.vm := by rw [hvm]; exact State.WarmedH.refl s
  have hat' : ∀ w ∈ Cond.classLink own ik cls :: Cond.initialized cls :: axAt own ic cls ix rx names, w.before args s' = true := fun w hw => vx_ot_at hW0 hvm.symm (hat w hw).2 (hat w hw).1
  have hU' : vx_Zq Bundle.tN "UNASSIGNED_STACK" Bundle.steD A s' s'.heap := by rw [hhp]; exact vx_Zq.moved hW0.alike (hU.kept hS.2.1)
  have hN' : vx_Zq Bundle.tN "SUPPRESSED_SENTINEL" Bundle.listD A s' s'.heap := by rw [hhp]; exact vx_Zq.moved hW0.alike (hN.kept hS.2.1)
  have h : ∀ w ∈ axOwn own ic cls ix rx names, w.before args s' = true := vx_own (fun w hw => hat' w (List.mem_cons_of_mem _ (List.mem_cons_of_mem _ hw))) (vx_isRefq hU'.1) (vx_isRefq hN'.1) hU'.2.word hN'.2.word
  have hown' : s'.vm.findClass own = some m.cls := by rw [hvm]; exact hown
  have hins : (Cond.instantiable cls 6).before args s' = true := h _ (by simp [axOwn])
  obtain ⟨vm₁, cX, kX, hfX, hkX, -, -, X₁, st1⟩ := Y.newCold hexec (own := own) (C := cls) (index := ik) (n := 6) hown' (hat' _ List.mem_cons_self) hins (hat' _ (List.mem_cons_of_mem _ List.mem_cons_self))
    (g := F0 m pc ls rest) rfl (by rw [hb]; exact d0) (Nat.le_refl _) (Nat.le_refl _)
  generalize hT1 : (T.setVm vm₁).pushCell { cls := cX, slots := kX.instanceTypes.map defaultValue, vm := .none } = T1 at X₁ st1
  have hcat : (Value.ref T.heap.size).category = 1 := rfl
  have hcellA : T1.heap[T.heap.size]? = some (freshCell cX kX) := by rw [← hT1]; exact State.heap_pushCell_size _ _
  have d3' : decode c.code (pc + 3) = .ok (.dup, 1) := by rw [hb]; exact d3
  have hstr' : vk_R own is text sa s' := vk_R.warm hW0 hstr
  obtain ⟨U, hsteps, hrun, hend, hW, hsame, ce, hce, hO1, hO2⟩ := axCtor X₁ hexec htr (own := own) (cls := cls) (names := names) (ic := ic) hxd hown' hcls hnames h (fun x hx => nomatch hx) hfX hkX hcellA (by rw [hhp, hT]; exact Nat.le_refl _) (msg := .ref sa) rfl
    (g := { method := m, pc := pc + 4 + len, locals := ls, stack := .ref sa :: .ref T.heap.size :: .ref T.heap.size :: rest, locked := none }) rfl hsize rfl rfl (rest := rest) rfl
    (by rw [hb]; exact d6) (by rw [hb]; exact d9) hout hRframes (by simp only [List.map_cons, List.sum_cons, hcat]; omega) hlocks
  obtain ⟨f1, f2⟩ := vx_frame hsame
  rw [hhp] at f1 f2
  have hWs : s.WarmedH U.vm := State.WarmedH.trans hW0 hW
  have hcl : s.vm.findClass cls = some ce.cls := by
    have h9 := hfX
    rw [hvm, ← hO1] at h9
    exact h9
  have hall : s.sameButNew ({ U with vm := s.vm } : State) locs mc ms := by
    subst hA
    obtain ⟨e1, e2⟩ := hsame
    rw [State.setFrames_setFrames] at e1
    have h2 : (T.setVm s.vm).sameButNew ({ U with vm := s.vm } : State) [] (0 + 1) (0 + 6) := ⟨e1, e2⟩
    have h3 := X.same.trans h2
    rw [List.append_nil] at h3
    exact h3.mono hc hs
  refine ⟨U, ?_, .threw T.heap.size, hrun, hend, Or.inr ⟨T.heap.size, rfl, cls, ce, locs, hx U hWs.alike f1 (fun q hq => f2 q hq (fun z hz => nomatch hz)), hce, hO2, hcl, hWs, hall, hf⟩⟩
  refine st1 _ ?_
  show Steps p.tables e below (T1.setTop { method := m, pc := pc + 3, locals := ls, stack := .ref T.heap.size :: rest, locked := none }) _
  jvm_step X₁.here [X₁.here.top, hexec, d3', Value.category]
  rcases d4 with ⟨d4, rfl⟩ | ⟨d4, rfl⟩
  · have d4' : decode c.code (pc + 4) = .ok (.ldc is, 2) := by rw [hb]; exact d4
    exact X₁.ldcString hexec (own := own) (text := text) (index := is) (a := sa) hown' hstr'.1 hstr'.2
      (g := { method := m, pc := pc + 4, locals := ls, stack := .ref T.heap.size :: .ref T.heap.size :: rest, locked := none }) rfl d4' _ hsteps
  · have d4' : decode c.code (pc + 4) = .ok (.ldc_w is, 3) := by rw [hb]; exact d4
    exact X₁.ldcStringW hexec (own := own) (text := text) (index := is) (a := sa) hown' hstr'.1 hstr'.2
      (g := { method := m, pc := pc + 4, locals := ls, stack := .ref T.heap.size :: .ref T.heap.size :: rest, locked := none }) rfl d4' _ hsteps
end AXU
def axIx (e : Nat) : Nat := match e with
  | 3 => 13
  | _ => 7
def axRx (e : Nat) : ByteArray := match e with
  | 3 => prog_29_method_4_code
  | _ => Bundle.six
theorem axRx_d (e : Nat) : axD (axRx e) (axIx e) := by
  have h6 : axD Bundle.six 7 := ⟨⟨Bundle.six_0, Bundle.six_1⟩, Bundle.six_2, Bundle.six_5⟩
  have h3 : axD prog_29_method_4_code 13 := ⟨⟨by decide +kernel, by decide +kernel⟩, by decide +kernel, by decide +kernel⟩
  unfold axRx axIx
  split
  · exact h3
  · exact h6
def axW (q : Nat × Nat × String × Nat × Nat × Nat × Nat) : List Cond := let o := aRn q.1; let x := aEx.getD q.2.1 ""
  Cond.classLink o q.2.2.2.1 x :: Cond.initialized x :: axAt o q.2.2.2.2.2.1 x (axIx q.2.1) (axRx q.2.1) aUp
set_option maxRecDepth 100000 in
theorem axW3_at : axW (6, 3, "", 153, 0, 157, 0) = [867, 82, 73, 511, 520, 528, 531, 533, 512, 513, 94, 95, 514, 519, 529, 549, 501, 550, 503, 551, 505, 515, 517, 507, 545, 546, 548, 507, 878, 879, 880, 539, 493, 539, 540, 541, 542, 495, 542, 543, 544, 545, 497, 877, 868, 869, 870, 527, 871, 872, 873, 874, 510, 509, 875].filterMap (fun i => lw_tbl[i]?) := by decide +kernel
set_option maxRecDepth 100000 in
theorem axW3_ok : (axW (6, 3, "", 153, 0, 157, 0)).all (fun w => aWarm w && vx_ot w) = true := by decide +kernel
theorem axW_6 {o ic : Nat} {x : String} : axAt (aRn o) ic x 7 Bundle.six aUp = vx_atS (aRn o) ic x aUp := rfl
theorem aTh_in : ∀ q ∈ aThs, (q.1 = 6 ∧ q.2.1 < 6) ∧ (∀ w ∈ axW q, w ∈ lw_tbl ∧ (aWarm w = true ∧ vx_ot w = true)) := by
  have key : ∀ (L : List Cond) (ps : List Nat), L = ps.filterMap (fun i => lw_tbl[i]?) → L.all (fun w => aWarm w && vx_ot w) = true → ∀ w ∈ L, w ∈ lw_tbl ∧ (aWarm w = true ∧ vx_ot w = true) := by
    intro L ps h1 h2 w hw
    have h3 := List.all_eq_true.mp h2 w hw
    rw [Bool.and_eq_true] at h3
    refine ⟨?_, h3⟩
    rw [h1] at hw
    obtain ⟨i, -, hi⟩ := List.mem_filterMap.mp hw
    exact List.mem_of_getElem? hi
  have k0 := key _ _ aTh0_at aTh0_ok
  have k1 := key _ _ aTh1_at aTh1_ok
  have k2 := key _ _ aTh2_at aTh2_ok
  have k3 := key _ _ axW3_at axW3_ok
  have k4 := key _ _ aTh4_at aTh4_ok
  have k5 := key _ _ aTh5_at aTh5_ok
  unfold aThs
  simp only [List.forall_mem_cons]
  refine ⟨⟨⟨trivial, by decide⟩, k3⟩, ⟨⟨⟨trivial, by decide⟩, k3⟩, ⟨⟨⟨trivial, by decide⟩, k3⟩, ⟨⟨⟨trivial, by decide⟩, k4⟩, ⟨⟨⟨trivial, by decide⟩, k4⟩, ⟨⟨⟨trivial, by decide⟩, k2⟩, ⟨⟨⟨trivial, by decide⟩, k1⟩, ⟨⟨⟨trivial, by decide⟩, k0⟩, ⟨⟨⟨trivial, by decide⟩, k5⟩, ⟨⟨⟨trivial, by decide⟩, k3⟩, ⟨⟨⟨trivial, by decide⟩, k3⟩, ⟨⟨⟨trivial, by decide⟩, k1⟩, ⟨⟨⟨trivial, by decide⟩, k1⟩, ⟨⟨⟨trivial, by decide⟩, k2⟩, ⟨⟨⟨trivial, by decide⟩, k0⟩, ⟨⟨⟨trivial, by decide⟩, k1⟩, ⟨⟨⟨trivial, by decide⟩, k2⟩, ⟨⟨⟨trivial, by decide⟩, k2⟩, ⟨⟨⟨trivial, by decide⟩, k2⟩, ⟨⟨⟨trivial, by decide⟩, k1⟩, ⟨⟨⟨trivial, by decide⟩, k0⟩, fun _ hh => by cases hh⟩⟩⟩⟩⟩⟩⟩⟩⟩⟩⟩⟩⟩⟩⟩⟩⟩⟩⟩⟩⟩
set_option maxHeartbeats 1000000 in
theorem sk_newX {l : Launch} {g : aG} {f : aFr} {y0 o : Nat} {Q : Option aV → aSt → aM → Prop} {X : Nat → aSt → aM → Prop} {p : Program} {e : Env} {R : Room} {s : State} {m : MethodId} {args : Array Value} {below : List Frame} {meth : Method} {c : Code} (hF : aFrm l g f y0 o p e R s m args below meth c) {pc t b i8 : Nat} {k : aK} {z : aM} {ls : List (Option aV)} {st : List aV}
    (hd : decode (aMt y0).2.1 pc = .ok (.new i8, 3)) (hq : aThk o (aMt y0).2.1 pc t b i8 = true) (h : (((aSml st = true ∧ 6 ≤ f.1) ∧ (k.2.1 + 1 ≤ f.2.1 ∧ k.2.2 + 6 ≤ f.2.2.1)) ∧ k.1 = none) ∧ X t k.1 z) : aBs l g f Q X p e R s m args below meth c k z pc ls st := by
  obtain ⟨⟨hx, hst, hb, hml, hown, hlk, hrt⟩, ⟨hKN, hbs, hold⟩, ⟨hex, hnm, hrk, hho, hhc⟩, hr1, hr2, hr3, hr4, hr5⟩ := hF
  unfold aThk at hq
  cases hb9 : aThs[b]? with
  | none => rw [hb9] at hq; cases hq
  | some v =>
    obtain ⟨o', x, text, ik, is, ic, ll⟩ := v
    rw [hb9] at hq
    simp only [Bool.and_eq_true, Bool.or_eq_true, decide_eq_true_eq] at hq
    obtain ⟨rfl, rfl, rfl, hx6, hdup, hrest⟩ := hq
    have hm9 := List.mem_of_getElem? hb9
    obtain ⟨⟨ho6, -⟩, hwd⟩ := aTh_in _ hm9
    have ho6' : o' = 6 := ho6
    obtain ⟨⟨⟨⟨hsm, hd6⟩, hc1, hc2⟩, hkn⟩, hX⟩ := h
    obtain ⟨sa, hsa⟩ := hKN.2.2.2.2.1 _ hm9
    obtain ⟨len, d4, d6, d9⟩ : ∃ len, ((decode (aMt y0).2.1 (pc + 4) = .ok (.ldc is, 2) ∧ len = 2) ∨ (decode (aMt y0).2.1 (pc + 4) = .ok (.ldc_w is, 3) ∧ len = 3)) ∧ decode (aMt y0).2.1 (pc + 4 + len) = .ok (.invokespecial ic, 3) ∧ decode (aMt y0).2.1 (pc + 4 + len + 3) = .ok (.athrow, 1) := by
      rcases hrest with ⟨-, q1, q2, q3⟩ | ⟨-, q1, q2, q3⟩
      · exact ⟨2, Or.inl ⟨q1, rfl⟩, q2, q3⟩
      · exact ⟨3, Or.inr ⟨q1, rfl⟩, q2, q3⟩
    intro hs hl hbd hlen H locs la hR hS hL
    have hcl6 : Bundle.fit (aEx.getD x "") = true := by
      have : ∀ x : Nat, x < 6 → Bundle.fit (aEx.getD x "") = true := by decide +kernel
      exact this x hx6
    refine axThrow (A := aA g) (own := aRn o') (cls := aEx.getD x "") (names := aUp) (ik := ik) (is := is) (ic := ic) (text := text) (sa := sa) hx hb hst (axRx_d x) hown hcl6 aUp_ok hsa
      (fun w hw => ⟨hKN.w (hwd w hw).1 (hwd w hw).2.1 args, (hwd w hw).2.2⟩) (hKN.2.2.2.2.2.2.1.kept (fun q h1 h2 => hold q h1)) (hKN.2.2.2.2.2.2.2.1.kept (fun q h1 h2 => hold q h1)) hS hL.1
      hd hdup d4 d6 d9 (fun q hq => ?_) (by show 2 + 3 < R.frames; omega) ?_ (by omega) (by omega) hlk (fun t ha h1 h2 => ?_) hS.2.2 hc1 hc2
    · rcases hho with h0 | h0
      · rw [hex, h0] at hq; cases hq
      · omega
    · have h8 := aSm_w (g := g) hsm
      show _ + (13 * (2 + 1) + 43) ≤ _
      omega
    · refine ⟨x, k.1, z, hx6, rfl, hX, ?_, ?_⟩
      · obtain ⟨b1, b2, b3, b4, b5⟩ := id hR
        refine ⟨b1.kept (fun k q hk => h2 q.1 (b1 k q hk).lt), fun q hq => (h2 q (by omega)).trans (b2 q hq), ?_, by omega, b5⟩
        rw [hkn]; trivial
      · exact ⟨Nat.le_trans hS.1 h1, fun q q1 q2 => (h2 q (Nat.lt_of_lt_of_le q1 hS.1)).trans (hS.2.1 q q1 q2)⟩
end
section
/-! THE JVM KEEPS TO THE STEP: String.length and String.charAt on the texts of the run -/
def jLen : MethodName × ByteArray × Nat × Option FieldType := (⟨"java/lang/String", "length", "()I"⟩, prog_21_method_54_code, 1, (some .int))
def jCh : MethodName × ByteArray × Nat × Option FieldType := (⟨"java/lang/String", "charAt", "(I)C"⟩, prog_21_method_56_code, 2, (some .char))
def jCo : MethodName × ByteArray × Nat × Option FieldType := (⟨"java/lang/String", "coder", "()B"⟩, prog_21_method_152_code, 1, (some .byte))
def jLa : MethodName × ByteArray × Nat × Option FieldType := (⟨"java/lang/String", "isLatin1", "()Z"⟩, prog_21_method_154_code, 1, (some .boolean))
def jC1 : MethodName × ByteArray × Nat × Option FieldType := (⟨"java/lang/StringLatin1", "charAt", "([BI)C"⟩, prog_22_method_2_code, 2, (some .char))
def jCi : MethodName × ByteArray × Nat × Option FieldType := (⟨"java/lang/String", "checkIndex", "(II)V"⟩, prog_21_method_155_code, 2, none)
def jPc : MethodName × ByteArray × Nat × Option FieldType := (⟨"jdk/internal/util/Preconditions", "checkIndex", "(IILjava/util/function/BiFunction;)I"⟩, prog_30_method_11_code, 3, (some .int))
def jWs : List Cond := [.methodLink RX3 68 jLen.1, .methodLink RX3 73 jCh.1, .instanceMethod jLen.1, .selects "java/lang/String" jLen.1 jLen.1, .code jLen.1 jLen.2.1 jLen.2.2.1 jLen.2.2.2, .instanceMethod jCh.1, .selects "java/lang/String" jCh.1 jCh.1, .code jCh.1 jCh.2.1 jCh.2.2.1 jCh.2.2.2, .instanceMethod jCo.1, .selects "java/lang/String" jCo.1 jCo.1, .code jCo.1 jCo.2.1 jCo.2.2.1 jCo.2.2.2, .instanceMethod jLa.1, .selects "java/lang/String" jLa.1 jLa.1, .code jLa.1 jLa.2.1 jLa.2.2.1 jLa.2.2.2, .static jC1.1, .code jC1.1 jC1.2.1 jC1.2.2.1 jC1.2.2.2, .static jCi.1, .code jCi.1 jCi.2.1 jCi.2.2.1 jCi.2.2.2, .static jPc.1, .code jPc.1 jPc.2.1 jPc.2.2.1 jPc.2.2.2, .initialized "java/lang/String", .initialized "java/lang/StringLatin1", .initialized "jdk/internal/util/Preconditions", .methodLink "java/lang/String" 335 jCo.1, .methodLink "java/lang/String" 492 jLa.1, .methodLink "java/lang/String" 495 jC1.1, .methodLink "java/lang/StringLatin1" 9 jCi.1, .methodLink "java/lang/String" 1059 jPc.1, .fieldLink "java/lang/String" 9 "java/lang/String" "value" "[B", .fieldLink "java/lang/String" 38 "java/lang/String" "COMPACT_STRINGS" "Z", .fieldLink "java/lang/String" 15 "java/lang/String" "coder" "B", .fieldLink "java/lang/String" 1053 "jdk/internal/util/Preconditions" "SIOOBE_FORMATTER" "Ljava/util/function/BiFunction;"]
set_option maxRecDepth 100000 in
theorem jWs_at : jWs = [1117, 1127, 1118, 1119, 1120, 1128, 1129, 1130, 1122, 1123, 1124, 1132, 1133, 1134, 1136, 1137, 1139, 1140, 1144, 1145, 81, 84, 85, 1121, 1131, 1135, 1138, 1143, 1768, 1125, 1769, 1141].filterMap (fun i => lw_tbl[i]?) := rfl
theorem jWs_ok : jWs.all aWarm = true := by decide +kernel
theorem jW {g : aG} {s : State} (hK : aKN g s) (args : Array Value) (i : Nat) {w : Cond} (h : jWs[i]? = some w) : w.before args s = true := by
  have hm := List.mem_of_getElem? h
  have h2 := List.all_eq_true.mp jWs_ok w hm
  rw [jWs_at] at hm
  obtain ⟨k, -, hk⟩ := List.mem_filterMap.mp hm
  exact hK.w (List.mem_of_getElem? hk) h2 args
def jU (g : aG) : State → Prop := fun U => aKN g U ∧ aBase g ≤ U.heap.size ∧ ∀ q : Nat, q < aBase g → U.heap[q]? = g.2.2.2.1[q]?
theorem jU_blind {g : aG} {av : List Value} : FrameBlind (va_Pc av (jU g)) := fun _ U _ _ h => ⟨h.1, h.2.1.warm (s := U) (State.WarmedH.refl U), h.2.2⟩
def jM (l : Launch) (g : aG) (q : MethodName × ByteArray × Nat × Option FieldType) (d : Nat) (as : List Value) (r : Option Value) : Prop :=
  vx_Met l q.1 [.code q.1 q.2.1 q.2.2.1 q.2.2.2] { frames := d, cells := 0, slots := 0, locals := 100 * d } (va_Pc as (jU g)) (fun _ st o t => o = .returned r ∧ t.heap = st.heap) (fun _ _ _ => False) 0 0 (fun _ => False)
/-- a body's facts -/
abbrev jB (g : aG) (q : MethodName × ByteArray × Nat × Option FieldType) (d : Nat) (p : Program) (R : Room) (s : State) (m : MethodId) (meth : Method) (c : Code) : Prop :=
  p.tables.exec = Jvm.exec ∧ c.code = q.2.1 ∧ c.maxLocals = q.2.2.1 ∧ s.vm.findClass q.1.cls = some m.cls ∧ meth.locks = false ∧ meth.sig.returnType = q.2.2.2 ∧ jU g s ∧ d ≤ R.frames ∧ 100 * d ≤ R.locals ∧ va_S (aA g) s.heap s.heap []
theorem jOf {l : Launch} {g : aG} {q : MethodName × ByteArray × Nat × Option FieldType} {d : Nat} {as : List Value} {r : Option Value} (hy : plainName q.1.cls = true) (hn : (lg_sl as).length ≤ q.2.2.1)
    (body : ∀ p e R s m below meth c la, jB g q d p R s m meth c → lv_has la q.2.2.1 (lv_args 0 as) → W p l e R s m as.toArray below meth c s.heap [] 0 0 (vx_MQ below (fun _ st o t => o = .returned r ∧ t.heap = st.heap) (fun _ _ _ => False) as.toArray s 0 0 (fun _ => False)) (F0 m 0 la [])) : jM l g q d as r := by
  refine vx_ofW (cc := q.2.1) (maxL := q.2.2.1) (ret := q.2.2.2) hy rfl ?_
  intro p e s m args below meth c s₁ B hml hx hv
  obtain ⟨rfl, hU⟩ := hv
  rw [lg_entry_eq]
  exact body p e _ s m below meth c _ ⟨B.exec, B.bytes, hml, findClass_of_methodNamed B.named, B.notSynchronized, B.returns, hU, Nat.le_refl _, Nat.le_refl _, va_S.rf⟩ (lv_entry as hn)
section JCALL
variable {p : Program} {l : Launch} {e : Env} {R : Room} {s : State} {m : MethodId} {args : Array Value} {below : List Frame} {meth : Method} {c : Code} {H : Heap} {locs : List Loc} {u v : Nat} {Z : State → Prop} {g : aG}
theorem jAfter {pc : Nat} {la : Array Slot} {st0 rest : List Value} {r : Option Value} (hr : vx_Run p l e R s m args below meth c H locs u v 0 0 (F0 m pc la st0) rest (fun (st : State) (o : Outcome) (t : State) => o = .returned r ∧ t.heap = st.heap) (fun _ _ _ => False) (fun _ => False))
    (kk : W p l e R s m args below meth c H locs u v Z (F0 m (pc + 3) la (r.toList ++ rest))) : W p l e R s m args below meth c H locs u v Z (F0 m pc la st0) := by
  intro T hT X0
  rcases hr T hT X0 with ⟨w, st₀, t, T', L, h0, X', hL, e1, e2, hq, st⟩ | ⟨q, st₀, t, T', L, E, ce, h0, X', hL, e1, e2, hx, -⟩
  · obtain ⟨k1, k2⟩ := hq
    cases k1
    have hLn : L = [] := by
      rcases L with _ | ⟨q, L⟩
      · rfl
      · exact (hL q List.mem_cons_self).elim
    subst hLn
    rw [List.append_nil] at X'
    obtain ⟨t2, a1, b1⟩ := kk T' (by rw [e1, k2]; exact h0) X'
    exact ⟨t2, st t2 a1, b1⟩
  · exact hx.elim
theorem jCallV {q : MethodName × ByteArray × Nat × Option FieldType} {d n pc idx : Nat} {own : String} {la : Array Slot} {As rest : List Value} {r : Option Value} {b : Nat} (hM : jM l g q d (.ref b :: As) r)
    (hx : p.tables.exec = Jvm.exec) {cc : ByteArray} (hb : c.code = cc) (hown : s.vm.findClass own = some m.cls) (hla : la.size = c.maxLocals) (hU : aKN g s) (hH : aBase g ≤ H.size ∧ ∀ q : Nat, q < aBase g → H[q]? = g.2.2.2.1[q]?)
    (hw : ((Cond.methodLink own idx q.1).before args s = true ∧ (Cond.instanceMethod q.1).before args s = true) ∧ ((Cond.selects q.1.cls q.1 q.1).before args s = true ∧ (Cond.initialized q.1.cls).before args s = true) ∧ (Cond.code q.1 q.2.1 q.2.2.1 q.2.2.2).before args s = true)
    (hy : q.1.cls ≠ "java/lang/invoke/MethodHandle" ∧ q.1.cls ≠ "java/lang/invoke/VarHandle") (hn : (parseMethodDescriptor q.1.desc).map (fun d => d.parameters.length) = some n) (hn2 : As.length = n)
    (hrc : ∃ cell : Cell, H[b]? = some cell ∧ cell.vm.isStatics = false ∧ s.vm.findClass q.1.cls = some cell.cls) (hW : (rest.map fun v => v.category).sum ≤ 8) (hd : decode cc pc = .ok (.invokevirtual idx, 3))
    (hfr : d + 1 ≤ R.frames) (hlo : 8 + (q.2.2.1 + 11) + 100 * d ≤ R.locals) (huv : u ≤ R.cells ∧ v ≤ R.slots)
    (kk : W p l e R s m args below meth c H locs u v Z (F0 m (pc + 3) la (r.toList ++ rest))) : W p l e R s m args below meth c H locs u v Z (F0 m pc la (As.reverse ++ .ref b :: rest)) := by
  obtain ⟨⟨w1, w2⟩, ⟨w3, w4⟩, w5⟩ := hw
  have hgd : ∀ w ∈ [Cond.code q.1 q.2.1 q.2.2.1 q.2.2.2], ∀ (a' : Array Value) (U : State), s.WarmedH U.vm → w.before a' U = true := by
    intro w hw a' U hWm
    rw [List.mem_singleton.mp hw]
    exact word_at hWm (good_of_word rfl) w5
  exact jAfter (vx_runV (C := q.1.cls) (b := b) (As := As) (n := As.length) (index := idx) (own := own) (Ts := []) ⟨hx, hb, rfl, hown, fun _ h => by cases h⟩ hM
    ⟨⟨rfl, rfl, hfr, hlo, hgd, List.mem_singleton_self _, w5, w4, hy, fun sig hs => by rw [hs] at hn; exact hn2.trans (Option.some.inj hn).symm, w1⟩, w2, w3⟩
    ⟨jU_blind, hrc, fun U hU9 hWm => ⟨rfl, hU.warm hWm, by rw [hU9]; exact hH⟩⟩ rfl rfl hla rfl (lv_room hW) hd ⟨huv.1, huv.2⟩) kk
theorem jCallS {q : MethodName × ByteArray × Nat × Option FieldType} {d n pc idx : Nat} {own : String} {la : Array Slot} {As rest : List Value} {r : Option Value} (hM : jM l g q d As r)
    (hx : p.tables.exec = Jvm.exec) {cc : ByteArray} (hb : c.code = cc) (hown : s.vm.findClass own = some m.cls) (hla : la.size = c.maxLocals) (hU : aKN g s) (hH : aBase g ≤ H.size ∧ ∀ q : Nat, q < aBase g → H[q]? = g.2.2.2.1[q]?)
    (hw : ((Cond.methodLink own idx q.1).before args s = true ∧ (Cond.static q.1).before args s = true) ∧ (Cond.initialized q.1.cls).before args s = true ∧ (Cond.code q.1 q.2.1 q.2.2.1 q.2.2.2).before args s = true)
    (hy : q.1.cls ≠ "java/lang/invoke/MethodHandle" ∧ q.1.cls ≠ "java/lang/invoke/VarHandle") (hn : (parseMethodDescriptor q.1.desc).map (fun d => d.parameters.length) = some n) (hn2 : As.length = n)
    (hW : (rest.map fun v => v.category).sum ≤ 8) (hd : decode cc pc = .ok (.invokestatic idx, 3))
    (hfr : d + 1 ≤ R.frames) (hlo : 8 + (q.2.2.1 + 11) + 100 * d ≤ R.locals) (huv : u ≤ R.cells ∧ v ≤ R.slots)
    (kk : W p l e R s m args below meth c H locs u v Z (F0 m (pc + 3) la (r.toList ++ rest))) : W p l e R s m args below meth c H locs u v Z (F0 m pc la (As.reverse ++ rest)) := by
  obtain ⟨⟨w1, w2⟩, w4, w5⟩ := hw
  have hgd : ∀ w ∈ [Cond.code q.1 q.2.1 q.2.2.1 q.2.2.2], ∀ (a' : Array Value) (U : State), s.WarmedH U.vm → w.before a' U = true := by
    intro w hw a' U hWm
    rw [List.mem_singleton.mp hw]
    exact word_at hWm (good_of_word rfl) w5
  exact jAfter (vx_runS (As := As) (n := As.length) (index := idx) (own := own) (Ts := []) ⟨hx, hb, rfl, hown, fun _ h => by cases h⟩ hM
    ⟨⟨rfl, rfl, hfr, hlo, hgd, List.mem_singleton_self _, w5, w4, hy, fun sig hs => by rw [hs] at hn; exact hn2.trans (Option.some.inj hn).symm, w1⟩, w2⟩
    ⟨jU_blind, fun U hU9 hWm => ⟨rfl, hU.warm hWm, by rw [hU9]; exact hH⟩⟩ rfl rfl hla rfl (lv_room hW) hd ⟨huv.1, huv.2⟩) kk
end JCALL
abbrev jLs : List Nat := aPtc.map List.length
abbrev jBs : List (List Int32) := aPtc.map (fun t => t.map Int32.ofInt)
abbrev jSx (g : aG) (U : State) (H : Heap) (adV : Nat → Nat) : Prop := vk_S 9 jLs jBs g.2.2.1 adV (aA g) U H

theorem jCo_ct {l : Launch} {g : aG} {i : Nat} (hi : i < 9) : jM l g jCo 0 [.ref (g.2.2.1 i)] (some (.int 0)) := by
  refine jOf (by decide) (Nat.le_of_ble_eq_true rfl) ?_
  intro p e R s m below meth c la hB hl
  obtain ⟨hx, hb, hml, hown, hlk, hrt, ⟨hKN, hbs, hold⟩, hfr, hlo, hS⟩ := hB
  have hla : la.size = c.maxLocals := hl.1.trans hml.symm
  have hT0 := hKN.2.2.2.2.2.2.2.2.2.1.1
  have hT := hT0.kept (fun q h1 h2 => hold q h1)
  obtain ⟨hO, hCo, hVa, hAr⟩ := hT.1 i hi
  have hC := hKN.2.2.2.2.2.2.2.2.2.1.2.1.kept (fun q h1 h2 => hold q h1)
  refine va_gets hx hb hC hS hown (jW hKN _ 29 rfl) (fun _ h => h) (by decide +kernel) ?_
  refine lv_if_eq (off := 10) (tgt := 13) hx hb (by decide +kernel) (by decide) (fun q => absurd q (by decide)) (fun q => ?_)
  refine lv_aload_n (k := 0) (i := 0) hx hb (by decide +kernel) rfl (lv_at hl 0 rfl) ?_
  refine vk_getf hx hb hCo hS hown (jW hKN _ 30 rfl) (fun _ h => h) (by decide +kernel) ?_
  refine lv_goto (off := 4) (tgt := 14) hx hb (by decide +kernel) (by decide) ?_
  refine vx_ret ?_
  exact W.zret hx hb hrt rfl (fun t ht hW => ⟨rfl, ht⟩) (fun q h => by cases h) (by decide +kernel) hlk

theorem jLa_ct {l : Launch} {g : aG} {i : Nat} (hi : i < 9) : jM l g jLa 0 [.ref (g.2.2.1 i)] (some (.int 1)) := by
  refine jOf (by decide) (Nat.le_of_ble_eq_true rfl) ?_
  intro p e R s m below meth c la hB hl
  obtain ⟨hx, hb, hml, hown, hlk, hrt, ⟨hKN, hbs, hold⟩, hfr, hlo, hS⟩ := hB
  have hla : la.size = c.maxLocals := hl.1.trans hml.symm
  have hT0 := hKN.2.2.2.2.2.2.2.2.2.1.1
  have hT := hT0.kept (fun q h1 h2 => hold q h1)
  obtain ⟨hO, hCo, hVa, hAr⟩ := hT.1 i hi
  have hC := hKN.2.2.2.2.2.2.2.2.2.1.2.1.kept (fun q h1 h2 => hold q h1)
  refine va_gets hx hb hC hS hown (jW hKN _ 29 rfl) (fun _ h => h) (by decide +kernel) ?_
  refine lv_if_eq (off := 14) (tgt := 17) hx hb (by decide +kernel) (by decide) (fun q => absurd q (by decide)) (fun q => ?_)
  refine lv_aload_n (k := 0) (i := 0) hx hb (by decide +kernel) rfl (lv_at hl 0 rfl) ?_
  refine vk_getf hx hb hCo hS hown (jW hKN _ 30 rfl) (fun _ h => h) (by decide +kernel) ?_
  refine lv_if_ne (off := 7) (tgt := 17) hx hb (by decide +kernel) (by decide) (fun q => absurd rfl q) (fun q => ?_)
  refine lv_iconst hx hb (n := 1) (v := 1) (by decide +kernel) rfl ?_
  refine lv_goto (off := 4) (tgt := 18) hx hb (by decide +kernel) (by decide) ?_
  refine vx_ret ?_
  exact W.zret hx hb hrt rfl (fun t ht hW => ⟨rfl, ht⟩) (fun q h => by cases h) (by decide +kernel) hlk

theorem jLen_ct {l : Launch} {g : aG} {i : Nat} (hi : i < 9) : jM l g jLen 1 [.ref (g.2.2.1 i)] (some (.int (iZ (jLs.getD i 0 : Int)))) := by
  refine jOf (by decide) (Nat.le_of_ble_eq_true rfl) ?_
  intro p e R s m below meth c la hB hl
  obtain ⟨hx, hb, hml, hown, hlk, hrt, ⟨hKN, hbs, hold⟩, hfr, hlo, hS⟩ := hB
  have hla : la.size = c.maxLocals := hl.1.trans hml.symm
  have hT0 := hKN.2.2.2.2.2.2.2.2.2.1.1
  have hT := hT0.kept (fun q h1 h2 => hold q h1)
  obtain ⟨hO, hCo, hVa, hAr⟩ := hT.1 i hi
  refine lv_aload_n (k := 0) (i := 0) hx hb (by decide +kernel) rfl (lv_at hl 0 rfl) ?_
  refine vk_getf hx hb hVa hS hown (jW hKN _ 28 rfl) (fun _ h => h) (by decide +kernel) ?_
  refine va_tlen hx hb hAr hS (v := iZ (jLs.getD i 0 : Int)) ?_ (by decide +kernel) ?_
  · unfold iZ
    rfl
  refine lv_aload_n (k := 0) (i := 0) hx hb (by decide +kernel) rfl (lv_at hl 0 rfl) ?_
  refine jCallV (n := 0) (As := []) (own := "java/lang/String") (rest := [.int (iZ (jLs.getD i 0 : Int))]) (jCo_ct (l := l) (g := g) hi) hx hb hown hla hKN ⟨hbs, hold⟩ ⟨⟨jW hKN _ 23 rfl, jW hKN _ 8 rfl⟩, ⟨jW hKN _ 9 rfl, jW hKN _ 20 rfl⟩, jW hKN _ 10 rfl⟩ (by decide) (by decide +kernel) rfl (vk_recv hT hi hS) (Nat.le_of_ble_eq_true rfl) (by decide +kernel) hfr (Nat.le_trans (by decide) hlo) ⟨Nat.zero_le _, Nat.zero_le _⟩ ?_
  refine lv_ishr hx hb (x := iZ (jLs.getD i 0 : Int)) (y := 0) (by decide +kernel) ?_
  rw [show iZ (jLs.getD i 0 : Int) >>> ((0 : Int32) &&& 31) = iZ (jLs.getD i 0 : Int) from by
    have h0 : ∀ i : Nat, i < 9 → iZ (jLs.getD i 0 : Int) >>> ((0 : Int32) &&& 31) = iZ (jLs.getD i 0 : Int) := by decide +kernel
    exact h0 i hi]
  refine vx_ret ?_
  exact W.zret hx hb hrt rfl (fun t ht hW => ⟨rfl, ht⟩) (fun q h => by cases h) (by decide +kernel) hlk

theorem jPc_ct {l : Launch} {g : aG} {x n : Int} {v : Value} (hv : v = .null ∨ ∃ a, v = .ref a) (h0 : 0 ≤ x) (h1 : x < n) (h2 : n ≤ 2147483647) : jM l g jPc 0 [.int (iZ x), .int (iZ n), v] (some (.int (iZ x))) := by
  have hc2 : v.category = 1 := by rcases hv with rfl | ⟨a, rfl⟩ <;> rfl
  refine jOf (by decide) (by rcases hv with rfl | ⟨a, rfl⟩ <;> exact Nat.le_of_ble_eq_true rfl) ?_
  intro p e R s m below meth c la hB hl
  obtain ⟨hx, hb, hml, hown, hlk, hrt, ⟨hKN, hbs, hold⟩, hfr, hlo, hS⟩ := hB
  have hl : lv_has la 3 [(0, .int (iZ x)), (1, .int (iZ n)), (2, v)] := by
    rcases hv with rfl | ⟨a, rfl⟩ <;> exact hl
  refine lv_iload_n (k := 0) (i := 0) hx hb (by decide +kernel) rfl (lv_at hl 0 rfl) ?_
  refine lv_if_lt (off := 8) (tgt := 9) hx hb (by decide +kernel) (by decide) (fun q => ?_) (fun q => ?_)
  · exfalso
    rw [← iZ_0, iZ_lt ⟨by omega, by omega⟩ ⟨by omega, by omega⟩] at q
    omega
  refine lv_iload_n (k := 0) (i := 0) hx hb (by decide +kernel) rfl (lv_at hl 0 rfl) ?_
  refine lv_iload_n (k := 1) (i := 1) hx hb (by decide +kernel) rfl (lv_at hl 1 rfl) ?_
  refine lv_icmp_lt (off := 10) (tgt := 16) hx hb (by decide +kernel) (by decide) (fun q => ?_) (fun q => ?_)
  · refine lv_iload_n (k := 0) (i := 0) hx hb (by decide +kernel) rfl (lv_at hl 0 rfl) ?_
    refine vx_ret ?_
    exact W.zret hx hb hrt rfl (fun t ht hW => ⟨rfl, ht⟩) (fun q h => by cases h) (by decide +kernel) hlk
  · exact absurd ((iZ_lt ⟨by omega, by omega⟩ ⟨by omega, by omega⟩).mpr h1) q

theorem jCi_ct {l : Launch} {g : aG} {x n : Int} (h0 : 0 ≤ x) (h1 : x < n) (h2 : n ≤ 2147483647) : jM l g jCi 1 [.int (iZ x), .int (iZ n)] none := by
  refine jOf (by decide) (Nat.le_of_ble_eq_true rfl) ?_
  intro p e R s m below meth c la hB hl
  obtain ⟨hx, hb, hml, hown, hlk, hrt, ⟨hKN, hbs, hold⟩, hfr, hlo, hS⟩ := hB
  have hla : la.size = c.maxLocals := hl.1.trans hml.symm
  refine lv_iload_n (k := 0) (i := 0) hx hb (by decide +kernel) rfl (lv_at hl 0 rfl) ?_
  refine lv_iload_n (k := 1) (i := 1) hx hb (by decide +kernel) rfl (lv_at hl 1 rfl) ?_
  obtain ⟨v, hv, hZ⟩ : ∃ v : Value, (v = .null ∨ ∃ a, v = .ref a) ∧ va_Z "jdk/internal/util/Preconditions" "SIOOBE_FORMATTER" "Ljava/util/function/BiFunction;" v (aA g) s s.heap := by
    rcases hKN.2.2.2.2.2.2.2.2.2.1.2.2.kept (fun q h1 h2 => hold q h1) with h | ⟨a, h⟩
    · exact ⟨_, Or.inl rfl, h⟩
    · exact ⟨_, Or.inr ⟨a, rfl⟩, h⟩
  refine va_gets hx hb hZ hS hown (jW hKN _ 31 rfl) (fun _ h => h) (by decide +kernel) ?_
  refine jCallS (n := 3) (As := [.int (iZ x), .int (iZ n), v]) (own := "java/lang/String") (rest := []) (jPc_ct (l := l) (g := g) hv h0 h1 h2) hx hb hown hla hKN ⟨hbs, hold⟩ ⟨⟨jW hKN _ 27 rfl, jW hKN _ 18 rfl⟩, jW hKN _ 22 rfl, jW hKN _ 19 rfl⟩ (by decide) (by decide +kernel) rfl (Nat.le_of_ble_eq_true rfl) (by decide +kernel) hfr (Nat.le_trans (by decide) hlo) ⟨Nat.zero_le _, Nat.zero_le _⟩ ?_
  refine lv_pop hx hb (va := .int (iZ x)) (by decide +kernel) rfl ?_
  refine vx_ret ?_
  exact W.vret hx hb hrt (fun t ht hW => ⟨rfl, ht⟩) (fun q h => by cases h) (by decide +kernel) hlk

theorem jTx {i j : Nat} (hi : i < 9) (hj : j < jLs.getD i 0) : jLs.getD i 0 ≤ 2147483647 ∧ ((((jBs.getD i []).getD j 0 &&& 255).toUInt32 % 65536).toInt32 = iZ ((aPtc.getD i []).getD j 0) ∧ narrow .char (.int (iZ ((aPtc.getD i []).getD j 0))) = .int (iZ ((aPtc.getD i []).getD j 0))) := by
  have h0 : ∀ i : Nat, i < 9 → ∀ j : Nat, j < jLs.getD i 0 → jLs.getD i 0 ≤ 2147483647 ∧ ((((jBs.getD i []).getD j 0 &&& 255).toUInt32 % 65536).toInt32 = iZ ((aPtc.getD i []).getD j 0) ∧ narrow .char (.int (iZ ((aPtc.getD i []).getD j 0))) = .int (iZ ((aPtc.getD i []).getD j 0))) := by decide +kernel
  exact h0 i hi j hj
theorem jC1_ct {l : Launch} {g : aG} {i : Nat} {x : Int} (hi : i < 9) (h0 : 0 ≤ x) (h1 : x < (jLs.getD i 0 : Int)) {a : Nat} (ha : ∀ s, jU g s → va_T .byte a (jLs.getD i 0) (fun j => .int ((jBs.getD i []).getD j 0)) (aA g) s s.heap) : jM l g jC1 2 [.ref a, .int (iZ x)] (some (.int (iZ ((aPtc.getD i []).getD x.toNat 0)))) := by
  obtain ⟨t1, t2, t3⟩ := jTx (j := x.toNat) hi (by omega)
  refine jOf (by decide) (Nat.le_of_ble_eq_true rfl) ?_
  intro p e R s m below meth c la hB hl
  obtain ⟨hx, hb, hml, hown, hlk, hrt, ⟨hKN, hbs, hold⟩, hfr, hlo, hS⟩ := hB
  have hla : la.size = c.maxLocals := hl.1.trans hml.symm
  have hAr := ha s ⟨hKN, hbs, hold⟩
  refine lv_iload_n (k := 1) (i := 1) hx hb (by decide +kernel) rfl (lv_at hl 1 rfl) ?_
  refine lv_aload_n (k := 0) (i := 0) hx hb (by decide +kernel) rfl (lv_at hl 0 rfl) ?_
  refine va_tlen hx hb hAr hS (v := iZ (jLs.getD i 0 : Int)) ?_ (by decide +kernel) ?_
  · unfold iZ
    rfl
  refine jCallS (n := 2) (As := [.int (iZ x), .int (iZ (jLs.getD i 0 : Int))]) (own := "java/lang/StringLatin1") (rest := []) (jCi_ct (l := l) (g := g) h0 h1 (by omega)) hx hb hown hla hKN ⟨hbs, hold⟩ ⟨⟨jW hKN _ 26 rfl, jW hKN _ 16 rfl⟩, jW hKN _ 20 rfl, jW hKN _ 17 rfl⟩ (by decide) (by decide +kernel) rfl (Nat.le_of_ble_eq_true rfl) (by decide +kernel) hfr (Nat.le_trans (by decide) hlo) ⟨Nat.zero_le _, Nat.zero_le _⟩ ?_
  refine lv_aload_n (k := 0) (i := 0) hx hb (by decide +kernel) rfl (lv_at hl 0 rfl) ?_
  refine lv_iload_n (k := 1) (i := 1) hx hb (by decide +kernel) rfl (lv_at hl 1 rfl) ?_
  have hcl := iZ_cl (x := x) h0 (by omega)
  refine va_tb hx hb hAr hS (i := iZ x) (v := .int ((jBs.getD i []).getD x.toNat 0)) ?_ (by rw [hcl]) (by decide +kernel) ?_
  · intro q
    rcases q with q | q
    · rw [← iZ_0, iZ_lt ⟨by omega, by omega⟩ ⟨by omega, by omega⟩] at q
      omega
    · rw [hcl] at q
      omega
  refine lv_sipush hx hb (n := 255) (v := 255) (by decide +kernel) (by decide) ?_
  refine lv_iand hx hb (by decide +kernel) ?_
  refine lv_i2c hx hb (v := iZ ((aPtc.getD i []).getD x.toNat 0)) (by decide +kernel) t2 ?_
  refine vx_ret ?_
  exact W.zret hx hb hrt t3 (fun t ht hW => ⟨rfl, ht⟩) (fun q h => by cases h) (by decide +kernel) hlk

theorem jCh_ct {l : Launch} {g : aG} {i : Nat} {x : Int} (hi : i < 9) (h0 : 0 ≤ x) (h1 : x < (jLs.getD i 0 : Int)) : jM l g jCh 3 [.ref (g.2.2.1 i), .int (iZ x)] (some (.int (iZ ((aPtc.getD i []).getD x.toNat 0)))) := by
  obtain ⟨t1, t2, t3⟩ := jTx (j := x.toNat) hi (by omega)
  refine jOf (by decide) (Nat.le_of_ble_eq_true rfl) ?_
  intro p e R s m below meth c la hB hl
  obtain ⟨hx, hb, hml, hown, hlk, hrt, ⟨hKN, hbs, hold⟩, hfr, hlo, hS⟩ := hB
  have hla : la.size = c.maxLocals := hl.1.trans hml.symm
  have hT0 := hKN.2.2.2.2.2.2.2.2.2.1.1
  have hT := hT0.kept (fun q h1 h2 => hold q h1)
  obtain ⟨hO, hCo, hVa, hAr⟩ := hT.1 i hi
  refine lv_aload_n (k := 0) (i := 0) hx hb (by decide +kernel) rfl (lv_at hl 0 rfl) ?_
  refine jCallV (n := 0) (As := []) (own := "java/lang/String") (rest := []) (jLa_ct (l := l) (g := g) hi) hx hb hown hla hKN ⟨hbs, hold⟩ ⟨⟨jW hKN _ 24 rfl, jW hKN _ 11 rfl⟩, ⟨jW hKN _ 12 rfl, jW hKN _ 20 rfl⟩, jW hKN _ 13 rfl⟩ (by decide) (by decide +kernel) rfl (vk_recv hT hi hS) (Nat.le_of_ble_eq_true rfl) (by decide +kernel) (Nat.le_trans (by decide) hfr) (Nat.le_trans (by decide) hlo) ⟨Nat.zero_le _, Nat.zero_le _⟩ ?_
  refine lv_if_eq (off := 12) (tgt := 16) hx hb (by decide +kernel) (by decide) (fun q => absurd q (by decide)) (fun q => ?_)
  refine lv_aload_n (k := 0) (i := 0) hx hb (by decide +kernel) rfl (lv_at hl 0 rfl) ?_
  refine vk_getf hx hb hVa hS hown (jW hKN _ 28 rfl) (fun _ h => h) (by decide +kernel) ?_
  refine lv_iload_n (k := 1) (i := 1) hx hb (by decide +kernel) rfl (lv_at hl 1 rfl) ?_
  refine jCallS (n := 2) (As := [.ref (g.2.2.1 (100 + i)), .int (iZ x)]) (own := "java/lang/String") (rest := []) (jC1_ct (l := l) (g := g) hi h0 h1 (a := g.2.2.1 (100 + i)) (fun s2 h2 => ?_)) hx hb hown hla hKN ⟨hbs, hold⟩ ⟨⟨jW hKN _ 25 rfl, jW hKN _ 14 rfl⟩, jW hKN _ 21 rfl, jW hKN _ 15 rfl⟩ (by decide) (by decide +kernel) rfl (Nat.le_of_ble_eq_true rfl) (by decide +kernel) hfr (Nat.le_trans (by decide) hlo) ⟨Nat.zero_le _, Nat.zero_le _⟩ ?_
  · exact ((h2.1.2.2.2.2.2.2.2.2.2.1.1.kept (fun q h1 h3 => h2.2.2 q h1)).1 i hi).2.2.2
  refine vx_ret ?_
  exact W.zret hx hb hrt t3 (fun t ht hW => ⟨rfl, ht⟩) (fun q h => by cases h) (by decide +kernel) hlk
end
section
/-! THE JVM KEEPS TO THE STEP: the texts' methods, as the walk sees them -/
set_option maxRecDepth 100000 in
theorem aPms_str : aPms.all (fun q => (!(Nat.beq q.2.2.1 9) || (Nat.beq q.1 3 && Nat.beq q.2.1 68)) && (!(Nat.beq q.2.2.1 10) || (Nat.beq q.1 3 && Nat.beq q.2.1 73))) = true := by decide +kernel
theorem aPms_9 {o i8 b : Nat} (h : (o, i8, 9, b) ∈ aPms) : o = 3 ∧ i8 = 68 := by
  have h1 := List.all_eq_true.mp aPms_str _ h
  simp at h1
  exact h1.1
theorem aPms_10 {o i8 b : Nat} (h : (o, i8, 10, b) ∈ aPms) : o = 3 ∧ i8 = 73 := by
  have h1 := List.all_eq_true.mp aPms_str _ h
  simp at h1
  exact h1.2
theorem aLp_30 {s : aSt} {q : aP} (h : aLp s q) (hq : q.1 = 30) : q.2.1.toNat < 9 := by
  rcases h with h | h | h
  · have := (aOkp h.1).2.2
    omega
  · exact h.2
  · omega
theorem aAd_30 {g : aG} {q : aP} (hq : q.1 = 30) : aAd g q = g.2.2.1 q.2.1.toNat := by
  obtain ⟨a, b, c⟩ := q
  cases hq
  rfl
theorem jLs_at : ∀ i : Nat, i < 9 → jLs.getD i 0 = (aPtc.getD i []).length := by decide +kernel

theorem sk_slen {l : Launch} {g : aG} {f : aFr} {y0 o : Nat} {Q : Option aV → aSt → aM → Prop} {X : Nat → aSt → aM → Prop} {p : Program} {e : Env} {R : Room} {s : State} {m : MethodId} {args : Array Value} {below : List Frame} {meth : Method} {c : Code} (hF : aFrm l g f y0 o p e R s m args below meth c) {pc i8 b : Nat} {k : aK} {z : aM} {ls : List (Option aV)} {st : List aV} {K : aK → aM → Nat → List (Option aV) → List aV → Prop}
    (hq : (o, i8, 9, b) ∈ aPms) (hd : decode (aMt y0).2.1 pc = .ok (.invokevirtual i8, 3)) (h : aPrim f 9 (pc + 3) k z ls st K) (hK : ∀ k z pc ls st, K k z pc ls st → aBs l g f Q X p e R s m args below meth c k z pc ls st) : aBs l g f Q X p e R s m args below meth c k z pc ls st := by
  obtain ⟨⟨hx, hst, hb, hml, hown, hlk, hrt⟩, ⟨hKN, hbs, hold⟩, ⟨hex, hnm, hrk, hho, hhc⟩, hr1, hr2, hr3, hr4, hr5⟩ := hF
  obtain ⟨rfl, rfl⟩ := aPms_9 hq
  rcases st with _ | ⟨q1, st⟩
  · exact False.elim h
  rcases q1 with q1 | q1 | q1 | q1
  · exact False.elim h
  · exact False.elim h
  · obtain ⟨⟨h30, hsm, hd4⟩, h9⟩ := h
    intro hs hl hbd hlen H locs la hR hS hL
    have hi := aLp_30 (hs (.inr (.inr (.inl q1))) List.mem_cons_self) h30
    refine W.eq (g2 := F0 m pc la (([] : List Value).reverse ++ .ref (g.2.2.1 q1.2.1.toNat) :: st.map (aC g))) (by simp [aC, aAd_30 h30]) ?_
    have hT := (hKN.2.2.2.2.2.2.2.2.2.1.1.kept (fun q h1 h2 => hold q h1))
    refine jCallV (n := 0) (own := RX3) (jLen_ct (l := l) (g := g) hi) hx hb hown hL.1 hKN ⟨hR.2.2.2.1, hR.2.1⟩ ⟨⟨jW hKN _ 0 rfl, jW hKN _ 2 rfl⟩, ⟨jW hKN _ 3 rfl, jW hKN _ 20 rfl⟩, jW hKN _ 4 rfl⟩ (by decide) (by decide +kernel) rfl (vk_recv hT hi hS) (aSm_w hsm) hd (by omega) (by show 8 + (1 + 11) + 100 * 1 ≤ R.locals; omega) ⟨Nat.le_trans hbd.1 hr2, Nat.le_trans hbd.2 hr3⟩ ?_
    rw [jLs_at _ hi]
    exact hK _ _ _ _ _ h9 (aLv_c (w := .inl ((aPtc.getD q1.2.1.toNat []).length : Int)) trivial (aLv_tl hs)) hl hbd hlen H locs la hR hS hL
  · exact False.elim h

theorem sk_sat {l : Launch} {g : aG} {f : aFr} {y0 o : Nat} {Q : Option aV → aSt → aM → Prop} {X : Nat → aSt → aM → Prop} {p : Program} {e : Env} {R : Room} {s : State} {m : MethodId} {args : Array Value} {below : List Frame} {meth : Method} {c : Code} (hF : aFrm l g f y0 o p e R s m args below meth c) {pc i8 b : Nat} {k : aK} {z : aM} {ls : List (Option aV)} {st : List aV} {K : aK → aM → Nat → List (Option aV) → List aV → Prop}
    (hq : (o, i8, 10, b) ∈ aPms) (hd : decode (aMt y0).2.1 pc = .ok (.invokevirtual i8, 3)) (h : aPrim f 10 (pc + 3) k z ls st K) (hK : ∀ k z pc ls st, K k z pc ls st → aBs l g f Q X p e R s m args below meth c k z pc ls st) : aBs l g f Q X p e R s m args below meth c k z pc ls st := by
  obtain ⟨⟨hx, hst, hb, hml, hown, hlk, hrt⟩, ⟨hKN, hbs, hold⟩, ⟨hex, hnm, hrk, hho, hhc⟩, hr1, hr2, hr3, hr4, hr5⟩ := hF
  obtain ⟨rfl, rfl⟩ := aPms_10 hq
  rcases st with _ | ⟨x1, st⟩
  · exact False.elim h
  rcases x1 with x1 | x1 | x1 | x1
  · rcases st with _ | ⟨q1, st⟩
    · exact False.elim h
    rcases q1 with q1 | q1 | q1 | q1
    · exact False.elim h
    · exact False.elim h
    · obtain ⟨⟨⟨h30, hsm, hd4⟩, hx0, hx1⟩, h9⟩ := h
      intro hs hl hbd hlen H locs la hR hS hL
      have hi := aLp_30 (hs (.inr (.inr (.inl q1))) (by simp)) h30
      refine W.eq (g2 := F0 m pc la (([.int (iZ x1)] : List Value).reverse ++ .ref (g.2.2.1 q1.2.1.toNat) :: st.map (aC g))) (by simp [aC, aAd_30 h30]) ?_
      have hT := (hKN.2.2.2.2.2.2.2.2.2.1.1.kept (fun q h1 h2 => hold q h1))
      refine jCallV (n := 1) (own := RX3) (jCh_ct (l := l) (g := g) (x := x1) hi hx0 (by rw [jLs_at _ hi]; exact hx1)) hx hb hown hL.1 hKN ⟨hR.2.2.2.1, hR.2.1⟩ ⟨⟨jW hKN _ 1 rfl, jW hKN _ 5 rfl⟩, ⟨jW hKN _ 6 rfl, jW hKN _ 20 rfl⟩, jW hKN _ 7 rfl⟩ (by decide) (by decide +kernel) rfl (vk_recv hT hi hS) (aSm_w hsm) hd (by omega) (by show 8 + (2 + 11) + 100 * 3 ≤ R.locals; omega) ⟨Nat.le_trans hbd.1 hr2, Nat.le_trans hbd.2 hr3⟩ ?_
      exact hK _ _ _ _ _ h9 (aLv_c (w := .inl ((aPtc.getD q1.2.1.toNat []).getD x1.toNat 0)) trivial (aLv_tl (aLv_tl hs))) hl hbd hlen H locs la hR hS hL
    · exact False.elim h
  · exact False.elim h
  · exact False.elim h
  · exact False.elim h
end
section
/-! THE JVM KEEPS TO THE STEP: any instruction, any walk, any method (printed by wip/whole/walks.py) -/
theorem stp_ok {l : Launch} {g : aG} {f : aFr} {y o : Nat} {Q : Option aV → aSt → aM → Prop} {X : Nat → aSt → aM → Prop} {p : Program} {e : Env} {R : Room} {s : State} {m : MethodId} {args : Array Value} {below : List Frame} {meth : Method} {c : Code} (hF : aFrm l g f y o p e R s m args below meth c) {pc n t a b : Nat} {sw : List (Int × Nat)} {ins : Instr} (hI : aOk y o (aMt y).2.1 pc (ins, n, t, a, b, sw) = true) {k : aK} {z : aM} {ls : List (Option aV)} {st : List aV} {K : aK → aM → Nat → List (Option aV) → List aV → Prop} (h : stp l g f Q X pc (ins, n, t, a, b, sw) k z ls st K) (hK : ∀ k z pc ls st, K k z pc ls st → aBs l g f Q X p e R s m args below meth c k z pc ls st) : aBs l g f Q X p e R s m args below meth c k z pc ls st := by
  cases ins with
  | iconst i9 => exact sk_iconst hF hI h hK
  | bipush i9 => exact sk_bipush hF hI h hK
  | sipush i9 => exact sk_sipush hF hI h hK
  | iadd => exact sk_iadd hF hI h hK
  | isub => exact sk_isub hF hI h hK
  | imul => exact sk_imul hF hI h hK
  | idiv => exact sk_idiv hF hI h hK
  | irem => exact sk_irem hF hI h hK
  | ishl => exact sk_ishl hF hI h hK
  | ishr => exact sk_ishr hF hI h hK
  | iand => exact sk_iand hF hI h hK
  | ior => exact sk_ior hF hI h hK
  | lmul => exact sk_lmul hF hI h hK
  | lsub => exact sk_lsub hF hI h hK
  | i2l => exact sk_i2l hF hI h hK
  | lcmp => exact sk_lcmp hF hI h hK
  | i2c => exact sk_i2c hF hI h hK
  | i2d => exact sk_i2d hF hI h hK
  | i2f => exact sk_i2f hF hI h hK
  | f2d => exact sk_f2d hF hI h hK
  | fdiv => exact sk_fdiv hF hI h hK
  | ddiv => exact sk_ddiv hF hI h hK
  | dcmp o9 => exact sk_dcmp hF hI h hK
  | fcmp o9 => exact sk_fcmp hF hI h hK
  | iload_n i9 => exact sk_iload_n hF hI h hK
  | iload i9 => exact sk_iload hF hI h hK
  | aload_n i9 => exact sk_aload_n hF hI h hK
  | aload i9 => exact sk_aload hF hI h hK
  | lload_n i9 => exact sk_lload_n hF hI h hK
  | lload i9 => exact sk_lload hF hI h hK
  | dload i9 => exact sk_dload hF hI h hK
  | fload i9 => exact sk_fload hF hI h hK
  | istore_n i9 => exact sk_istore_n hF hI h hK
  | istore i9 => exact sk_istore hF hI h hK
  | astore_n i9 => exact sk_astore_n hF hI h hK
  | astore i9 => exact sk_astore hF hI h hK
  | lstore i9 => exact sk_lstore hF hI h hK
  | dstore i9 => exact sk_dstore hF hI h hK
  | fstore i9 => exact sk_fstore hF hI h hK
  | goto f9 => exact sk_goto hF hI h hK
  | pop => exact sk_pop hF hI h hK
  | dup => exact sk_dup hF hI h hK
  | dup2 => exact sk_dup2 hF hI h hK
  | lconst i9 => exact sk_lconst hF hI h hK
  | fconst i9 => exact sk_fconst hF hI h hK
  | dconst i9 => exact sk_dconst hF hI h hK
  | iinc i9 c9 => exact sk_iinc hF hI h hK
  | ldc2_w i9 => exact sk_ldc2_w hF hI h hK
  | ldc i9 => exact sk_ldc hF hI h hK
  | getfield i8 => exact sk_getfield hF hI h hK
  | putfield i8 => exact sk_putfield hF hI h hK
  | iaload => exact sk_iaload hF hI h hK
  | caload => exact sk_caload hF hI h hK
  | laload => exact sk_laload hF hI h hK
  | daload => exact sk_daload hF hI h hK
  | iastore => exact sk_iastore hF hI h hK
  | castore => exact sk_castore hF hI h hK
  | lastore => exact sk_lastore hF hI h hK
  | dastore => exact sk_dastore hF hI h hK
  | aaload => exact sk_aaload hF hI h hK
  | arraylength => exact sk_arraylength hF hI h hK
  | aastore => exact sk_aastore hF hI h hK
  | tableswitch d8 lo8 hi8 offs8 => exact sk_tableswitch hF hI h hK
  | ireturn => exact sk_ireturn hF hI h hK
  | areturn => exact sk_areturn hF hI h hK
  | dreturn => exact sk_dreturn hF hI h hK
  | freturn => exact sk_freturn hF hI h hK
  | return_ => exact sk_return_ hF hI h hK
  | newarray ty8 => exact sk_newarray hF hI h hK
  | anewarray i8 => exact sk_anewarray hF hI h hK
  | ifCond cd f9 =>
    cases cd with
    | eq => exact sk_if_eq hF hI h hK
    | ne => exact sk_if_ne hF hI h hK
    | lt => exact sk_if_lt hF hI h hK
    | ge => exact sk_if_ge hF hI h hK
    | gt => exact sk_if_gt hF hI h hK
    | le => exact sk_if_le hF hI h hK
  | if_icmp cd f9 =>
    cases cd with
    | eq => exact sk_icmp_eq hF hI h hK
    | ne => exact sk_icmp_ne hF hI h hK
    | lt => exact sk_icmp_lt hF hI h hK
    | ge => exact sk_icmp_ge hF hI h hK
    | gt => exact sk_icmp_gt hF hI h hK
    | le => exact sk_icmp_le hF hI h hK
  | new i8 =>
    by_cases ha : a = 100
    · subst ha
      obtain ⟨hd, rfl, h2⟩ := aOk_d hI (by intro q; cases q)
      exact sk_newX hF hd h2 h
    · exact sk_newO hF ha hI h hK
  | invokevirtual i8 =>
    obtain ⟨hd, rfl, h2⟩ := aOk_d hI (by intro q; cases q)
    simp only [aOk2, Bool.and_eq_true, decide_eq_true_eq] at h2
    obtain ⟨hq, ha, ht⟩ := h2
    rcases ha with rfl | rfl | rfl
    · exact sk_inv hF hq (Or.inl ⟨rfl, rfl, ht rfl⟩) hd h hK
    · exact sk_slen hF hq hd h hK
    · exact sk_sat hF hq hd h hK
  | invokestatic i8 =>
    obtain ⟨hd, rfl, h2⟩ := aOk_d hI (by intro q; cases q)
    simp only [aOk2, Bool.and_eq_true, decide_eq_true_eq] at h2
    obtain ⟨hq, ha, ht⟩ := h2
    rcases ha with rfl | rfl | rfl | rfl | rfl
    · exact sk_inv hF hq (Or.inr (Or.inl ⟨Or.inl rfl, rfl, ht (Or.inl rfl)⟩)) hd h hK
    · exact sk_inv hF hq (Or.inr (Or.inl ⟨Or.inr rfl, rfl, ht (Or.inr rfl)⟩)) hd h hK
    · exact sk_max hF hq hd h hK
    · exact sk_min hF hq hd h hK
    · exact sk_acopy hF hq hd h hK
  | invokespecial i8 =>
    obtain ⟨hd, rfl, h2⟩ := aOk_d hI (by intro q; cases q)
    simp only [aOk2, Bool.and_eq_true, decide_eq_true_eq] at h2
    obtain ⟨hq, ha, ht⟩ := h2
    rcases ha with rfl | rfl | rfl
    · exact sk_oinit hF hq hd h hK
    · exact sk_inv hF hq (Or.inr (Or.inr ⟨Or.inl rfl, rfl, ht (Or.inl rfl)⟩)) hd h hK
    · exact sk_inv hF hq (Or.inr (Or.inr ⟨Or.inr rfl, rfl, ht (Or.inr rfl)⟩)) hd h hK
  | _ => exact False.elim h
theorem aFd_in : ∀ (T : aT) (pc : Nat) (I : aI), aFd T pc = some I → (pc, I) ∈ T
  | [], pc, I, h => by cases h
  | (k, x) :: T, pc, I, h => by
    have h0 : (match Nat.beq k pc with
      | true => some x
      | false => aFd T pc) = some I := h
    rcases hb : Nat.beq k pc with _ | _
    · rw [hb] at h0
      exact List.mem_cons_of_mem _ (aFd_in T pc I h0)
    · rw [hb] at h0
      cases h0
      rw [Nat.eq_of_beq_eq_true hb]
      exact List.mem_cons_self
theorem wp_ok {l : Launch} {g : aG} {f : aFr} {y o : Nat} {Q : Option aV → aSt → aM → Prop} {X : Nat → aSt → aM → Prop} {p : Program} {e : Env} {R : Room} {s : State} {m : MethodId} {args : Array Value} {below : List Frame} {meth : Method} {c : Code} (hF : aFrm l g f y o p e R s m args below meth c) {T : aT} (hT : T.all (fun q => aOk y o (aMt y).2.1 q.1 q.2) = true) {cs : List Nat} {B : aK → aM → Nat → List (Option aV) → List aV → Prop} (hB : ∀ k z pc ls st, B k z pc ls st → aBs l g f Q X p e R s m args below meth c k z pc ls st) : ∀ (n : Nat) (k : aK) (z : aM) (pc : Nat) (ls : List (Option aV)) (st : List aV), wp l g f Q X T cs B n k z pc ls st → aBs l g f Q X p e R s m args below meth c k z pc ls st
  | 0, k, z, pc, ls, st, h => hB _ _ _ _ _ h
  | n + 1, k, z, pc, ls, st, h => by
    have h0 : (match aFd T pc with
      | none => False
      | some I => stp l g f Q X pc I k z ls st (fun k' z' pc' ls' st' => match aHas cs pc' with
        | true => B k' z' pc' ls' st'
        | false => wp l g f Q X T cs B n k' z' pc' ls' st')) := h
    rcases hI : aFd T pc with _ | ⟨ins, n9, t9, a9, b9, sw9⟩
    · rw [hI] at h0
      exact h0.elim
    · rw [hI] at h0
      refine stp_ok hF (List.all_eq_true.mp hT _ (aFd_in T pc _ hI)) h0 (fun k' z' pc' ls' st' hk => ?_)
      rcases hc : aHas cs pc' with _ | _
      · rw [hc] at hk
        exact wp_ok hF hT hB n _ _ _ _ _ hk
      · rw [hc] at hk
        exact hB _ _ _ _ _ hk
/-- a method's table, and what stands around it -/
def aTk (y o : Nat) (T : aT) (nL rk : Nat) (hh : List (Nat × Nat × Nat × Nat)) : Prop :=
  T.all (fun q => aOk y o (aMt y).2.1 q.1 q.2) = true ∧ ((aMt y).1.cls = aRn o ∧ plainName (aRn o) = true) ∧ ((aMt y).2.2.1 = nL ∧ aRk (aMt y).2.2.2.1 = rk) ∧ (aMt y).2.2.2.2 = hh ∧ ((hh = [] ∨ o = 8) ∧ hh.all (fun q => Nat.blt (aCx q.2.2.2) 6) = true)
theorem aEn_nil : ∀ n : Nat, (aEn [] n).length = n ∧ ∀ (i : Nat) (v : aV), (aEn [] n)[i]? ≠ some (some v)
  | 0 => ⟨rfl, fun i v h => by cases h⟩
  | n + 1 => by
    obtain ⟨h1, h2⟩ := aEn_nil n
    refine ⟨by show (none :: aEn [] n).length = n + 1; rw [List.length_cons, h1], fun i v h => ?_⟩
    have h' : (none :: aEn [] n)[i]? = some (some v) := h
    cases i with
    | zero => cases h'
    | succ i => exact h2 i v h'
theorem aEn_s (g : aG) : ∀ (as : List aV) (n : Nat), (aEn as n).length = n ∧ ∀ (i : Nat) (v : aV), (aEn as n)[i]? = some (some v) → v ∈ as ∧ (lg_sl (as.map (aC g)))[i]? = some (.val (aC g v))
  | [], n => ⟨(aEn_nil n).1, fun i v h => absurd h ((aEn_nil n).2 i v)⟩
  | w :: as, 0 => ⟨rfl, fun i v h => by cases h⟩
  | w :: as, n + 1 => by
    have hc := aC_cat (g := g) w
    rcases hw : aW2 w with _ | _
    · have e1 : aEn (w :: as) (n + 1) = some w :: aEn as n := by
        cases n with
        | zero =>
          show aEn (w :: as) 1 = _
          simp only [aEn, hw]
        | succ n => simp only [aEn, hw]
      have e2 : lg_sl ((w :: as).map (aC g)) = .val (aC g w) :: lg_sl (as.map (aC g)) := by
        rw [hw] at hc
        have hc1 : ¬ (aC g w).category = 2 := by rw [hc]; decide
        simp [lg_sl, hc1]
      obtain ⟨h1, h2⟩ := aEn_s g as n
      rw [e1, e2]
      refine ⟨by rw [List.length_cons, h1], fun i v h => ?_⟩
      cases i with
      | zero => cases h; exact ⟨List.mem_cons_self, rfl⟩
      | succ i => exact ⟨List.mem_cons_of_mem _ (h2 i v h).1, (h2 i v h).2⟩
    · have e2 : lg_sl ((w :: as).map (aC g)) = .val (aC g w) :: .second :: lg_sl (as.map (aC g)) := by
        rw [hw] at hc
        have hc1 : (aC g w).category = 2 := hc
        simp [lg_sl, hc1]
      rw [e2]
      cases n with
      | zero =>
        have e1 : aEn (w :: as) 1 = [some w] := by
          simp only [aEn, hw]
        rw [e1]
        refine ⟨rfl, fun i v h => ?_⟩
        cases i with
        | zero => cases h; exact ⟨List.mem_cons_self, rfl⟩
        | succ i => cases h
      | succ n =>
        have e1 : aEn (w :: as) (n + 2) = some w :: none :: aEn as n := by
          simp only [aEn, hw]
        obtain ⟨h1, h2⟩ := aEn_s g as n
        rw [e1]
        refine ⟨by rw [List.length_cons, List.length_cons, h1], fun i v h => ?_⟩
        cases i with
        | zero => cases h; exact ⟨List.mem_cons_self, rfl⟩
        | succ i =>
          cases i with
          | zero => cases h
          | succ i => exact ⟨List.mem_cons_of_mem _ (h2 i v h).1, (h2 i v h).2⟩
def aSz : List aV → Nat
  | [] => 0
  | v :: vs => match aW2 v with
    | true => aSz vs + 2
    | false => aSz vs + 1
theorem aSz_s (g : aG) : ∀ as : List aV, (lg_sl (as.map (aC g))).length = aSz as
  | [] => rfl
  | w :: as => by
    have hc := aC_cat (g := g) w
    have ih := aSz_s g as
    have e0 : aSz (w :: as) = (match aW2 w with
      | true => aSz as + 2
      | false => aSz as + 1) := rfl
    rw [e0]
    rcases hw : aW2 w with _ | _
    · rw [hw] at hc
      have hc1 : ¬ (aC g w).category = 2 := by rw [hc]; decide
      have e2 : lg_sl ((w :: as).map (aC g)) = .val (aC g w) :: lg_sl (as.map (aC g)) := by simp [lg_sl, hc1]
      rw [e2, List.length_cons, ih]
    · rw [hw] at hc
      have hc1 : (aC g w).category = 2 := hc
      have e2 : lg_sl ((w :: as).map (aC g)) = .val (aC g w) :: .second :: lg_sl (as.map (aC g)) := by simp [lg_sl, hc1]
      rw [e2, List.length_cons, List.length_cons, ih]
theorem aEn_ls (g : aG) {as : List aV} {n : Nat} (h : aSz as ≤ n) : aLs g n (aEn as n) ((lg_sl (as.map (aC g)) ++ List.replicate (n - (lg_sl (as.map (aC g))).length) Slot.unset).toArray) := by
  obtain ⟨h1, h2, h3⟩ := lv_entry (as.map (aC g)) (n := n) (by rw [aSz_s]; exact h)
  refine ⟨h1, h2, fun i v hv => ?_⟩
  have h4 := ((aEn_s g as n).2 i v hv).2
  have hlt := (List.getElem?_eq_some_iff.mp h4).1
  simp only [List.getElem?_toArray]
  rw [List.getElem?_append_left hlt]
  exact h4
/-- A CONTRACT OUT OF A WALK -/
theorem aCt_of {l : Launch} {g : aG} {y o d mc ms : Nat} {s : aSt} {as : List aV} {z : aM} {Q : Option aV → aSt → aM → Prop} {X : Nat → aSt → aM → Prop} {T : aT} {nL rk : Nat} {hh : List (Nat × Nat × Nat × Nat)} (hT : aTk y o T nL rk hh) (hn : aSz as ≤ nL)
    (h : ∀ B : aK → aM → Nat → List (Option aV) → List aV → Prop, (∀ (cs : List Nat) (n : Nat) (k : aK) (z : aM) (pc : Nat) (ls : List (Option aV)) (st : List aV), wp l g (d, mc, ms, rk, hh) Q X T cs B n k z pc ls st → B k z pc ls st) → aFo (aEn as nL) (fun ls => B (s, 0, 0) z 0 ls [])) : aCt l g y d mc ms s as z Q X := by
  intro hlg hlv
  obtain ⟨hT1, ⟨hT2, hT3⟩, ⟨hT4, hT5⟩, hT6, hT7, hT8⟩ := hT
  have main : ∀ (p : Program) (e : Env) (R : Room) (st : State) (m : MethodId) (below : List Frame) (meth : Method) (c : Code), R = { frames := d, cells := mc, slots := ms, locals := 500 * d } → p.tables.exec = Jvm.exec → c.code = (aMt y).2.1 → c.maxLocals = (aMt y).2.2.1 → st.vm.findClass (aMt y).1.cls = some m.cls → meth.locks = false → meth.sig.returnType = (aMt y).2.2.2.1 → meth.name = (aMt y).1.name → c.exceptionTable.toList = tableOf hh → aU g s z st →
      W p l e R st m (as.map (aC g)).toArray below meth c st.heap [] 0 0 (vx_MQ below (aQ g Q) (aX g X) (as.map (aC g)).toArray st mc ms (aA g)) (entryFrame m (as.map (aC g)).toArray (aMt y).2.2.1) := by
    intro p e R st m below meth c hR hx hb hml hown hlk hrt hnm htb hU
    subst hR
    have hF : aFrm l g (d, mc, ms, rk, hh) y o p e { frames := d, cells := mc, slots := ms, locals := 500 * d } st m (as.map (aC g)).toArray below meth c :=
      ⟨⟨hx, hlg.1, hb, hml, by rw [← hT2]; exact hown, hlk, hrt⟩, ⟨hU.2, hU.1.2.2.2.1, hU.1.2.1⟩, ⟨htb, hnm, hT5, hT7, fun q hq => by
        have := List.all_eq_true.mp hT8 q hq
        exact Nat.blt_eq.mp this⟩, Nat.le_refl _, Nat.le_refl _, Nat.le_refl _, Nat.le_refl _, hlg.2⟩
    have hw := aFo_eq _ (h _ (fun cs n k z pc ls st hw => wp_ok hF hT1 (fun _ _ _ _ _ q => q) n k z pc ls st hw))
    rw [lg_entry_eq, hT4]
    obtain ⟨e1, e2⟩ := aEn_s g as nL
    refine hw (fun v hv => by cases hv) (fun v hv => ?_) ⟨Nat.zero_le _, Nat.zero_le _⟩ (by rw [e1, hml, hT4]) st.heap [] _ hU.1 va_S.rf (by rw [hml, hT4]; exact aEn_ls g hn)
    obtain ⟨i, hi⟩ := List.getElem?_of_mem hv
    exact hlv v (e2 i v hi).1
  rcases hh9 : (aMt y).2.2.2.2 with _ | ⟨q9, r9⟩
  · rw [aWd_c hh9]
    refine vx_ofW (cc := (aMt y).2.1) (maxL := (aMt y).2.2.1) (ret := (aMt y).2.2.2.1) (by rw [hT2]; exact hT3) rfl ?_
    intro p e st m args below meth c s₁ B hml hx9 hv
    obtain ⟨rfl, hU⟩ := hv
    refine main p e _ st m below meth c rfl B.exec B.bytes hml (findClass_of_methodNamed B.named) B.notSynchronized B.returns (name_of_methodNamed B.named B.method).1 ?_ hU
    rw [← hT6, hh9]
    rcases hl9 : c.exceptionTable.toList with _ | ⟨x, r⟩
    · rfl
    · exact (hx9 x (by rw [hl9]; exact List.mem_cons_self)).elim
  · rw [aWd_h hh9]
    refine vx_ofWH (cc := (aMt y).2.1) (maxL := (aMt y).2.2.1) (ret := (aMt y).2.2.2.1) (hh := (aMt y).2.2.2.2) (by rw [hT2]; exact hT3) rfl ?_
    intro p e st m args below meth c s₁ B hml hv
    obtain ⟨rfl, hU⟩ := hv
    refine main p e _ st m below meth c rfl B.exec B.bytes hml (findClass_of_methodNamed B.named) B.notSynchronized B.returns (name_of_methodNamed B.named B.method).1 ?_ hU
    have h9 := vx_table (x := (aMt y).1) B (atoms_spec (ws := [Cond.codeWith (aMt y).1 (aMt y).2.1 (aMt y).2.2.1 (aMt y).2.2.2.1 (aMt y).2.2.2.2]) B.pre _ List.mem_cons_self)
    rw [h9, hT6]
end
