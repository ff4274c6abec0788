-- ===== PART A: goes FIRST, ahead of the names: the tables' words, and 'selects' of the private methods out of them =====
/-- a private method of a class that the tables say can be made, by its rows of tables_1 -/
def lw_okq (q : MethodName × Nat) : Prop := (q.1.cls ≠ "java/lang/invoke/MethodHandle" ∧ q.1.cls ≠ "java/lang/invoke/VarHandle") ∧ Cond.instantiable q.1.cls q.2 ∈ tables_1 ∧ Cond.privateMethod q.1 ∈ tables_1 ∧ Cond.instanceMethod q.1 ∈ tables_1
theorem lw_p0 : lw_okq (⟨"MoveDesk$Judge", "start", "()V"⟩, 10) := ⟨⟨by decide +kernel, by decide +kernel⟩, List.mem_of_getElem? (i := 225) (by decide +kernel), List.mem_of_getElem? (i := 346) (by decide +kernel), List.mem_of_getElem? (i := 347) (by decide +kernel)⟩
theorem lw_p1 : lw_okq (⟨"MoveDesk$Judge", "choicesIn", "(I)I"⟩, 10) := ⟨⟨by decide +kernel, by decide +kernel⟩, List.mem_of_getElem? (i := 225) (by decide +kernel), List.mem_of_getElem? (i := 350) (by decide +kernel), List.mem_of_getElem? (i := 351) (by decide +kernel)⟩
theorem lw_p2 : lw_okq (⟨"MoveDesk$Judge", "reach", "(IIJ)V"⟩, 10) := ⟨⟨by decide +kernel, by decide +kernel⟩, List.mem_of_getElem? (i := 225) (by decide +kernel), List.mem_of_getElem? (i := 361) (by decide +kernel), List.mem_of_getElem? (i := 362) (by decide +kernel)⟩
theorem lw_p3 : lw_okq (⟨"MoveDesk$Judge", "leave", "(IIJ)V"⟩, 10) := ⟨⟨by decide +kernel, by decide +kernel⟩, List.mem_of_getElem? (i := 225) (by decide +kernel), List.mem_of_getElem? (i := 366) (by decide +kernel), List.mem_of_getElem? (i := 367) (by decide +kernel)⟩
theorem lw_p4 : lw_okq (⟨"MoveDesk$Bundle", "takeSource", "(I)V"⟩, 8) := ⟨⟨by decide +kernel, by decide +kernel⟩, List.mem_of_getElem? (i := 67) (by decide +kernel), List.mem_of_getElem? (i := 375) (by decide +kernel), List.mem_of_getElem? (i := 376) (by decide +kernel)⟩
theorem lw_p5 : lw_okq (⟨"MoveDesk$Bundle", "takeDestination", "(I)V"⟩, 8) := ⟨⟨by decide +kernel, by decide +kernel⟩, List.mem_of_getElem? (i := 67) (by decide +kernel), List.mem_of_getElem? (i := 380) (by decide +kernel), List.mem_of_getElem? (i := 381) (by decide +kernel)⟩
theorem lw_p6 : lw_okq (⟨"MoveDesk$Bundle", "takeJump", "(III)V"⟩, 8) := ⟨⟨by decide +kernel, by decide +kernel⟩, List.mem_of_getElem? (i := 67) (by decide +kernel), List.mem_of_getElem? (i := 386) (by decide +kernel), List.mem_of_getElem? (i := 387) (by decide +kernel)⟩
theorem lw_p7 : lw_okq (⟨"MoveDesk$Judge", "leaveBy", "(IIJ)V"⟩, 10) := ⟨⟨by decide +kernel, by decide +kernel⟩, List.mem_of_getElem? (i := 225) (by decide +kernel), List.mem_of_getElem? (i := 390) (by decide +kernel), List.mem_of_getElem? (i := 391) (by decide +kernel)⟩
theorem lw_p8 : lw_okq (⟨"MoveDesk$Judge", "blame", "(II)V"⟩, 10) := ⟨⟨by decide +kernel, by decide +kernel⟩, List.mem_of_getElem? (i := 225) (by decide +kernel), List.mem_of_getElem? (i := 404) (by decide +kernel), List.mem_of_getElem? (i := 405) (by decide +kernel)⟩
theorem lw_p9 : lw_okq (⟨"MoveDesk$Judge", "older", "(J)J"⟩, 10) := ⟨⟨by decide +kernel, by decide +kernel⟩, List.mem_of_getElem? (i := 225) (by decide +kernel), List.mem_of_getElem? (i := 409) (by decide +kernel), List.mem_of_getElem? (i := 410) (by decide +kernel)⟩
theorem lw_p10 : lw_okq (⟨"MoveDesk$Judge", "goOn", "(IIJ)V"⟩, 10) := ⟨⟨by decide +kernel, by decide +kernel⟩, List.mem_of_getElem? (i := 225) (by decide +kernel), List.mem_of_getElem? (i := 413) (by decide +kernel), List.mem_of_getElem? (i := 414) (by decide +kernel)⟩
theorem lw_p11 : lw_okq (⟨"java/lang/Throwable", "fillInStackTrace", "(I)Ljava/lang/Throwable;"⟩, 6) := ⟨⟨by decide +kernel, by decide +kernel⟩, List.mem_of_getElem? (i := 496) (by decide +kernel), List.mem_of_getElem? (i := 494) (by decide +kernel), List.mem_of_getElem? (i := 495) (by decide +kernel)⟩
theorem lw_p12 : lw_okq (⟨"MoveDesk$Planner", "start", "()V"⟩, 12) := ⟨⟨by decide +kernel, by decide +kernel⟩, List.mem_of_getElem? (i := 181) (by decide +kernel), List.mem_of_getElem? (i := 603) (by decide +kernel), List.mem_of_getElem? (i := 604) (by decide +kernel)⟩
theorem lw_p13 : lw_okq (⟨"MoveDesk$Planner", "planOne", "(I)I"⟩, 12) := ⟨⟨by decide +kernel, by decide +kernel⟩, List.mem_of_getElem? (i := 181) (by decide +kernel), List.mem_of_getElem? (i := 608) (by decide +kernel), List.mem_of_getElem? (i := 609) (by decide +kernel)⟩
theorem lw_p14 : lw_okq (⟨"MoveDesk$Planner", "triggerCycle", "(I)I"⟩, 12) := ⟨⟨by decide +kernel, by decide +kernel⟩, List.mem_of_getElem? (i := 181) (by decide +kernel), List.mem_of_getElem? (i := 612) (by decide +kernel), List.mem_of_getElem? (i := 613) (by decide +kernel)⟩
theorem lw_p15 : lw_okq (⟨"MoveDesk$Planner", "earliestTrigger", "(II)I"⟩, 12) := ⟨⟨by decide +kernel, by decide +kernel⟩, List.mem_of_getElem? (i := 181) (by decide +kernel), List.mem_of_getElem? (i := 639) (by decide +kernel), List.mem_of_getElem? (i := 640) (by decide +kernel)⟩
def lw_privs_1 : List (MethodName × Nat) := [(⟨"MoveDesk$Judge", "start", "()V"⟩, 10), (⟨"MoveDesk$Judge", "choicesIn", "(I)I"⟩, 10), (⟨"MoveDesk$Judge", "reach", "(IIJ)V"⟩, 10), (⟨"MoveDesk$Judge", "leave", "(IIJ)V"⟩, 10), (⟨"MoveDesk$Bundle", "takeSource", "(I)V"⟩, 8), (⟨"MoveDesk$Bundle", "takeDestination", "(I)V"⟩, 8), (⟨"MoveDesk$Bundle", "takeJump", "(III)V"⟩, 8), (⟨"MoveDesk$Judge", "leaveBy", "(IIJ)V"⟩, 10), (⟨"MoveDesk$Judge", "blame", "(II)V"⟩, 10), (⟨"MoveDesk$Judge", "older", "(J)J"⟩, 10), (⟨"MoveDesk$Judge", "goOn", "(IIJ)V"⟩, 10), (⟨"java/lang/Throwable", "fillInStackTrace", "(I)Ljava/lang/Throwable;"⟩, 6), (⟨"MoveDesk$Planner", "start", "()V"⟩, 12), (⟨"MoveDesk$Planner", "planOne", "(I)I"⟩, 12), (⟨"MoveDesk$Planner", "triggerCycle", "(I)I"⟩, 12), (⟨"MoveDesk$Planner", "earliestTrigger", "(II)I"⟩, 12)]
theorem lw_r1 : ∀ q ∈ lw_privs_1, lw_okq q := List.forall_mem_cons.mpr ⟨lw_p0, List.forall_mem_cons.mpr ⟨lw_p1, List.forall_mem_cons.mpr ⟨lw_p2, List.forall_mem_cons.mpr ⟨lw_p3, List.forall_mem_cons.mpr ⟨lw_p4, List.forall_mem_cons.mpr ⟨lw_p5, List.forall_mem_cons.mpr ⟨lw_p6, List.forall_mem_cons.mpr ⟨lw_p7, List.forall_mem_cons.mpr ⟨lw_p8, List.forall_mem_cons.mpr ⟨lw_p9, List.forall_mem_cons.mpr ⟨lw_p10, List.forall_mem_cons.mpr ⟨lw_p11, List.forall_mem_cons.mpr ⟨lw_p12, List.forall_mem_cons.mpr ⟨lw_p13, List.forall_mem_cons.mpr ⟨lw_p14, List.forall_mem_cons.mpr ⟨lw_p15, fun _ h => absurd h List.not_mem_nil⟩⟩⟩⟩⟩⟩⟩⟩⟩⟩⟩⟩⟩⟩⟩⟩
theorem lw_p16 : lw_okq (⟨"MoveDesk$Planner", "noteTrigger", "(II)V"⟩, 12) := ⟨⟨by decide +kernel, by decide +kernel⟩, List.mem_of_getElem? (i := 181) (by decide +kernel), List.mem_of_getElem? (i := 653) (by decide +kernel), List.mem_of_getElem? (i := 654) (by decide +kernel)⟩
theorem lw_p17 : lw_okq (⟨"MoveDesk$Planner", "resultCycle", "(II)I"⟩, 12) := ⟨⟨by decide +kernel, by decide +kernel⟩, List.mem_of_getElem? (i := 181) (by decide +kernel), List.mem_of_getElem? (i := 657) (by decide +kernel), List.mem_of_getElem? (i := 658) (by decide +kernel)⟩
theorem lw_p18 : lw_okq (⟨"MoveDesk$Planner", "noteResult", "(II)V"⟩, 12) := ⟨⟨by decide +kernel, by decide +kernel⟩, List.mem_of_getElem? (i := 181) (by decide +kernel), List.mem_of_getElem? (i := 665) (by decide +kernel), List.mem_of_getElem? (i := 666) (by decide +kernel)⟩
theorem lw_p19 : lw_okq (⟨"MoveDesk$Planner", "writeOne", "(I)V"⟩, 12) := ⟨⟨by decide +kernel, by decide +kernel⟩, List.mem_of_getElem? (i := 181) (by decide +kernel), List.mem_of_getElem? (i := 689) (by decide +kernel), List.mem_of_getElem? (i := 690) (by decide +kernel)⟩
theorem lw_p20 : lw_okq (⟨"MoveDesk$Machine", "readSources", "(I)V"⟩, 16) := ⟨⟨by decide +kernel, by decide +kernel⟩, List.mem_of_getElem? (i := 61) (by decide +kernel), List.mem_of_getElem? (i := 726) (by decide +kernel), List.mem_of_getElem? (i := 727) (by decide +kernel)⟩
theorem lw_p21 : lw_okq (⟨"MoveDesk$Machine", "valueOf", "(II)I"⟩, 16) := ⟨⟨by decide +kernel, by decide +kernel⟩, List.mem_of_getElem? (i := 61) (by decide +kernel), List.mem_of_getElem? (i := 735) (by decide +kernel), List.mem_of_getElem? (i := 736) (by decide +kernel)⟩
theorem lw_p22 : lw_okq (⟨"MoveDesk$Machine", "writePlaces", "(I)V"⟩, 16) := ⟨⟨by decide +kernel, by decide +kernel⟩, List.mem_of_getElem? (i := 61) (by decide +kernel), List.mem_of_getElem? (i := 739) (by decide +kernel), List.mem_of_getElem? (i := 740) (by decide +kernel)⟩
theorem lw_p23 : lw_okq (⟨"MoveDesk$Machine", "pullTriggers", "(I)V"⟩, 16) := ⟨⟨by decide +kernel, by decide +kernel⟩, List.mem_of_getElem? (i := 61) (by decide +kernel), List.mem_of_getElem? (i := 744) (by decide +kernel), List.mem_of_getElem? (i := 745) (by decide +kernel)⟩
theorem lw_p24 : lw_okq (⟨"MoveDesk$Machine", "pull", "(II)V"⟩, 16) := ⟨⟨by decide +kernel, by decide +kernel⟩, List.mem_of_getElem? (i := 61) (by decide +kernel), List.mem_of_getElem? (i := 748) (by decide +kernel), List.mem_of_getElem? (i := 749) (by decide +kernel)⟩
theorem lw_p25 : lw_okq (⟨"MoveDesk$Machine", "begin", "(II)V"⟩, 16) := ⟨⟨by decide +kernel, by decide +kernel⟩, List.mem_of_getElem? (i := 61) (by decide +kernel), List.mem_of_getElem? (i := 752) (by decide +kernel), List.mem_of_getElem? (i := 753) (by decide +kernel)⟩
theorem lw_p26 : lw_okq (⟨"MoveDesk$Machine", "setGuard", "(IZ)V"⟩, 16) := ⟨⟨by decide +kernel, by decide +kernel⟩, List.mem_of_getElem? (i := 61) (by decide +kernel), List.mem_of_getElem? (i := 759) (by decide +kernel), List.mem_of_getElem? (i := 760) (by decide +kernel)⟩
theorem lw_p27 : lw_okq (⟨"MoveDesk$Machine", "deliverResults", "()V"⟩, 16) := ⟨⟨by decide +kernel, by decide +kernel⟩, List.mem_of_getElem? (i := 61) (by decide +kernel), List.mem_of_getElem? (i := 764) (by decide +kernel), List.mem_of_getElem? (i := 765) (by decide +kernel)⟩
theorem lw_p28 : lw_okq (⟨"MoveDesk$Machine", "stepOn", "()V"⟩, 16) := ⟨⟨by decide +kernel, by decide +kernel⟩, List.mem_of_getElem? (i := 61) (by decide +kernel), List.mem_of_getElem? (i := 768) (by decide +kernel), List.mem_of_getElem? (i := 769) (by decide +kernel)⟩
theorem lw_p29 : lw_okq (⟨"MoveDesk$Operations", "perform", "(I)V"⟩, 7) := ⟨⟨by decide +kernel, by decide +kernel⟩, List.mem_of_getElem? (i := 153) (by decide +kernel), List.mem_of_getElem? (i := 803) (by decide +kernel), List.mem_of_getElem? (i := 804) (by decide +kernel)⟩
theorem lw_p30 : lw_okq (⟨"MoveDesk$Operations", "valueOf", "(II)I"⟩, 7) := ⟨⟨by decide +kernel, by decide +kernel⟩, List.mem_of_getElem? (i := 153) (by decide +kernel), List.mem_of_getElem? (i := 807) (by decide +kernel), List.mem_of_getElem? (i := 808) (by decide +kernel)⟩
theorem lw_p31 : lw_okq (⟨"MoveDeskModel", "isPlace", "(II)Z"⟩, 32) := ⟨⟨by decide +kernel, by decide +kernel⟩, List.mem_of_getElem? (i := 812) (by decide +kernel), List.mem_of_getElem? (i := 924) (by decide +kernel), List.mem_of_getElem? (i := 925) (by decide +kernel)⟩
def lw_privs_2 : List (MethodName × Nat) := [(⟨"MoveDesk$Planner", "noteTrigger", "(II)V"⟩, 12), (⟨"MoveDesk$Planner", "resultCycle", "(II)I"⟩, 12), (⟨"MoveDesk$Planner", "noteResult", "(II)V"⟩, 12), (⟨"MoveDesk$Planner", "writeOne", "(I)V"⟩, 12), (⟨"MoveDesk$Machine", "readSources", "(I)V"⟩, 16), (⟨"MoveDesk$Machine", "valueOf", "(II)I"⟩, 16), (⟨"MoveDesk$Machine", "writePlaces", "(I)V"⟩, 16), (⟨"MoveDesk$Machine", "pullTriggers", "(I)V"⟩, 16), (⟨"MoveDesk$Machine", "pull", "(II)V"⟩, 16), (⟨"MoveDesk$Machine", "begin", "(II)V"⟩, 16), (⟨"MoveDesk$Machine", "setGuard", "(IZ)V"⟩, 16), (⟨"MoveDesk$Machine", "deliverResults", "()V"⟩, 16), (⟨"MoveDesk$Machine", "stepOn", "()V"⟩, 16), (⟨"MoveDesk$Operations", "perform", "(I)V"⟩, 7), (⟨"MoveDesk$Operations", "valueOf", "(II)I"⟩, 7), (⟨"MoveDeskModel", "isPlace", "(II)Z"⟩, 32)]
theorem lw_r2 : ∀ q ∈ lw_privs_2, lw_okq q := List.forall_mem_cons.mpr ⟨lw_p16, List.forall_mem_cons.mpr ⟨lw_p17, List.forall_mem_cons.mpr ⟨lw_p18, List.forall_mem_cons.mpr ⟨lw_p19, List.forall_mem_cons.mpr ⟨lw_p20, List.forall_mem_cons.mpr ⟨lw_p21, List.forall_mem_cons.mpr ⟨lw_p22, List.forall_mem_cons.mpr ⟨lw_p23, List.forall_mem_cons.mpr ⟨lw_p24, List.forall_mem_cons.mpr ⟨lw_p25, List.forall_mem_cons.mpr ⟨lw_p26, List.forall_mem_cons.mpr ⟨lw_p27, List.forall_mem_cons.mpr ⟨lw_p28, List.forall_mem_cons.mpr ⟨lw_p29, List.forall_mem_cons.mpr ⟨lw_p30, List.forall_mem_cons.mpr ⟨lw_p31, fun _ h => absurd h List.not_mem_nil⟩⟩⟩⟩⟩⟩⟩⟩⟩⟩⟩⟩⟩⟩⟩⟩
theorem lw_p32 : lw_okq (⟨"MoveDeskModel", "choose", "(II)V"⟩, 32) := ⟨⟨by decide +kernel, by decide +kernel⟩, List.mem_of_getElem? (i := 812) (by decide +kernel), List.mem_of_getElem? (i := 947) (by decide +kernel), List.mem_of_getElem? (i := 948) (by decide +kernel)⟩
theorem lw_p33 : lw_okq (⟨"MoveDeskModel", "hads", "()I"⟩, 32) := ⟨⟨by decide +kernel, by decide +kernel⟩, List.mem_of_getElem? (i := 812) (by decide +kernel), List.mem_of_getElem? (i := 951) (by decide +kernel), List.mem_of_getElem? (i := 952) (by decide +kernel)⟩
theorem lw_p34 : lw_okq (⟨"MoveDeskModel", "faultOf", "(IIZ)I"⟩, 32) := ⟨⟨by decide +kernel, by decide +kernel⟩, List.mem_of_getElem? (i := 812) (by decide +kernel), List.mem_of_getElem? (i := 955) (by decide +kernel), List.mem_of_getElem? (i := 956) (by decide +kernel)⟩
theorem lw_p35 : lw_okq (⟨"MoveDeskModel", "isClash", "(III)Z"⟩, 32) := ⟨⟨by decide +kernel, by decide +kernel⟩, List.mem_of_getElem? (i := 812) (by decide +kernel), List.mem_of_getElem? (i := 959) (by decide +kernel), List.mem_of_getElem? (i := 960) (by decide +kernel)⟩
theorem lw_p36 : lw_okq (⟨"MoveDeskModel", "reads", "(II)Z"⟩, 32) := ⟨⟨by decide +kernel, by decide +kernel⟩, List.mem_of_getElem? (i := 812) (by decide +kernel), List.mem_of_getElem? (i := 966) (by decide +kernel), List.mem_of_getElem? (i := 967) (by decide +kernel)⟩
theorem lw_p37 : lw_okq (⟨"MoveDeskModel", "isMade", "(II)Z"⟩, 32) := ⟨⟨by decide +kernel, by decide +kernel⟩, List.mem_of_getElem? (i := 812) (by decide +kernel), List.mem_of_getElem? (i := 970) (by decide +kernel), List.mem_of_getElem? (i := 971) (by decide +kernel)⟩
theorem lw_p38 : lw_okq (⟨"MoveDeskModel", "isMuch", "(I)Z"⟩, 32) := ⟨⟨by decide +kernel, by decide +kernel⟩, List.mem_of_getElem? (i := 812) (by decide +kernel), List.mem_of_getElem? (i := 974) (by decide +kernel), List.mem_of_getElem? (i := 975) (by decide +kernel)⟩
theorem lw_p39 : lw_okq (⟨"MoveDeskModel", "makeCycle", "()V"⟩, 32) := ⟨⟨by decide +kernel, by decide +kernel⟩, List.mem_of_getElem? (i := 812) (by decide +kernel), List.mem_of_getElem? (i := 978) (by decide +kernel), List.mem_of_getElem? (i := 979) (by decide +kernel)⟩
theorem lw_p40 : lw_okq (⟨"MoveDeskModel", "sourceOf", "(I)I"⟩, 32) := ⟨⟨by decide +kernel, by decide +kernel⟩, List.mem_of_getElem? (i := 812) (by decide +kernel), List.mem_of_getElem? (i := 982) (by decide +kernel), List.mem_of_getElem? (i := 983) (by decide +kernel)⟩
theorem lw_p41 : lw_okq (⟨"MoveDeskModel", "trigger", "(II)V"⟩, 32) := ⟨⟨by decide +kernel, by decide +kernel⟩, List.mem_of_getElem? (i := 812) (by decide +kernel), List.mem_of_getElem? (i := 986) (by decide +kernel), List.mem_of_getElem? (i := 987) (by decide +kernel)⟩
theorem lw_p42 : lw_okq (⟨"MoveDeskModel", "fly", "(II)V"⟩, 32) := ⟨⟨by decide +kernel, by decide +kernel⟩, List.mem_of_getElem? (i := 812) (by decide +kernel), List.mem_of_getElem? (i := 990) (by decide +kernel), List.mem_of_getElem? (i := 991) (by decide +kernel)⟩
theorem lw_p43 : lw_okq (⟨"MoveDeskModel", "land", "()V"⟩, 32) := ⟨⟨by decide +kernel, by decide +kernel⟩, List.mem_of_getElem? (i := 812) (by decide +kernel), List.mem_of_getElem? (i := 994) (by decide +kernel), List.mem_of_getElem? (i := 995) (by decide +kernel)⟩
theorem lw_p44 : lw_okq (⟨"MoveDeskModel", "come", "(IIIII)V"⟩, 32) := ⟨⟨by decide +kernel, by decide +kernel⟩, List.mem_of_getElem? (i := 812) (by decide +kernel), List.mem_of_getElem? (i := 1006) (by decide +kernel), List.mem_of_getElem? (i := 1007) (by decide +kernel)⟩
theorem lw_p45 : lw_okq (⟨"MoveDeskModel", "goOn", "(I)V"⟩, 32) := ⟨⟨by decide +kernel, by decide +kernel⟩, List.mem_of_getElem? (i := 812) (by decide +kernel), List.mem_of_getElem? (i := 1010) (by decide +kernel), List.mem_of_getElem? (i := 1011) (by decide +kernel)⟩
theorem lw_p46 : lw_okq (⟨"MoveDeskModel", "jumpSource", "(I)I"⟩, 32) := ⟨⟨by decide +kernel, by decide +kernel⟩, List.mem_of_getElem? (i := 812) (by decide +kernel), List.mem_of_getElem? (i := 1014) (by decide +kernel), List.mem_of_getElem? (i := 1015) (by decide +kernel)⟩
theorem lw_p47 : lw_okq (⟨"MoveDeskModel", "wrong", "(II)V"⟩, 32) := ⟨⟨by decide +kernel, by decide +kernel⟩, List.mem_of_getElem? (i := 812) (by decide +kernel), List.mem_of_getElem? (i := 1018) (by decide +kernel), List.mem_of_getElem? (i := 1019) (by decide +kernel)⟩
def lw_privs_3 : List (MethodName × Nat) := [(⟨"MoveDeskModel", "choose", "(II)V"⟩, 32), (⟨"MoveDeskModel", "hads", "()I"⟩, 32), (⟨"MoveDeskModel", "faultOf", "(IIZ)I"⟩, 32), (⟨"MoveDeskModel", "isClash", "(III)Z"⟩, 32), (⟨"MoveDeskModel", "reads", "(II)Z"⟩, 32), (⟨"MoveDeskModel", "isMade", "(II)Z"⟩, 32), (⟨"MoveDeskModel", "isMuch", "(I)Z"⟩, 32), (⟨"MoveDeskModel", "makeCycle", "()V"⟩, 32), (⟨"MoveDeskModel", "sourceOf", "(I)I"⟩, 32), (⟨"MoveDeskModel", "trigger", "(II)V"⟩, 32), (⟨"MoveDeskModel", "fly", "(II)V"⟩, 32), (⟨"MoveDeskModel", "land", "()V"⟩, 32), (⟨"MoveDeskModel", "come", "(IIIII)V"⟩, 32), (⟨"MoveDeskModel", "goOn", "(I)V"⟩, 32), (⟨"MoveDeskModel", "jumpSource", "(I)I"⟩, 32), (⟨"MoveDeskModel", "wrong", "(II)V"⟩, 32)]
theorem lw_r3 : ∀ q ∈ lw_privs_3, lw_okq q := List.forall_mem_cons.mpr ⟨lw_p32, List.forall_mem_cons.mpr ⟨lw_p33, List.forall_mem_cons.mpr ⟨lw_p34, List.forall_mem_cons.mpr ⟨lw_p35, List.forall_mem_cons.mpr ⟨lw_p36, List.forall_mem_cons.mpr ⟨lw_p37, List.forall_mem_cons.mpr ⟨lw_p38, List.forall_mem_cons.mpr ⟨lw_p39, List.forall_mem_cons.mpr ⟨lw_p40, List.forall_mem_cons.mpr ⟨lw_p41, List.forall_mem_cons.mpr ⟨lw_p42, List.forall_mem_cons.mpr ⟨lw_p43, List.forall_mem_cons.mpr ⟨lw_p44, List.forall_mem_cons.mpr ⟨lw_p45, List.forall_mem_cons.mpr ⟨lw_p46, List.forall_mem_cons.mpr ⟨lw_p47, fun _ h => absurd h List.not_mem_nil⟩⟩⟩⟩⟩⟩⟩⟩⟩⟩⟩⟩⟩⟩⟩⟩
theorem lw_p48 : lw_okq (⟨"MoveDeskModel", "comes", "(III)Z"⟩, 32) := ⟨⟨by decide +kernel, by decide +kernel⟩, List.mem_of_getElem? (i := 812) (by decide +kernel), List.mem_of_getElem? (i := 1022) (by decide +kernel), List.mem_of_getElem? (i := 1023) (by decide +kernel)⟩
theorem lw_p49 : lw_okq (⟨"MoveDeskModel", "ahead", "(IIIZ)I"⟩, 32) := ⟨⟨by decide +kernel, by decide +kernel⟩, List.mem_of_getElem? (i := 812) (by decide +kernel), List.mem_of_getElem? (i := 1026) (by decide +kernel), List.mem_of_getElem? (i := 1027) (by decide +kernel)⟩
theorem lw_p50 : lw_okq (⟨"MoveDeskModel", "doAll", "()V"⟩, 32) := ⟨⟨by decide +kernel, by decide +kernel⟩, List.mem_of_getElem? (i := 812) (by decide +kernel), List.mem_of_getElem? (i := 1049) (by decide +kernel), List.mem_of_getElem? (i := 1050) (by decide +kernel)⟩
theorem lw_p51 : lw_okq (⟨"MoveDeskModel", "sideOf", "(II)I"⟩, 32) := ⟨⟨by decide +kernel, by decide +kernel⟩, List.mem_of_getElem? (i := 812) (by decide +kernel), List.mem_of_getElem? (i := 1053) (by decide +kernel), List.mem_of_getElem? (i := 1054) (by decide +kernel)⟩
theorem lw_p52 : lw_okq (⟨"MoveDeskModel", "layOperation", "(I)I"⟩, 32) := ⟨⟨by decide +kernel, by decide +kernel⟩, List.mem_of_getElem? (i := 812) (by decide +kernel), List.mem_of_getElem? (i := 1061) (by decide +kernel), List.mem_of_getElem? (i := 1062) (by decide +kernel)⟩
theorem lw_p53 : lw_okq (⟨"MoveDeskModel", "isStart", "(II)Z"⟩, 32) := ⟨⟨by decide +kernel, by decide +kernel⟩, List.mem_of_getElem? (i := 812) (by decide +kernel), List.mem_of_getElem? (i := 1065) (by decide +kernel), List.mem_of_getElem? (i := 1066) (by decide +kernel)⟩
theorem lw_p54 : lw_okq (⟨"MoveDeskModel", "busesFree", "(I)I"⟩, 32) := ⟨⟨by decide +kernel, by decide +kernel⟩, List.mem_of_getElem? (i := 812) (by decide +kernel), List.mem_of_getElem? (i := 1069) (by decide +kernel), List.mem_of_getElem? (i := 1070) (by decide +kernel)⟩
theorem lw_p55 : lw_okq (⟨"MoveDeskModel", "registersRead", "(II)I"⟩, 32) := ⟨⟨by decide +kernel, by decide +kernel⟩, List.mem_of_getElem? (i := 812) (by decide +kernel), List.mem_of_getElem? (i := 1073) (by decide +kernel), List.mem_of_getElem? (i := 1074) (by decide +kernel)⟩
theorem lw_p56 : lw_okq (⟨"MoveDeskModel", "readsRegister", "(II)Z"⟩, 32) := ⟨⟨by decide +kernel, by decide +kernel⟩, List.mem_of_getElem? (i := 812) (by decide +kernel), List.mem_of_getElem? (i := 1077) (by decide +kernel), List.mem_of_getElem? (i := 1078) (by decide +kernel)⟩
theorem lw_p57 : lw_okq (⟨"MoveDeskModel", "writes", "(I)Z"⟩, 32) := ⟨⟨by decide +kernel, by decide +kernel⟩, List.mem_of_getElem? (i := 812) (by decide +kernel), List.mem_of_getElem? (i := 1081) (by decide +kernel), List.mem_of_getElem? (i := 1082) (by decide +kernel)⟩
theorem lw_p58 : lw_okq (⟨"MoveDeskModel", "unitFor", "(I)I"⟩, 32) := ⟨⟨by decide +kernel, by decide +kernel⟩, List.mem_of_getElem? (i := 812) (by decide +kernel), List.mem_of_getElem? (i := 1085) (by decide +kernel), List.mem_of_getElem? (i := 1086) (by decide +kernel)⟩
theorem lw_p59 : lw_okq (⟨"MoveDeskModel", "constantFor", "(II)I"⟩, 32) := ⟨⟨by decide +kernel, by decide +kernel⟩, List.mem_of_getElem? (i := 812) (by decide +kernel), List.mem_of_getElem? (i := 1092) (by decide +kernel), List.mem_of_getElem? (i := 1093) (by decide +kernel)⟩
theorem lw_p60 : lw_okq (⟨"MoveDeskModel", "lay", "(IIII)V"⟩, 32) := ⟨⟨by decide +kernel, by decide +kernel⟩, List.mem_of_getElem? (i := 812) (by decide +kernel), List.mem_of_getElem? (i := 1096) (by decide +kernel), List.mem_of_getElem? (i := 1097) (by decide +kernel)⟩
theorem lw_p61 : lw_okq (⟨"MoveDeskModel", "isEnd", "(II)Z"⟩, 32) := ⟨⟨by decide +kernel, by decide +kernel⟩, List.mem_of_getElem? (i := 812) (by decide +kernel), List.mem_of_getElem? (i := 1100) (by decide +kernel), List.mem_of_getElem? (i := 1101) (by decide +kernel)⟩
def lw_privs_4 : List (MethodName × Nat) := [(⟨"MoveDeskModel", "comes", "(III)Z"⟩, 32), (⟨"MoveDeskModel", "ahead", "(IIIZ)I"⟩, 32), (⟨"MoveDeskModel", "doAll", "()V"⟩, 32), (⟨"MoveDeskModel", "sideOf", "(II)I"⟩, 32), (⟨"MoveDeskModel", "layOperation", "(I)I"⟩, 32), (⟨"MoveDeskModel", "isStart", "(II)Z"⟩, 32), (⟨"MoveDeskModel", "busesFree", "(I)I"⟩, 32), (⟨"MoveDeskModel", "registersRead", "(II)I"⟩, 32), (⟨"MoveDeskModel", "readsRegister", "(II)Z"⟩, 32), (⟨"MoveDeskModel", "writes", "(I)Z"⟩, 32), (⟨"MoveDeskModel", "unitFor", "(I)I"⟩, 32), (⟨"MoveDeskModel", "constantFor", "(II)I"⟩, 32), (⟨"MoveDeskModel", "lay", "(IIII)V"⟩, 32), (⟨"MoveDeskModel", "isEnd", "(II)Z"⟩, 32)]
theorem lw_r4 : ∀ q ∈ lw_privs_4, lw_okq q := List.forall_mem_cons.mpr ⟨lw_p48, List.forall_mem_cons.mpr ⟨lw_p49, List.forall_mem_cons.mpr ⟨lw_p50, List.forall_mem_cons.mpr ⟨lw_p51, List.forall_mem_cons.mpr ⟨lw_p52, List.forall_mem_cons.mpr ⟨lw_p53, List.forall_mem_cons.mpr ⟨lw_p54, List.forall_mem_cons.mpr ⟨lw_p55, List.forall_mem_cons.mpr ⟨lw_p56, List.forall_mem_cons.mpr ⟨lw_p57, List.forall_mem_cons.mpr ⟨lw_p58, List.forall_mem_cons.mpr ⟨lw_p59, List.forall_mem_cons.mpr ⟨lw_p60, List.forall_mem_cons.mpr ⟨lw_p61, fun _ h => absurd h List.not_mem_nil⟩⟩⟩⟩⟩⟩⟩⟩⟩⟩⟩⟩⟩⟩
def lw_privs : List (MethodName × Nat) := lw_privs_1 ++ (lw_privs_2 ++ (lw_privs_3 ++ (lw_privs_4)))
def lw_tbl : List Cond := k2_sels lw_privs ++ tables_1
theorem lw_privs_ok : ∀ q ∈ lw_privs, lw_okq q := by
  show ∀ q ∈ lw_privs_1 ++ (lw_privs_2 ++ (lw_privs_3 ++ (lw_privs_4))), lw_okq q
  exact List.forall_mem_append.mpr ⟨lw_r1, List.forall_mem_append.mpr ⟨lw_r2, List.forall_mem_append.mpr ⟨lw_r3, lw_r4⟩⟩⟩

-- ===== the words that every contract here carries: all good words of the tables =====
def bw : List Cond := lw_tbl.filter goodWord
theorem mw {w : Cond} (i : Nat) (h : tables_1[i]? = some w) (hg : goodWord w = true) : w ∈ bw := List.mem_filter.mpr ⟨List.mem_append_right _ (List.mem_of_getElem? h), hg⟩
theorem ms {w : Cond} (i : Nat) (h : (k2_sels lw_privs)[i]? = some w) (hg : goodWord w = true) : w ∈ bw := List.mem_filter.mpr ⟨List.mem_append_left _ (List.mem_of_getElem? h), hg⟩
theorem bw_good {w : Cond} (h : w ∈ bw) : (w.onTables && w.keeps) = true ∨ ∃ ty, w = .arrayClass ty := good_of_word (List.mem_filter.mp h).2
theorem gi_all {cw : Cond} (h : cw ∈ bw) : GoodIn bw (cw :: bw) := fun w hw => by
  rcases List.mem_cons.mp hw with rfl | hw
  · exact ⟨h, bw_good h⟩
  · exact ⟨hw, bw_good hw⟩
theorem gi_cons {w : Cond} {ws : List Cond} (h : w ∈ bw) (hs : GoodIn bw ws) : GoodIn bw (w :: ws) := fun v hv => by
  rcases List.mem_cons.mp hv with rfl | hv
  · exact ⟨h, bw_good h⟩
  · exact hs v hv

def F_Bu : u_T := fun k => match k with
  | 0 => ("MoveDesk$Bundle", "targets", "I", false)
  | 1 => ("MoveDesk$Bundle", "clashes", "Z", false)
  | 2 => ("MoveDesk$Bundle", "registersRead", "I", false)
  | 3 => ("MoveDesk$Bundle", "resultsRead", "I", false)
  | 4 => ("MoveDesk$Bundle", "begun", "I", false)
  | 5 => ("MoveDesk$Bundle", "jumpBus", "I", false)
  | 6 => ("MoveDesk$Bundle", "jumpsAnywhere", "Z", false)
  | _ => ("MoveDesk$Bundle", "halts", "Z", false)
def t_Bu : Nat → FieldType := fun k => match k with
  | 0 => .int
  | 1 => .boolean
  | 2 => .int
  | 3 => .int
  | 4 => .int
  | 5 => .int
  | 6 => .boolean
  | _ => .boolean
theorem n_Bu : ∀ a, a < 8 → ∀ b, b < 8 → a ≠ b → (F_Bu a).2.1 ≠ (F_Bu b).2.1 := by decide +kernel
theorem t_Bu_ok : ∀ k, k < 8 → parseFieldDescriptor (F_Bu k).2.2.1 = some (t_Bu k) := by decide +kernel
theorem i_Bu : ∀ w ∈ u_ws "MoveDesk$Bundle" F_Bu 8, w ∈ bw := fun w hw => by
  obtain ⟨k, hk, rfl⟩ := List.mem_map.mp hw
  rcases (show k = 0 ∨ k = 1 ∨ k = 2 ∨ k = 3 ∨ k = 4 ∨ k = 5 ∨ k = 6 ∨ k = 7 by have := List.mem_range.mp hk; omega) with rfl | rfl | rfl | rfl | rfl | rfl | rfl | rfl
  · exact mw 85 (by decide +kernel) rfl
  · exact mw 87 (by decide +kernel) rfl
  · exact mw 89 (by decide +kernel) rfl
  · exact mw 91 (by decide +kernel) rfl
  · exact mw 93 (by decide +kernel) rfl
  · exact mw 95 (by decide +kernel) rfl
  · exact mw 97 (by decide +kernel) rfl
  · exact mw 99 (by decide +kernel) rfl
def F_Co : u_T := fun k => match k with
  | 0 => ("MoveDesk$Code", "buses", "I", true)
  | 1 => ("MoveDesk$Code", "taken", "[I", true)
  | 2 => ("MoveDesk$Code", "guards", "[I", true)
  | 3 => ("MoveDesk$Code", "sources", "[I", true)
  | 4 => ("MoveDesk$Code", "constants", "[I", true)
  | _ => ("MoveDesk$Code", "destinations", "[I", true)
def t_Co : Nat → FieldType := fun k => match k with
  | 0 => .int
  | 1 => .array .int
  | 2 => .array .int
  | 3 => .array .int
  | 4 => .array .int
  | _ => .array .int
theorem n_Co : ∀ a, a < 6 → ∀ b, b < 6 → a ≠ b → (F_Co a).2.1 ≠ (F_Co b).2.1 := by decide +kernel
theorem t_Co_ok : ∀ k, k < 6 → parseFieldDescriptor (F_Co k).2.2.1 = some (t_Co k) := by decide +kernel
theorem i_Co : ∀ w ∈ u_ws "MoveDesk$Code" F_Co 6, w ∈ bw := fun w hw => by
  obtain ⟨k, hk, rfl⟩ := List.mem_map.mp hw
  rcases (show k = 0 ∨ k = 1 ∨ k = 2 ∨ k = 3 ∨ k = 4 ∨ k = 5 by have := List.mem_range.mp hk; omega) with rfl | rfl | rfl | rfl | rfl | rfl
  · exact mw 46 (by decide +kernel) rfl
  · exact mw 48 (by decide +kernel) rfl
  · exact mw 50 (by decide +kernel) rfl
  · exact mw 52 (by decide +kernel) rfl
  · exact mw 54 (by decide +kernel) rfl
  · exact mw 56 (by decide +kernel) rfl
def F_Ju : u_T := fun k => match k with
  | 0 => ("MoveDesk$Judge", "code", "LMoveDesk$Code;", true)
  | 1 => ("MoveDesk$Judge", "bundle", "LMoveDesk$Bundle;", true)
  | 2 => ("MoveDesk$Judge", "choices", "[I", true)
  | 3 => ("MoveDesk$Judge", "reached", "[J", true)
  | 4 => ("MoveDesk$Judge", "fresh", "[J", true)
  | 5 => ("MoveDesk$Judge", "unbegun", "[J", true)
  | 6 => ("MoveDesk$Judge", "withResult", "[J", true)
  | 7 => ("MoveDesk$Judge", "spreads", "Z", false)
  | 8 => ("MoveDesk$Judge", "wrongCycle", "I", false)
  | _ => ("MoveDesk$Judge", "wrongFault", "I", false)
def t_Ju : Nat → FieldType := fun k => match k with
  | 0 => .object "MoveDesk$Code"
  | 1 => .object "MoveDesk$Bundle"
  | 2 => .array .int
  | 3 => .array .long
  | 4 => .array .long
  | 5 => .array .long
  | 6 => .array .long
  | 7 => .boolean
  | 8 => .int
  | _ => .int
theorem n_Ju : ∀ a, a < 10 → ∀ b, b < 10 → a ≠ b → (F_Ju a).2.1 ≠ (F_Ju b).2.1 := by decide +kernel
theorem t_Ju_ok : ∀ k, k < 10 → parseFieldDescriptor (F_Ju k).2.2.1 = some (t_Ju k) := by decide +kernel
theorem i_Ju : ∀ w ∈ u_ws "MoveDesk$Judge" F_Ju 10, w ∈ bw := fun w hw => by
  obtain ⟨k, hk, rfl⟩ := List.mem_map.mp hw
  rcases (show k = 0 ∨ k = 1 ∨ k = 2 ∨ k = 3 ∨ k = 4 ∨ k = 5 ∨ k = 6 ∨ k = 7 ∨ k = 8 ∨ k = 9 by have := List.mem_range.mp hk; omega) with rfl | rfl | rfl | rfl | rfl | rfl | rfl | rfl | rfl | rfl
  · exact mw 249 (by decide +kernel) rfl
  · exact mw 251 (by decide +kernel) rfl
  · exact mw 253 (by decide +kernel) rfl
  · exact mw 255 (by decide +kernel) rfl
  · exact mw 257 (by decide +kernel) rfl
  · exact mw 259 (by decide +kernel) rfl
  · exact mw 261 (by decide +kernel) rfl
  · exact mw 263 (by decide +kernel) rfl
  · exact mw 265 (by decide +kernel) rfl
  · exact mw 267 (by decide +kernel) rfl
def F_Ma : u_T := fun k => match k with
  | 0 => ("MoveDesk$Machine", "code", "LMoveDesk$Code;", true)
  | 1 => ("MoveDesk$Machine", "latency", "[I", true)
  | 2 => ("MoveDesk$Machine", "bundle", "LMoveDesk$Bundle;", true)
  | 3 => ("MoveDesk$Machine", "words", "[I", true)
  | 4 => ("MoveDesk$Machine", "operands", "[I", true)
  | 5 => ("MoveDesk$Machine", "results", "[I", true)
  | 6 => ("MoveDesk$Machine", "carried", "[I", true)
  | 7 => ("MoveDesk$Machine", "coming", "[I", true)
  | 8 => ("MoveDesk$Machine", "comingSet", "I", false)
  | 9 => ("MoveDesk$Machine", "slot", "I", false)
  | 10 => ("MoveDesk$Machine", "unitsWithResult", "I", false)
  | 11 => ("MoveDesk$Machine", "guards", "I", false)
  | 12 => ("MoveDesk$Machine", "pc", "I", false)
  | 13 => ("MoveDesk$Machine", "jumpLeft", "I", false)
  | 14 => ("MoveDesk$Machine", "jumpTarget", "I", false)
  | _ => ("MoveDesk$Machine", "halted", "Z", false)
def t_Ma : Nat → FieldType := fun k => match k with
  | 0 => .object "MoveDesk$Code"
  | 1 => .array .int
  | 2 => .object "MoveDesk$Bundle"
  | 3 => .array .int
  | 4 => .array .int
  | 5 => .array .int
  | 6 => .array .int
  | 7 => .array .int
  | 8 => .int
  | 9 => .int
  | 10 => .int
  | 11 => .int
  | 12 => .int
  | 13 => .int
  | 14 => .int
  | _ => .boolean
theorem n_Ma : ∀ a, a < 16 → ∀ b, b < 16 → a ≠ b → (F_Ma a).2.1 ≠ (F_Ma b).2.1 := by decide +kernel
theorem t_Ma_ok : ∀ k, k < 16 → parseFieldDescriptor (F_Ma k).2.2.1 = some (t_Ma k) := by decide +kernel
theorem i_Ma : ∀ w ∈ u_ws "MoveDesk$Machine" F_Ma 16, w ∈ bw := fun w hw => by
  obtain ⟨k, hk, rfl⟩ := List.mem_map.mp hw
  rcases (show k = 0 ∨ k = 1 ∨ k = 2 ∨ k = 3 ∨ k = 4 ∨ k = 5 ∨ k = 6 ∨ k = 7 ∨ k = 8 ∨ k = 9 ∨ k = 10 ∨ k = 11 ∨ k = 12 ∨ k = 13 ∨ k = 14 ∨ k = 15 by have := List.mem_range.mp hk; omega) with rfl | rfl | rfl | rfl | rfl | rfl | rfl | rfl | rfl | rfl | rfl | rfl | rfl | rfl | rfl | rfl
  · exact mw 119 (by decide +kernel) rfl
  · exact mw 121 (by decide +kernel) rfl
  · exact mw 123 (by decide +kernel) rfl
  · exact mw 125 (by decide +kernel) rfl
  · exact mw 127 (by decide +kernel) rfl
  · exact mw 129 (by decide +kernel) rfl
  · exact mw 131 (by decide +kernel) rfl
  · exact mw 133 (by decide +kernel) rfl
  · exact mw 135 (by decide +kernel) rfl
  · exact mw 137 (by decide +kernel) rfl
  · exact mw 139 (by decide +kernel) rfl
  · exact mw 141 (by decide +kernel) rfl
  · exact mw 143 (by decide +kernel) rfl
  · exact mw 145 (by decide +kernel) rfl
  · exact mw 147 (by decide +kernel) rfl
  · exact mw 149 (by decide +kernel) rfl
def F_Op : u_T := fun k => match k with
  | 0 => ("MoveDesk$Operations", "kinds", "[I", true)
  | 1 => ("MoveDesk$Operations", "targets", "[I", true)
  | 2 => ("MoveDesk$Operations", "firsts", "[I", true)
  | 3 => ("MoveDesk$Operations", "seconds", "[I", true)
  | 4 => ("MoveDesk$Operations", "constants", "[I", true)
  | 5 => ("MoveDesk$Operations", "copy", "[I", true)
  | _ => ("MoveDesk$Operations", "count", "I", false)
def t_Op : Nat → FieldType := fun k => match k with
  | 0 => .array .int
  | 1 => .array .int
  | 2 => .array .int
  | 3 => .array .int
  | 4 => .array .int
  | 5 => .array .int
  | _ => .int
theorem n_Op : ∀ a, a < 7 → ∀ b, b < 7 → a ≠ b → (F_Op a).2.1 ≠ (F_Op b).2.1 := by decide +kernel
theorem t_Op_ok : ∀ k, k < 7 → parseFieldDescriptor (F_Op k).2.2.1 = some (t_Op k) := by decide +kernel
theorem i_Op : ∀ w ∈ u_ws "MoveDesk$Operations" F_Op 7, w ∈ bw := fun w hw => by
  obtain ⟨k, hk, rfl⟩ := List.mem_map.mp hw
  rcases (show k = 0 ∨ k = 1 ∨ k = 2 ∨ k = 3 ∨ k = 4 ∨ k = 5 ∨ k = 6 by have := List.mem_range.mp hk; omega) with rfl | rfl | rfl | rfl | rfl | rfl | rfl
  · exact mw 165 (by decide +kernel) rfl
  · exact mw 167 (by decide +kernel) rfl
  · exact mw 169 (by decide +kernel) rfl
  · exact mw 171 (by decide +kernel) rfl
  · exact mw 173 (by decide +kernel) rfl
  · exact mw 175 (by decide +kernel) rfl
  · exact mw 177 (by decide +kernel) rfl
def F_Pl : u_T := fun k => match k with
  | 0 => ("MoveDesk$Planner", "code", "LMoveDesk$Code;", true)
  | 1 => ("MoveDesk$Planner", "operations", "LMoveDesk$Operations;", true)
  | 2 => ("MoveDesk$Planner", "latency", "[I", true)
  | 3 => ("MoveDesk$Planner", "busesUsed", "[I", true)
  | 4 => ("MoveDesk$Planner", "registersRead", "[I", true)
  | 5 => ("MoveDesk$Planner", "hasResultMove", "[Z", true)
  | 6 => ("MoveDesk$Planner", "latestWrite", "[I", true)
  | 7 => ("MoveDesk$Planner", "latestRead", "[I", true)
  | 8 => ("MoveDesk$Planner", "latestTrigger", "[I", true)
  | 9 => ("MoveDesk$Planner", "latestResultMove", "[I", true)
  | 10 => ("MoveDesk$Planner", "triggerCycles", "[I", true)
  | _ => ("MoveDesk$Planner", "resultCycles", "[I", true)
def t_Pl : Nat → FieldType := fun k => match k with
  | 0 => .object "MoveDesk$Code"
  | 1 => .object "MoveDesk$Operations"
  | 2 => .array .int
  | 3 => .array .int
  | 4 => .array .int
  | 5 => .array .boolean
  | 6 => .array .int
  | 7 => .array .int
  | 8 => .array .int
  | 9 => .array .int
  | 10 => .array .int
  | _ => .array .int
theorem n_Pl : ∀ a, a < 12 → ∀ b, b < 12 → a ≠ b → (F_Pl a).2.1 ≠ (F_Pl b).2.1 := by decide +kernel
theorem t_Pl_ok : ∀ k, k < 12 → parseFieldDescriptor (F_Pl k).2.2.1 = some (t_Pl k) := by decide +kernel
theorem i_Pl : ∀ w ∈ u_ws "MoveDesk$Planner" F_Pl 12, w ∈ bw := fun w hw => by
  obtain ⟨k, hk, rfl⟩ := List.mem_map.mp hw
  rcases (show k = 0 ∨ k = 1 ∨ k = 2 ∨ k = 3 ∨ k = 4 ∨ k = 5 ∨ k = 6 ∨ k = 7 ∨ k = 8 ∨ k = 9 ∨ k = 10 ∨ k = 11 by have := List.mem_range.mp hk; omega) with rfl | rfl | rfl | rfl | rfl | rfl | rfl | rfl | rfl | rfl | rfl | rfl
  · exact mw 198 (by decide +kernel) rfl
  · exact mw 200 (by decide +kernel) rfl
  · exact mw 202 (by decide +kernel) rfl
  · exact mw 204 (by decide +kernel) rfl
  · exact mw 206 (by decide +kernel) rfl
  · exact mw 208 (by decide +kernel) rfl
  · exact mw 210 (by decide +kernel) rfl
  · exact mw 212 (by decide +kernel) rfl
  · exact mw 214 (by decide +kernel) rfl
  · exact mw 216 (by decide +kernel) rfl
  · exact mw 218 (by decide +kernel) rfl
  · exact mw 220 (by decide +kernel) rfl
def F_Md : u_T := fun k => match k with
  | 0 => ("MoveDesk", "code", "LMoveDesk$Code;", true)
  | 1 => ("MoveDesk", "machine", "LMoveDesk$Machine;", true)
  | 2 => ("MoveDesk", "operations", "LMoveDesk$Operations;", true)
  | 3 => ("MoveDesk", "planner", "LMoveDesk$Planner;", true)
  | 4 => ("MoveDesk", "judge", "LMoveDesk$Judge;", true)
  | 5 => ("MoveDesk", "judgedFault", "I", false)
  | _ => ("MoveDesk", "runFault", "I", false)
def t_Md : Nat → FieldType := fun k => match k with
  | 0 => .object "MoveDesk$Code"
  | 1 => .object "MoveDesk$Machine"
  | 2 => .object "MoveDesk$Operations"
  | 3 => .object "MoveDesk$Planner"
  | 4 => .object "MoveDesk$Judge"
  | 5 => .int
  | _ => .int
theorem n_Md : ∀ a, a < 7 → ∀ b, b < 7 → a ≠ b → (F_Md a).2.1 ≠ (F_Md b).2.1 := by decide +kernel
theorem t_Md_ok : ∀ k, k < 7 → parseFieldDescriptor (F_Md k).2.2.1 = some (t_Md k) := by decide +kernel
theorem i_Md : ∀ w ∈ u_ws "MoveDesk" F_Md 7, w ∈ bw := fun w hw => by
  obtain ⟨k, hk, rfl⟩ := List.mem_map.mp hw
  rcases (show k = 0 ∨ k = 1 ∨ k = 2 ∨ k = 3 ∨ k = 4 ∨ k = 5 ∨ k = 6 by have := List.mem_range.mp hk; omega) with rfl | rfl | rfl | rfl | rfl | rfl | rfl
  · exact mw 278 (by decide +kernel) rfl
  · exact mw 280 (by decide +kernel) rfl
  · exact mw 282 (by decide +kernel) rfl
  · exact mw 284 (by decide +kernel) rfl
  · exact mw 286 (by decide +kernel) rfl
  · exact mw 288 (by decide +kernel) rfl
  · exact mw 290 (by decide +kernel) rfl
def F_Mo : u_T := fun k => match k with
  | 0 => ("MoveDeskModel", "thrown", "I", false)
  | 1 => ("MoveDeskModel", "buses", "I", true)
  | 2 => ("MoveDeskModel", "latency", "[I", true)
  | 3 => ("MoveDeskModel", "code", "[I", true)
  | 4 => ("MoveDeskModel", "registers", "[I", true)
  | 5 => ("MoveDeskModel", "memory", "[I", true)
  | 6 => ("MoveDeskModel", "operands", "[I", true)
  | 7 => ("MoveDeskModel", "results", "[I", true)
  | 8 => ("MoveDeskModel", "had", "[Z", true)
  | 9 => ("MoveDeskModel", "guards", "I", false)
  | 10 => ("MoveDeskModel", "pc", "I", false)
  | 11 => ("MoveDeskModel", "jumpIn", "I", false)
  | 12 => ("MoveDeskModel", "jumpTo", "I", false)
  | 13 => ("MoveDeskModel", "ranFault", "I", false)
  | 14 => ("MoveDeskModel", "halted", "Z", false)
  | 15 => ("MoveDeskModel", "flights", "I", false)
  | 16 => ("MoveDeskModel", "flightUnit", "[I", true)
  | 17 => ("MoveDeskModel", "flightValue", "[I", true)
  | 18 => ("MoveDeskModel", "flightIn", "[I", true)
  | 19 => ("MoveDeskModel", "operations", "I", false)
  | 20 => ("MoveDeskModel", "operation", "[I", true)
  | 21 => ("MoveDeskModel", "copy", "[I", true)
  | 22 => ("MoveDeskModel", "made", "[Z", true)
  | 23 => ("MoveDeskModel", "values", "[I", true)
  | 24 => ("MoveDeskModel", "wrongCycle", "I", false)
  | 25 => ("MoveDeskModel", "wrongFault", "I", false)
  | 26 => ("MoveDeskModel", "waiting", "I", false)
  | 27 => ("MoveDeskModel", "seen", "[Z", true)
  | 28 => ("MoveDeskModel", "queue", "[I", true)
  | 29 => ("MoveDeskModel", "laid", "[I", true)
  | 30 => ("MoveDeskModel", "opT", "[I", true)
  | _ => ("MoveDeskModel", "opR", "[I", true)
def t_Mo : Nat → FieldType := fun k => match k with
  | 0 => .int
  | 1 => .int
  | 2 => .array .int
  | 3 => .array .int
  | 4 => .array .int
  | 5 => .array .int
  | 6 => .array .int
  | 7 => .array .int
  | 8 => .array .boolean
  | 9 => .int
  | 10 => .int
  | 11 => .int
  | 12 => .int
  | 13 => .int
  | 14 => .boolean
  | 15 => .int
  | 16 => .array .int
  | 17 => .array .int
  | 18 => .array .int
  | 19 => .int
  | 20 => .array .int
  | 21 => .array .int
  | 22 => .array .boolean
  | 23 => .array .int
  | 24 => .int
  | 25 => .int
  | 26 => .int
  | 27 => .array .boolean
  | 28 => .array .int
  | 29 => .array .int
  | 30 => .array .int
  | _ => .array .int
theorem n_Mo : ∀ a, a < 32 → ∀ b, b < 32 → a ≠ b → (F_Mo a).2.1 ≠ (F_Mo b).2.1 := by decide +kernel
theorem t_Mo_ok : ∀ k, k < 32 → parseFieldDescriptor (F_Mo k).2.2.1 = some (t_Mo k) := by decide +kernel
theorem i_Mo : ∀ w ∈ u_ws "MoveDeskModel" F_Mo 32, w ∈ bw := fun w hw => by
  obtain ⟨k, hk, rfl⟩ := List.mem_map.mp hw
  rcases (show k = 0 ∨ k = 1 ∨ k = 2 ∨ k = 3 ∨ k = 4 ∨ k = 5 ∨ k = 6 ∨ k = 7 ∨ k = 8 ∨ k = 9 ∨ k = 10 ∨ k = 11 ∨ k = 12 ∨ k = 13 ∨ k = 14 ∨ k = 15 ∨ k = 16 ∨ k = 17 ∨ k = 18 ∨ k = 19 ∨ k = 20 ∨ k = 21 ∨ k = 22 ∨ k = 23 ∨ k = 24 ∨ k = 25 ∨ k = 26 ∨ k = 27 ∨ k = 28 ∨ k = 29 ∨ k = 30 ∨ k = 31 by have := List.mem_range.mp hk; omega) with rfl | rfl | rfl | rfl | rfl | rfl | rfl | rfl | rfl | rfl | rfl | rfl | rfl | rfl | rfl | rfl | rfl | rfl | rfl | rfl | rfl | rfl | rfl | rfl | rfl | rfl | rfl | rfl | rfl | rfl | rfl | rfl
  · exact mw 850 (by decide +kernel) rfl
  · exact mw 852 (by decide +kernel) rfl
  · exact mw 854 (by decide +kernel) rfl
  · exact mw 856 (by decide +kernel) rfl
  · exact mw 858 (by decide +kernel) rfl
  · exact mw 860 (by decide +kernel) rfl
  · exact mw 862 (by decide +kernel) rfl
  · exact mw 864 (by decide +kernel) rfl
  · exact mw 866 (by decide +kernel) rfl
  · exact mw 868 (by decide +kernel) rfl
  · exact mw 870 (by decide +kernel) rfl
  · exact mw 872 (by decide +kernel) rfl
  · exact mw 874 (by decide +kernel) rfl
  · exact mw 876 (by decide +kernel) rfl
  · exact mw 878 (by decide +kernel) rfl
  · exact mw 880 (by decide +kernel) rfl
  · exact mw 882 (by decide +kernel) rfl
  · exact mw 884 (by decide +kernel) rfl
  · exact mw 886 (by decide +kernel) rfl
  · exact mw 888 (by decide +kernel) rfl
  · exact mw 890 (by decide +kernel) rfl
  · exact mw 892 (by decide +kernel) rfl
  · exact mw 894 (by decide +kernel) rfl
  · exact mw 896 (by decide +kernel) rfl
  · exact mw 898 (by decide +kernel) rfl
  · exact mw 900 (by decide +kernel) rfl
  · exact mw 902 (by decide +kernel) rfl
  · exact mw 904 (by decide +kernel) rfl
  · exact mw 906 (by decide +kernel) rfl
  · exact mw 908 (by decide +kernel) rfl
  · exact mw 910 (by decide +kernel) rfl
  · exact mw 912 (by decide +kernel) rfl
abbrev classes : List vw_C := [("MoveDesk$Bundle", F_Bu, 8), ("MoveDesk$Code", F_Co, 6), ("MoveDesk$Judge", F_Ju, 10), ("MoveDesk$Machine", F_Ma, 16), ("MoveDesk$Operations", F_Op, 7), ("MoveDesk$Planner", F_Pl, 12), ("MoveDesk", F_Md, 7), ("MoveDeskModel", F_Mo, 32)]
def nestw : List Cond := [.fieldLinkNest "MoveDesk$Planner" 89 "MoveDesk$Code" "buses" "I" "MoveDesk", .methodLinkNest "MoveDesk$Machine" 11 ⟨"MoveDesk$Bundle", "<init>", "()V"⟩ "MoveDesk", .fieldLinkNest "MoveDesk$Judge" 89 "MoveDesk$Bundle" "resultsRead" "I" "MoveDesk", .fieldLinkNest "MoveDesk$Judge" 118 "MoveDesk$Bundle" "begun" "I" "MoveDesk", .fieldLinkNest "MoveDesk$Judge" 127 "MoveDesk$Bundle" "jumpBus" "I" "MoveDesk", .fieldLinkNest "MoveDesk$Judge" 100 "MoveDesk$Bundle" "jumpsAnywhere" "Z" "MoveDesk", .fieldLinkNest "MoveDesk$Judge" 103 "MoveDesk$Bundle" "halts" "Z" "MoveDesk", .fieldLinkNest "MoveDesk" 142 "MoveDesk$Machine" "words" "[I" "MoveDesk", .methodLinkNest "MoveDesk" 38 ⟨"MoveDesk$Operations", "<init>", "()V"⟩ "MoveDesk", .methodLinkNest "MoveDesk$Judge" 13 ⟨"MoveDesk$Bundle", "<init>", "()V"⟩ "MoveDesk", .methodLinkNest "MoveDesk$Judge" 121 ⟨"MoveDesk", "wrapCycle", "(I)I"⟩ "MoveDesk", .methodLinkNest "MoveDesk$Operations" 30 ⟨"MoveDesk", "isWithin", "(II)Z"⟩ "MoveDesk", .methodLinkNest "MoveDesk$Machine" 120 ⟨"MoveDesk", "memoryPlace", "(I)I"⟩ "MoveDesk", .methodLinkNest "MoveDesk$Machine" 128 ⟨"MoveDesk", "wrapCycle", "(I)I"⟩ "MoveDesk", .methodLinkNest "MoveDesk$Operations" 69 ⟨"MoveDesk", "memoryPlace", "(I)I"⟩ "MoveDesk"]
theorem nestw_kinds : ∀ w ∈ nestw, (∃ (a : String) (i : Nat) (b n d o : String), w = .fieldLinkNest a i b n d o) ∨ (∃ (a : String) (i : Nat) (x : MethodName) (o : String), w = .methodLinkNest a i x o) := by
  intro w hw
  simp only [nestw, List.mem_cons, List.not_mem_nil, or_false] at hw
  rcases hw with rfl | rfl | rfl | rfl | rfl | rfl | rfl | rfl | rfl | rfl | rfl | rfl | rfl | rfl | rfl
  · exact Or.inl ⟨_, _, _, _, _, _, rfl⟩
  · exact Or.inr ⟨_, _, _, _, rfl⟩
  · exact Or.inl ⟨_, _, _, _, _, _, rfl⟩
  · exact Or.inl ⟨_, _, _, _, _, _, rfl⟩
  · exact Or.inl ⟨_, _, _, _, _, _, rfl⟩
  · exact Or.inl ⟨_, _, _, _, _, _, rfl⟩
  · exact Or.inl ⟨_, _, _, _, _, _, rfl⟩
  · exact Or.inl ⟨_, _, _, _, _, _, rfl⟩
  · exact Or.inr ⟨_, _, _, _, rfl⟩
  · exact Or.inr ⟨_, _, _, _, rfl⟩
  · exact Or.inr ⟨_, _, _, _, rfl⟩
  · exact Or.inr ⟨_, _, _, _, rfl⟩
  · exact Or.inr ⟨_, _, _, _, rfl⟩
  · exact Or.inr ⟨_, _, _, _, rfl⟩
  · exact Or.inr ⟨_, _, _, _, rfl⟩
theorem nw_40 : (.fieldLinkNest "MoveDesk$Planner" 89 "MoveDesk$Code" "buses" "I" "MoveDesk" : Cond) ∈ nestw := List.mem_of_getElem? (i := 0) rfl
theorem nw_68 : (.methodLinkNest "MoveDesk$Machine" 11 ⟨"MoveDesk$Bundle", "<init>", "()V"⟩ "MoveDesk" : Cond) ∈ nestw := List.mem_of_getElem? (i := 1) rfl
theorem nw_76 : (.fieldLinkNest "MoveDesk$Judge" 89 "MoveDesk$Bundle" "resultsRead" "I" "MoveDesk" : Cond) ∈ nestw := List.mem_of_getElem? (i := 2) rfl
theorem nw_78 : (.fieldLinkNest "MoveDesk$Judge" 118 "MoveDesk$Bundle" "begun" "I" "MoveDesk" : Cond) ∈ nestw := List.mem_of_getElem? (i := 3) rfl
theorem nw_80 : (.fieldLinkNest "MoveDesk$Judge" 127 "MoveDesk$Bundle" "jumpBus" "I" "MoveDesk" : Cond) ∈ nestw := List.mem_of_getElem? (i := 4) rfl
theorem nw_82 : (.fieldLinkNest "MoveDesk$Judge" 100 "MoveDesk$Bundle" "jumpsAnywhere" "Z" "MoveDesk" : Cond) ∈ nestw := List.mem_of_getElem? (i := 5) rfl
theorem nw_84 : (.fieldLinkNest "MoveDesk$Judge" 103 "MoveDesk$Bundle" "halts" "Z" "MoveDesk" : Cond) ∈ nestw := List.mem_of_getElem? (i := 6) rfl
theorem nw_106 : (.fieldLinkNest "MoveDesk" 142 "MoveDesk$Machine" "words" "[I" "MoveDesk" : Cond) ∈ nestw := List.mem_of_getElem? (i := 7) rfl
theorem nw_154 : (.methodLinkNest "MoveDesk" 38 ⟨"MoveDesk$Operations", "<init>", "()V"⟩ "MoveDesk" : Cond) ∈ nestw := List.mem_of_getElem? (i := 8) rfl
theorem nw_231 : (.methodLinkNest "MoveDesk$Judge" 13 ⟨"MoveDesk$Bundle", "<init>", "()V"⟩ "MoveDesk" : Cond) ∈ nestw := List.mem_of_getElem? (i := 9) rfl
theorem nw_416 : (.methodLinkNest "MoveDesk$Judge" 121 ⟨"MoveDesk", "wrapCycle", "(I)I"⟩ "MoveDesk" : Cond) ∈ nestw := List.mem_of_getElem? (i := 10) rfl
theorem nw_566 : (.methodLinkNest "MoveDesk$Operations" 30 ⟨"MoveDesk", "isWithin", "(II)Z"⟩ "MoveDesk" : Cond) ∈ nestw := List.mem_of_getElem? (i := 11) rfl
theorem nw_755 : (.methodLinkNest "MoveDesk$Machine" 120 ⟨"MoveDesk", "memoryPlace", "(I)I"⟩ "MoveDesk" : Cond) ∈ nestw := List.mem_of_getElem? (i := 12) rfl
theorem nw_762 : (.methodLinkNest "MoveDesk$Machine" 128 ⟨"MoveDesk", "wrapCycle", "(I)I"⟩ "MoveDesk" : Cond) ∈ nestw := List.mem_of_getElem? (i := 13) rfl
theorem nw_810 : (.methodLinkNest "MoveDesk$Operations" 69 ⟨"MoveDesk", "memoryPlace", "(I)I"⟩ "MoveDesk" : Cond) ∈ nestw := List.mem_of_getElem? (i := 14) rfl
def exw : List Cond := [.castable "java/lang/IndexOutOfBoundsException" "java/lang/IndexOutOfBoundsException", .castable "java/lang/IllegalArgumentException" "java/lang/IllegalArgumentException", .castable "java/lang/IllegalStateException" "java/lang/IllegalStateException", .castable "java/lang/UnsupportedOperationException" "java/lang/UnsupportedOperationException", .declares ⟨"java/lang/RuntimeException", "<init>", "()V"⟩, .declares ⟨"java/lang/Exception", "<init>", "()V"⟩, .declares ⟨"java/lang/Throwable", "<init>", "()V"⟩]
theorem exw_kinds : ∀ w ∈ exw, (∃ (a b : String), w = .castable a b) ∨ (∃ x : MethodName, w = .declares x) := by
  intro w hw
  simp only [exw, List.mem_cons, List.not_mem_nil, or_false] at hw
  rcases hw with rfl | rfl | rfl | rfl | rfl | rfl | rfl
  · exact Or.inl ⟨_, _, rfl⟩
  · exact Or.inl ⟨_, _, rfl⟩
  · exact Or.inl ⟨_, _, rfl⟩
  · exact Or.inl ⟨_, _, rfl⟩
  · exact Or.inr ⟨_, rfl⟩
  · exact Or.inr ⟨_, rfl⟩
  · exact Or.inr ⟨_, rfl⟩
def tgV (j : Nat) : Int32 := ([0, 1, 2, 3, 4, 5, 6, 7, 8, 9, 10, 11, 11, 12, 13, 13, 11, 11, 11, 11, 11, 11, 11, 11, 14, 14] : List Int32).getD j 0
def asV (j : Nat) : Int32 := ([1, 2, 10] : List Int32).getD j 0
def acV (j : Nat) : Int32 := ([2, 5, 4] : List Int32).getD j 0
-- ===== the pure pieces that the walked functions are made of =====
def nm {α β : Type} (a : α) (k : α → β) : β := k a
def ck {α : Type} (i : Int32) (n : Nat) (k : Option α) : Option α := if i < 0 ∨ n ≤ i.toNatClampNeg then none else k
def bk {α : Type} (v : Int32) (k : Option α) : Option α := if v = 0 ∨ v = 1 then k else none
theorem nm_at {α β : Type} {X : β} {a y : α} {k : α → β} (h : X = nm a k) (hy : y = a) : X = k y := by subst hy; exact h
theorem ck_at {α : Type} {E : α} {i : Int32} {n : Nat} {k : Option α} (h : some E = ck i n k) : vp_in i n ∧ some E = k := by
  unfold ck at h
  by_cases q : i < 0 ∨ n ≤ i.toNatClampNeg
  · rw [if_pos q] at h; cases h
  · rw [if_neg q] at h; exact ⟨q, h⟩
theorem bk_at {α : Type} {E : α} {v : Int32} {k : Option α} (h : some E = bk v k) : (narrow .boolean (.int v) = .int v) ∧ some E = k := by
  unfold bk at h
  by_cases q : v = 0 ∨ v = 1
  · rw [if_pos q] at h
    refine ⟨?_, h⟩
    rcases q with rfl | rfl <;> rfl
  · rw [if_neg q] at h; cases h
def nz {α : Type} (v : Int32) (k : Option α) : Option α := if v = 0 then none else k
theorem nz_at {α : Type} {E : α} {v : Int32} {k : Option α} (h : some E = nz v k) : (¬ v = 0) ∧ some E = k := by
  unfold nz at h
  by_cases q : v = 0
  · rw [if_pos q] at h; cases h
  · rw [if_neg q] at h; exact ⟨q, h⟩
theorem it_t {α : Type} {X a b : α} {c : Prop} {hd : Decidable c} (h : X = @ite α c hd a b) (hc : c) : X = a := by rw [if_pos hc] at h; exact h
theorem it_f {α : Type} {X a b : α} {c : Prop} {hd : Decidable c} (h : X = @ite α c hd a b) (hc : ¬ c) : X = b := by rw [if_neg hc] at h; exact h
theorem bd_at {α β : Type} {o : Option α} {k : α → Option β} {E : β} (h : some E = o.bind k) : ∃ y, some y = o ∧ some E = k y := by
  cases o with
  | none => cases h
  | some y => exact ⟨y, rfl, h⟩
-- ===== what is fixed in every walk: where the classes, array classes and static tables are =====
abbrev GT : Type := va_G × (ClassId × ClassId × ClassId) × (Nat × Nat × Nat) × (Nat × Nat × (Nat → Int32))
abbrev gI (g : GT) : ClassId := g.2.1.1
abbrev gZ (g : GT) : ClassId := g.2.1.2.1
abbrev gJ (g : GT) : ClassId := g.2.1.2.2
/-- the law's script: its cell, its length, its ints -/
abbrev gb (g : GT) : Nat := g.2.2.2.1
abbrev gL (g : GT) : Nat := g.2.2.2.2.1
abbrev gx (g : GT) : Nat → Int32 := g.2.2.2.2.2
abbrev gty (g : GT) : List (ClassId × FieldType) := [(gI g, .int), (gZ g, .boolean), (gJ g, .long)]
abbrev kI (g : GT) (a n : Nat) (f : Nat → Int32) : Nat × va_E := (a, .inl (gI g, n, .inl f))
abbrev kZ (g : GT) (a n : Nat) (f : Nat → Int32) : Nat × va_E := (a, .inl (gZ g, n, .inl f))
abbrev kJ (g : GT) (a n : Nat) (f : Nat → Int64) : Nat × va_E := (a, .inl (gJ g, n, .inr (.inl f)))
abbrev kO (a ci : Nat) (fs : List Value) : Nat × va_E := (a, .inr (ci, fs))
def NW (U : State) : Prop := ∀ w ∈ nestw, va_Nw w U
theorem NW.moved {s U : State} (hW : s.WarmedH U.vm) (h : NW s) : NW U := fun w hw => by
  have h1 := h w hw
  rcases nestw_kinds w hw with ⟨a, i, b, n, d, o, rfl⟩ | ⟨a, i, x, o, rfl⟩
  · exact va_Nw.warmF hW h1
  · exact va_Nw.warmM hW h1
theorem NW.same {s U : State} (hv : s.vm = U.vm) (h : NW s) : NW U := fun w hw => by
  have h1 := h w hw
  rcases nestw_kinds w hw with ⟨a, i, b, n, d, o, rfl⟩ | ⟨a, i, x, o, rfl⟩
  · exact va_Nw.same rfl hv h1
  · exact va_Nw.same rfl hv h1
def ST (C n : String) (t N : Nat) (f : Nat → Int32) (A : Nat → Prop) (U : State) : Prop := va_Z C n "[I" (.ref t) A U U.heap ∧ va_T .int t N (fun j => .int (f j)) A U U.heap
/-- a static field that holds a reference or null, in a cell that isn't A's -/
def ZL (C n d : String) (A : Nat → Prop) (U : State) (H : Heap) : Prop := ∃ (c : ClassId) (k : Class) (i : Nat) (f : Field) (a : Nat) (cell : Cell), U.vm.findClass C = some c ∧ U.fieldFound? C n d = some (c, k, i, f) ∧ f.isStatic = true ∧ k.statics = some a ∧ H[a]? = some cell ∧ cell.vm.isStatics = true ∧ cell.cls = c ∧ f.slot < cell.slots.size ∧ k.staticTypes[f.slot]? = some f.type ∧ (cell.slots[f.slot]? = some .null ∨ ∃ t, cell.slots[f.slot]? = some (.ref t)) ∧ ¬ A a
theorem ZL.moved {C n d : String} {A : Nat → Prop} {u U : State} {H : Heap} (hvm : u.vm.Alike U.vm) (h : ZL C n d A u H) : ZL C n d A U H := by
  obtain ⟨c, k, i, f, a, cell, h0, h1, h2, h3, h4, h5, h6, h7, h8, h9⟩ := h
  obtain ⟨k', hi', he⟩ := State.fieldFound?_setVm hvm h1
  exact ⟨c, k', i, f, a, cell, by rw [hvm.findClass]; exact h0, hi', h2, by rw [he]; exact h3, h4, h5, h6, h7, by rw [he]; exact h8, h9⟩
theorem ZL.kept {C n d : String} {A : Nat → Prop} {U : State} {H H1 : Heap} (h : ZL C n d A U H) (hq : ∀ a : Nat, a < H.size → ¬ A a → H1[a]? = H[a]?) : ZL C n d A U H1 := by
  obtain ⟨c, k, i, f, a, cell, h0, h1, h2, h3, h4, h5, h6, h7, h8, h9, h10⟩ := h
  exact ⟨c, k, i, f, a, cell, h0, h1, h2, h3, by rw [hq a (Array.getElem?_eq_some_iff.mp h4).1 h10]; exact h4, h5, h6, h7, h8, h9, h10⟩
theorem ZL.narrow {C n d : String} {A B : Nat → Prop} {U : State} {H : Heap} (h : ZL C n d A U H) (hAB : ∀ q, B q → A q) : ZL C n d B U H := by
  obtain ⟨c, k, i, f, a, cell, h0, h1, h2, h3, h4, h5, h6, h7, h8, h9, h10⟩ := h
  exact ⟨c, k, i, f, a, cell, h0, h1, h2, h3, h4, h5, h6, h7, h8, h9, fun z => h10 (hAB a z)⟩
theorem ZL.lays {args : Array Value} {s : State} {C n d : String} {A : Nat → Prop} (h : ZL C n d A s s.heap) : (Cond.laysStatic C n d).before args s = true := by
  obtain ⟨c, k, i, f, a, cell, h0, h1, h2, h3, h4, h5, h6, h7, h8, h9⟩ := h
  exact Cond.laysStatic_of h0 h1 h2 h3 h4 h5 h6 h7 h8
theorem ZL.isRef {args : Array Value} {s : State} {C n d : String} {A : Nat → Prop} (h : ZL C n d A s s.heap) : (Cond.isRef (.static C n d)).before args s = true := by
  obtain ⟨c, k, i, f, a, cell, h0, h1, h2, h3, h4, h5, h6, h7, h8, h9, h10⟩ := h
  have hv : (Term.static C n d).eval args s none [] s = cell.slots[f.slot]? := by simp [Term.eval, State.fieldNamed?, h1, h2, h3, h4, h5]
  rcases h9 with h9 | ⟨t, h9⟩ <;>
  · rw [h9] at hv
    simp [Cond.before, Cond.holds, Cond.value, hv]
theorem ZL.of {args : Array Value} {s : State} {C n d : String} {A : Nat → Prop} (hl : (Cond.laysStatic C n d).before args s = true) (hr : (Cond.isRef (.static C n d)).before args s = true) (hA : ∀ a : Nat, a < s.heap.size → ¬ A a) : ZL C n d A s s.heap := by
  obtain ⟨c, k, i, f, a, cell, h0, h1, h2, h3, h4, h5, h6, h7, h8⟩ := Cond.laysStatic_spec hl
  have hv : (Term.static C n d).eval args s none [] s = cell.slots[f.slot]? := by simp [Term.eval, State.fieldNamed?, h1, h2, h3, h4, h5]
  refine ⟨c, k, i, f, a, cell, h0, h1, h2, h3, h4, h5, h6, h7, h8, ?_, hA a (Array.getElem?_eq_some_iff.mp h4).1⟩
  rw [Array.getElem?_eq_getElem h7] at hv ⊢
  generalize cell.slots[f.slot] = v at hv ⊢
  cases v with
  | null => exact Or.inl rfl
  | ref t => exact Or.inr ⟨t, rfl⟩
  | _ => simp [Cond.before, Cond.holds, Cond.value, hv] at hr
/-- what the making and the catching of exceptions rests on beside the good words -/
def EX (A : Nat → Prop) (U : State) : Prop := (∀ w ∈ exw, va_Nw w U) ∧ ZL "java/lang/Throwable" "UNASSIGNED_STACK" "[Ljava/lang/StackTraceElement;" A U U.heap ∧ ZL "java/lang/Throwable" "SUPPRESSED_SENTINEL" "Ljava/util/List;" A U U.heap ∧ va_Nc "java/lang/IllegalArgumentException" "java/lang/IndexOutOfBoundsException" U ∧ va_Nc "java/lang/IllegalStateException" "java/lang/IllegalArgumentException" U
theorem exw_moved {s U : State} (hW : s.WarmedH U.vm) (h : ∀ w ∈ exw, va_Nw w s) : ∀ w ∈ exw, va_Nw w U := fun w hw => by
  have h1 := h w hw
  rcases exw_kinds w hw with ⟨a, b, rfl⟩ | ⟨x, rfl⟩
  · exact va_Nw.warmC hW h1
  · exact va_Nw.warmD hW h1
theorem exw_same {s U : State} (hv : s.vm = U.vm) (h : ∀ w ∈ exw, va_Nw w s) : ∀ w ∈ exw, va_Nw w U := fun w hw => by
  have h1 := h w hw
  rcases exw_kinds w hw with ⟨a, b, rfl⟩ | ⟨x, rfl⟩
  · exact va_Nw.same rfl hv h1
  · exact va_Nw.same rfl hv h1
def SC (g : GT) (A : Nat → Prop) (U : State) : Prop := va_X (gb g) (gL g) (gx g) U U.heap ∧ ¬ A (gb g)
theorem SC.lt {g : GT} {A : Nat → Prop} {U : State} (h : SC g A U) : gb g < U.heap.size := by
  obtain ⟨⟨scr, h1, -⟩, -⟩ := h
  exact (Array.getElem?_eq_some_iff.mp h1).1
theorem SC.to {g : GT} {A B : Nat → Prop} {s U : State} {H : Heap} {locs : List Loc} (h : SC g A s) (hS : va_S A s.heap H locs) (hB : ∀ q, B q → A q) (hU : U.heap = H) (hv : s.vm.Alike U.vm) : SC g B U :=
  ⟨by rw [hU]; exact va_X.moved hv (h.1.kept (hS.2.1 _ h.lt h.2)), fun z => h.2 (hB _ z)⟩
theorem SC.call {g : GT} {A : Nat → Prop} {U : State} {f : JFrame} {mk : MethodId} {a : Array Value} (h : SC g A U) : SC g A (U.calling f mk a) :=
  ⟨va_X.moved (u := U) (U := U.calling f mk a) (Vm.Alike.refl U.vm) h.1, h.2⟩
def GG (g : GT) (A : Nat → Prop) (U : State) : Prop := NW U ∧ ST "MoveDesk$Bundle" "TARGETS" g.2.2.1.1 26 tgV A U ∧ ST "MoveDesk$Judge" "AGE_STEPS" g.2.2.1.2.1 3 asV A U ∧ ST "MoveDesk$Judge" "AGE_COUNTS" g.2.2.1.2.2 3 acV A U ∧ EX A U ∧ SC g A U
theorem ST.to {C n : String} {t N : Nat} {f : Nat → Int32} {A B : Nat → Prop} {s U : State} {H : Heap} {locs : List Loc} (h : ST C n t N f A s) (hS : va_S A s.heap H locs) (hB : ∀ q, B q → A q) (hU : U.heap = H) (hv : s.vm.Alike U.vm) : ST C n t N f B U := by
  obtain ⟨h1, h2⟩ := h
  refine ⟨?_, ?_⟩
  · rw [hU]; exact (va_Z.moved hv (h1.kept hS.2.1)).narrow hB
  · rw [hU]; exact (va_T.moved hv (h2.kept hS.2.1)).narrow hB
theorem EX.to {A B : Nat → Prop} {s U : State} {H : Heap} {locs : List Loc} (h : EX A s) (hS : va_S A s.heap H locs) (hB : ∀ q, B q → A q) (hU : U.heap = H) (hW : s.WarmedH U.vm) : EX B U :=
  ⟨exw_moved hW h.1, by rw [hU]; exact (ZL.moved hW.alike (h.2.1.kept hS.2.1)).narrow hB, by rw [hU]; exact (ZL.moved hW.alike (h.2.2.1.kept hS.2.1)).narrow hB, va_Nc.moved hW.alike h.2.2.2.1, va_Nc.moved hW.alike h.2.2.2.2⟩
theorem EX.call {A : Nat → Prop} {U : State} {f : JFrame} {mk : MethodId} {a : Array Value} (h : EX A U) : EX A (U.calling f mk a) :=
  ⟨exw_same (s := U) (U := U.calling f mk a) rfl h.1, ZL.moved (u := U) (U := U.calling f mk a) (Vm.Alike.refl U.vm) h.2.1, ZL.moved (u := U) (U := U.calling f mk a) (Vm.Alike.refl U.vm) h.2.2.1, va_Nc.moved (u := U) (U := U.calling f mk a) (Vm.Alike.refl U.vm) h.2.2.2.1, va_Nc.moved (u := U) (U := U.calling f mk a) (Vm.Alike.refl U.vm) h.2.2.2.2⟩
theorem GG.to {g : GT} {A B : Nat → Prop} {s U : State} {H : Heap} {locs : List Loc} (h : GG g A s) (hS : va_S A s.heap H locs) (hB : ∀ q, B q → A q) (hU : U.heap = H) (hW : s.WarmedH U.vm) : GG g B U :=
  ⟨h.1.moved hW, h.2.1.to hS hB hU hW.alike, h.2.2.1.to hS hB hU hW.alike, h.2.2.2.1.to hS hB hU hW.alike, h.2.2.2.2.1.to hS hB hU hW, h.2.2.2.2.2.to hS hB hU hW.alike⟩
theorem ST.call {C n : String} {t N : Nat} {f : Nat → Int32} {A : Nat → Prop} {U : State} {fr : JFrame} {mk : MethodId} {a : Array Value} (h : ST C n t N f A U) : ST C n t N f A (U.calling fr mk a) :=
  ⟨va_Z.moved (u := U) (U := U.calling fr mk a) (Vm.Alike.refl U.vm) h.1, va_T.moved (u := U) (U := U.calling fr mk a) (Vm.Alike.refl U.vm) h.2⟩
theorem GG.call {g : GT} {A : Nat → Prop} {U : State} {f : JFrame} {mk : MethodId} {a : Array Value} (h : GG g A U) : GG g A (U.calling f mk a) :=
  ⟨NW.same (s := U) (U := U.calling f mk a) rfl h.1, h.2.1.call, h.2.2.1.call, h.2.2.2.1.call, h.2.2.2.2.1.call, h.2.2.2.2.2.call⟩
-- ===== contracts =====
def PW (g : GT) (ws : va_W) (sz : Nat) (U : State) : Prop := U.heap.size = sz ∧ va_P g.1 classes ws U.heap ∧ va_K g.1 classes (gty g) U ∧ va_D (fun _ => True) ws ∧ GG g (va_A ws sz) U
def QW (g : GT) (rv : Option Value) (w1 : va_W) (A : Nat → Prop) : Array Value → State → Outcome → State → Prop := fun _ st oc t => (oc = .returned rv ∧ va_P g.1 classes w1 t.heap ∧ va_K g.1 classes (gty g) t ∧ va_D A w1) ∧ va_F A st t
def Ct (l : Launch) (y : MethodName) (cw : Cond) (rm : Room) (g : GT) (av : List Value) (ws w1 : va_W) (rv : Option Value) : Prop := ∀ sz, Met l y (cw :: bw) rm (va_Pc av (PW g ws sz)) (QW g rv w1 (va_A ws sz)) 0 0 (va_A ws sz)
def MX (p : Program) (s : State) (m : MethodId) (args : Array Value) (meth : Method) (c : Code) (cc : ByteArray) (nL : Nat) (rt : Option FieldType) (C : String) (g : GT) (A : Nat → Prop) : Prop :=
  p.tables.exec = Jvm.exec ∧ c.code = cc ∧ meth.sig.returnType = rt ∧ c.maxLocals = nL ∧ s.vm.findClass C = some m.cls ∧ (∀ w ∈ bw, w.before args s = true) ∧ meth.locks = false ∧ (∀ q, s.heap.size ≤ q → A q) ∧ va_K g.1 classes (gty g) s ∧ GG g A s
theorem PW_blind {g : GT} {av : List Value} {ws : va_W} {sz : Nat} : FrameBlind (va_Pc av (PW g ws sz)) := fun a U f mk q => by
  obtain ⟨q0, q1, qP, qK, qD, qG⟩ := q
  exact ⟨q0, q1, qP, va_K.moved (u := U) (U := U.calling f mk a) (Vm.Alike.refl U.vm) qK, qD, qG.call⟩
theorem ct_in {l : Launch} {y : MethodName} {cc : ByteArray} {maxL : Nat} {rt : Option FieldType} {rm : Room} {g : GT} {av : List Value} {ws w1 : va_W} {rv : Option Value} {C : String} (hC : y.cls = C) (hy : plainName y.cls = true) (hn : (lg_sl av).length ≤ maxL)
    (body : ∀ (p : Program) (e : Env) (s : State) (m : MethodId) (below : List Frame) (meth : Method) (c : Code) (A : Nat → Prop) (ls : Array Slot), MX p s m av.toArray meth c cc maxL rt C g A → va_P g.1 classes ws s.heap → va_D A ws → va_S A s.heap s.heap [] → lv_has ls maxL (lv_args 0 av) →
      W p l e rm s m av.toArray below meth c s.heap [] 0 0 (MQ below (QW g rv w1 A) av.toArray s 0 0 A) (F0 m 0 ls [])) :
    Ct l y (.code y cc maxL rt) rm g av ws w1 rv := by
  intro sz
  refine Met.ofW (cc := cc) (maxL := maxL) (ret := rt) hy rfl ?_
  intro p e s m args below meth c s₁ B hml hv
  obtain ⟨rfl, hsz, hP, hK, hD0, hG⟩ := hv
  have hts := atoms_spec (ws := Cond.code y cc maxL rt :: bw) B.pre
  have hown : s.vm.findClass C = some m.cls := by rw [← hC]; exact findClass_of_methodNamed B.named
  subst hsz
  have hl := lv_entry av (n := maxL) hn
  rw [lg_entry_eq]
  exact body p e s m below meth c _ _ ⟨B.exec, B.bytes, B.returns, hml, hown, fun w h => hts w (List.mem_cons_of_mem _ h), B.notSynchronized, fun q h => Or.inr h, hK, hG⟩ hP (hD0.self (sz := s.heap.size)) va_S.rf hl
-- ===== calls by such contracts =====
theorem P_map {D : va_G} {cl : List vw_C} {ws ws' : va_W} {H : Heap} (h : va_P D cl ws H) (is : List Nat) (hs : is.map (fun i => ws[i]?) = ws'.map some) : va_P D cl ws' H := by
  intro k q hk
  have h1 : (is.map (fun i => ws[i]?))[k]? = some (some q) := by rw [hs, List.getElem?_map, hk]; rfl
  rw [List.getElem?_map] at h1
  cases hi : is[k]? with
  | none => rw [hi] at h1; cases h1
  | some i => rw [hi] at h1; exact h i q (Option.some.inj h1)
theorem R_map {ws : va_W} (is : List Nat) (h : is.all (fun i => decide (i < ws.length)) = true) : is.map (fun i => ws[i]?) = (is.filterMap (fun i => ws[i]?)).map some := by
  induction is with
  | nil => rfl
  | cons i t ih =>
    rw [List.all_cons, Bool.and_eq_true] at h
    have hi : i < ws.length := of_decide_eq_true h.1
    have he : ws[i]? = some ws[i] := List.getElem?_eq_getElem hi
    rw [List.map_cons, ih h.2, List.filterMap_cons, he]
    rfl
section KC
variable {p : Program} {l : Launch} {e : Env} {R : Room} {s : State} {m : MethodId} {args : Array Value} {below : List Frame} {meth : Method} {c : Code} {H : Heap} {locs : List Loc} {cells slots : Nat} {Q : State → Prop}
variable {cc : ByteArray} {nL : Nat} {rt : Option FieldType} {own : String} {g : GT} {A : Nat → Prop} {y : MethodName} {bytes : ByteArray} {maxL n index : Nat} {ret : Option FieldType} {rm : Room} {As rest st0 : List Value} {ws wc w1 ws2 : va_W} {rv : Option Value} {pc : Nat} {ls : Array Slot}
theorem k_go {a : Array Value} (hK : va_K g.1 classes (gty g) s) (hP : va_P g.1 classes ws H) (hD : va_D A ws) (hS : va_S A s.heap H locs) (hA : ∀ q, s.heap.size ≤ q → A q)
    (isC isR isX : List Nat) (hC : isC.map (fun i => ws[i]?) = wc.map some) (hR : isR.all (fun i => decide (i < ws.length)) = true) (hnR : va_nd isR = true) (hdis : ∀ i ∈ isR, i ∉ isC) (hnX : va_nd isX = true) (hX : isX.map (fun i => ((isR.filterMap (fun i => ws[i]?)) ++ w1)[i]?) = ws2.map some)
    (hr : va_Run p l e R s m args below meth c H locs cells slots 0 0 (F0 m pc ls st0) rest (QW g rv w1 (va_A wc H.size) a) (va_A wc H.size))
    (kk : ∀ (H1 : Heap) (locs1 : List Loc), va_P g.1 classes ws2 H1 → va_D A ws2 → va_S A s.heap H1 locs1 → W p l e R s m args below meth c H1 locs1 cells slots Q (F0 m (pc + 3) ls (rv.toList ++ rest))) :
    W p l e R s m args below meth c H locs cells slots Q (F0 m pc ls st0) := by
  have hF : ∀ q, va_A wc H.size q → A q := va_free (wc := wc) hD hS hA isC hC
  intro T hT X
  obtain ⟨v, st₀, t, T', L, h0, X', hL, e1, e2, ⟨⟨hv, hP1, hK1, hD1⟩, hz, hk⟩, st⟩ := hr T hT X
  cases hv
  rw [h0] at hz hk
  obtain ⟨hP2, hD2⟩ := va_join (wr := isR.filterMap (fun i => ws[i]?)) (w1 := w1) (H1 := t.heap) hP hD isC isR hC (R_map isR hR) hnR hdis (fun q h1 h2 => hk q h1 h2) hF hP1 hD1
  obtain ⟨t2, a1, b1⟩ := kk T'.heap (locs ++ L) (by rw [e1]; exact P_map hP2 isX hX) (hD2.sub isX hnX hX)
    ⟨Nat.le_trans hS.1 (by rw [e1]; exact hz), fun q h1 h2 => by rw [e1, hk q (Nat.lt_of_lt_of_le h1 hS.1) (fun z => h2 (hF q z))]; exact hS.2.1 q h1 h2, fun q hq => by
      rcases List.mem_append.mp hq with h | h
      · exact hS.2.2 q h
      · exact hF _ (hL q h)⟩ T' rfl X'
  exact ⟨t2, st t2 a1, b1⟩
theorem k_pre (hK : va_K g.1 classes (gty g) s) (hP : va_P g.1 classes ws H) (hD : va_D A ws) (hS : va_S A s.heap H locs) (hA : ∀ q, s.heap.size ≤ q → A q) (hG : GG g A s) (isC : List Nat) (hnC : va_nd isC = true) (hC : isC.map (fun i => ws[i]?) = wc.map some) :
    ∀ U : State, U.heap = H → s.WarmedH U.vm → PW g wc H.size U := fun U hU hW =>
  ⟨by rw [hU], by rw [hU]; exact P_map hP isC hC, va_K.moved hW.alike hK, (hD.sub isC hnC hC).weaken (fun _ _ _ _ => trivial), hG.to hS (va_free (wc := wc) hD hS hA isC hC) hU hW⟩
/-- a virtual call -/
theorem kV {C : String} {b : Nat} (M : MX p s m args meth c cc nL rt own g A) (hP : va_P g.1 classes ws H) (hD : va_D A ws) (hS : va_S A s.heap H locs) (hsz : ls.size = nL)
    (hM : Ct l y (.code y bytes maxL ret) rm g (.ref b :: As) wc w1 rv)
    (h1 : Cond.methodLink own index y ∈ bw) (h2 : Cond.instanceMethod y ∈ bw) (h3 : Cond.selects C y y ∈ bw) (h4 : Cond.initialized C ∈ bw) (h5 : Cond.code y bytes maxL ret ∈ bw)
    (hd : y.cls = C ∧ y.cls ≠ "java/lang/invoke/MethodHandle" ∧ y.cls ≠ "java/lang/invoke/VarHandle" ∧ (parseMethodDescriptor y.desc).map (fun d => d.parameters.length) = some n) (hn : As.length = n)
    (hrc : rm.cells = 0) (hrs : rm.slots = 0) (hRm : rm.frames + 1 ≤ R.frames ∧ 8 + (maxL + 11) + rm.locals ≤ R.locals) (hcs : cells ≤ R.cells ∧ slots ≤ R.slots)
    (ci q0 : Nat) {q : vw_C} {fs : List Value} (hc : classes[ci]? = some q) (hq : q.1 = C) (he : wc[q0]? = some (b, .inr (ci, fs)))
    (isC isR isX : List Nat) (hC : isC.map (fun i => ws[i]?) = wc.map some) (hR : isR.all (fun i => decide (i < ws.length)) = true) (hnC : va_nd isC = true) (hnR : va_nd isR = true) (hdis : ∀ i ∈ isR, i ∉ isC) (hnX : va_nd isX = true) (hX : isX.map (fun i => ((isR.filterMap (fun i => ws[i]?)) ++ w1)[i]?) = ws2.map some)
    (hst : st0 = As.reverse ++ .ref b :: rest) (hW : (rest.map fun v => v.category).sum ≤ 8) (hdg : decode cc pc = .ok (.invokevirtual index, 3))
    (kk : ∀ (H : Heap) (locs : List Loc), va_P g.1 classes ws2 H → va_D A ws2 → va_S A s.heap H locs → W p l e R s m args below meth c H locs cells slots Q (F0 m (pc + 3) ls (rv.toList ++ rest))) :
    W p l e R s m args below meth c H locs cells slots Q (F0 m pc ls st0) := by
  obtain ⟨hx, hb, hr, hml, hown, hts, hlocks, hA, hK, hG⟩ := M
  refine k_go hK hP hD hS hA isC isR isX hC hR hnR hdis hnX hX (va_runV (As := As) (rest := rest) ⟨hx, hb, hml, hown, hts⟩ (hM H.size) (cwV n hts (gi_cons h1 (gi_cons h2 (gi_cons h3 (gi_cons h4 (gi_all h5))))) rfl hrc hrs hd hRm) ⟨PW_blind, ?_, fun U hU hW => ⟨rfl, k_pre hK hP hD hS hA hG isC hnC hC U hU hW⟩⟩ rfl hn hsz hst (lv_room hW) hdg ⟨hcs.1, hcs.2⟩) kk
  have hr := va_recv hK (P_map hP isC hC) hc he
  rw [hq] at hr
  exact hr
/-- a static call -/
theorem kS (M : MX p s m args meth c cc nL rt own g A) (hP : va_P g.1 classes ws H) (hD : va_D A ws) (hS : va_S A s.heap H locs) (hsz : ls.size = nL)
    (hM : Ct l y (.code y bytes maxL ret) rm g As wc w1 rv)
    (h1 : Cond.methodLink own index y ∈ bw) (h2 : Cond.static y ∈ bw) (h4 : Cond.initialized y.cls ∈ bw) (h5 : Cond.code y bytes maxL ret ∈ bw)
    (hd : y.cls ≠ "java/lang/invoke/MethodHandle" ∧ y.cls ≠ "java/lang/invoke/VarHandle" ∧ (parseMethodDescriptor y.desc).map (fun d => d.parameters.length) = some n) (hn : As.length = n)
    (hrc : rm.cells = 0) (hrs : rm.slots = 0) (hRm : rm.frames + 1 ≤ R.frames ∧ 8 + (maxL + 11) + rm.locals ≤ R.locals) (hcs : cells ≤ R.cells ∧ slots ≤ R.slots)
    (isC isR isX : List Nat) (hC : isC.map (fun i => ws[i]?) = wc.map some) (hR : isR.all (fun i => decide (i < ws.length)) = true) (hnC : va_nd isC = true) (hnR : va_nd isR = true) (hdis : ∀ i ∈ isR, i ∉ isC) (hnX : va_nd isX = true) (hX : isX.map (fun i => ((isR.filterMap (fun i => ws[i]?)) ++ w1)[i]?) = ws2.map some)
    (hst : st0 = As.reverse ++ rest) (hW : (rest.map fun v => v.category).sum ≤ 8) (hdg : decode cc pc = .ok (.invokestatic index, 3))
    (kk : ∀ (H : Heap) (locs : List Loc), va_P g.1 classes ws2 H → va_D A ws2 → va_S A s.heap H locs → W p l e R s m args below meth c H locs cells slots Q (F0 m (pc + 3) ls (rv.toList ++ rest))) :
    W p l e R s m args below meth c H locs cells slots Q (F0 m pc ls st0) := by
  obtain ⟨hx, hb, hr, hml, hown, hts, hlocks, hA, hK, hG⟩ := M
  exact k_go hK hP hD hS hA isC isR isX hC hR hnR hdis hnX hX (va_runS (As := As) (rest := rest) ⟨hx, hb, hml, hown, hts⟩ (hM H.size) (va_cwS n hts (gi_cons h1 (gi_cons h2 (gi_cons h4 (gi_all h5)))) rfl hrc hrs hd hRm) ⟨PW_blind, fun U hU hW => ⟨rfl, k_pre hK hP hD hS hA hG isC hnC hC U hU hW⟩⟩ rfl hn hsz hst (lv_room hW) hdg ⟨hcs.1, hcs.2⟩) kk
/-- a static call of a nest mate -/
theorem kSN {host : String} (M : MX p s m args meth c cc nL rt own g A) (hP : va_P g.1 classes ws H) (hD : va_D A ws) (hS : va_S A s.heap H locs) (hsz : ls.size = nL)
    (hM : Ct l y (.code y bytes maxL ret) rm g As wc w1 rv)
    (h1 : Cond.methodLinkNest own index y host ∈ nestw) (h2 : Cond.static y ∈ bw) (h4 : Cond.initialized y.cls ∈ bw) (h5 : Cond.code y bytes maxL ret ∈ bw)
    (hd : y.cls ≠ "java/lang/invoke/MethodHandle" ∧ y.cls ≠ "java/lang/invoke/VarHandle" ∧ (parseMethodDescriptor y.desc).map (fun d => d.parameters.length) = some n) (hn : As.length = n)
    (hrc : rm.cells = 0) (hrs : rm.slots = 0) (hRm : rm.frames + 1 ≤ R.frames ∧ 8 + (maxL + 11) + rm.locals ≤ R.locals) (hcs : cells ≤ R.cells ∧ slots ≤ R.slots)
    (isC isR isX : List Nat) (hC : isC.map (fun i => ws[i]?) = wc.map some) (hR : isR.all (fun i => decide (i < ws.length)) = true) (hnC : va_nd isC = true) (hnR : va_nd isR = true) (hdis : ∀ i ∈ isR, i ∉ isC) (hnX : va_nd isX = true) (hX : isX.map (fun i => ((isR.filterMap (fun i => ws[i]?)) ++ w1)[i]?) = ws2.map some)
    (hst : st0 = As.reverse ++ rest) (hW : (rest.map fun v => v.category).sum ≤ 8) (hdg : decode cc pc = .ok (.invokestatic index, 3))
    (kk : ∀ (H : Heap) (locs : List Loc), va_P g.1 classes ws2 H → va_D A ws2 → va_S A s.heap H locs → W p l e R s m args below meth c H locs cells slots Q (F0 m (pc + 3) ls (rv.toList ++ rest))) :
    W p l e R s m args below meth c H locs cells slots Q (F0 m pc ls st0) := by
  obtain ⟨hx, hb, hr, hml, hown, hts, hlocks, hA, hK, hG⟩ := M
  exact k_go hK hP hD hS hA isC isR isX hC hR hnR hdis hnX hX (va_runSN (As := As) (rest := rest) ⟨hx, hb, hml, hown, hts⟩ (hM H.size) ⟨va_cnB n hts (gi_all h5) rfl hrc hrs (hG.1 _ h1) (hts _ h4) hd hRm, hts _ h2, trivial⟩ ⟨PW_blind, fun U hU hW => ⟨rfl, k_pre hK hP hD hS hA hG isC hnC hC U hU hW⟩⟩ rfl hn hsz hst (lv_room hW) hdg ⟨hcs.1, hcs.2⟩) kk
end KC

