section
-- ===== PART A: goes FIRST, ahead of the names: the tables' words, and 'selects' of the private methods out of them =====
/-- a private method of a class that the tables say can be made, by its rows of tables_1 -/
def lw_okq (q : MethodName × Nat) : Prop := (q.1.cls ≠ "java/lang/invoke/MethodHandle" ∧ q.1.cls ≠ "java/lang/invoke/VarHandle") ∧ Cond.instantiable q.1.cls q.2 ∈ tables_1 ∧ Cond.privateMethod q.1 ∈ tables_1 ∧ Cond.instanceMethod q.1 ∈ tables_1
theorem lw_p0 : lw_okq (⟨"LastRower$Reader", "readToken", "()V"⟩, 6) := ⟨⟨by decide +kernel, by decide +kernel⟩, List.mem_of_getElem? (i := 25) (by decide +kernel), List.mem_of_getElem? (i := 301) (by decide +kernel), List.mem_of_getElem? (i := 302) (by decide +kernel)⟩
theorem lw_p1 : lw_okq (⟨"LastRower$Reader", "readDigits", "()V"⟩, 6) := ⟨⟨by decide +kernel, by decide +kernel⟩, List.mem_of_getElem? (i := 25) (by decide +kernel), List.mem_of_getElem? (i := 308) (by decide +kernel), List.mem_of_getElem? (i := 309) (by decide +kernel)⟩
theorem lw_p2 : lw_okq (⟨"LastRower$Reader", "readItem", "(LLastRower$Ferry;)Z"⟩, 6) := ⟨⟨by decide +kernel, by decide +kernel⟩, List.mem_of_getElem? (i := 25) (by decide +kernel), List.mem_of_getElem? (i := 315) (by decide +kernel), List.mem_of_getElem? (i := 316) (by decide +kernel)⟩
theorem lw_p3 : lw_okq (⟨"LastRower$Reader", "readPassenger", "(LLastRower$Ferry;)Z"⟩, 6) := ⟨⟨by decide +kernel, by decide +kernel⟩, List.mem_of_getElem? (i := 25) (by decide +kernel), List.mem_of_getElem? (i := 319) (by decide +kernel), List.mem_of_getElem? (i := 320) (by decide +kernel)⟩
theorem lw_p4 : lw_okq (⟨"LastRower$Reader", "readNumber", "(II)Z"⟩, 6) := ⟨⟨by decide +kernel, by decide +kernel⟩, List.mem_of_getElem? (i := 25) (by decide +kernel), List.mem_of_getElem? (i := 323) (by decide +kernel), List.mem_of_getElem? (i := 324) (by decide +kernel)⟩
theorem lw_p5 : lw_okq (⟨"LastRower$Reader", "readCurrent", "(LLastRower$Ferry;)Z"⟩, 6) := ⟨⟨by decide +kernel, by decide +kernel⟩, List.mem_of_getElem? (i := 25) (by decide +kernel), List.mem_of_getElem? (i := 331) (by decide +kernel), List.mem_of_getElem? (i := 332) (by decide +kernel)⟩
theorem lw_p6 : lw_okq (⟨"LastRower$Reader", "readWide", "(LLastRower$Ferry;)Z"⟩, 6) := ⟨⟨by decide +kernel, by decide +kernel⟩, List.mem_of_getElem? (i := 25) (by decide +kernel), List.mem_of_getElem? (i := 343) (by decide +kernel), List.mem_of_getElem? (i := 344) (by decide +kernel)⟩
theorem lw_p7 : lw_okq (⟨"LastRower$Reader", "readSemicolon", "()Z"⟩, 6) := ⟨⟨by decide +kernel, by decide +kernel⟩, List.mem_of_getElem? (i := 25) (by decide +kernel), List.mem_of_getElem? (i := 347) (by decide +kernel), List.mem_of_getElem? (i := 348) (by decide +kernel)⟩
theorem lw_p8 : lw_okq (⟨"LastRower$Ferry", "findPull", "(I)I"⟩, 11) := ⟨⟨by decide +kernel, by decide +kernel⟩, List.mem_of_getElem? (i := 52) (by decide +kernel), List.mem_of_getElem? (i := 355) (by decide +kernel), List.mem_of_getElem? (i := 356) (by decide +kernel)⟩
theorem lw_p9 : lw_okq (⟨"LastRower$Ferry", "findFlow", "(I)I"⟩, 11) := ⟨⟨by decide +kernel, by decide +kernel⟩, List.mem_of_getElem? (i := 52) (by decide +kernel), List.mem_of_getElem? (i := 359) (by decide +kernel), List.mem_of_getElem? (i := 360) (by decide +kernel)⟩
theorem lw_p10 : lw_okq (⟨"LastRower$Moment", "findNextDue", "(LLastRower$Ferry;)I"⟩, 6) := ⟨⟨by decide +kernel, by decide +kernel⟩, List.mem_of_getElem? (i := 107) (by decide +kernel), List.mem_of_getElem? (i := 370) (by decide +kernel), List.mem_of_getElem? (i := 371) (by decide +kernel)⟩
theorem lw_p11 : lw_okq (⟨"LastRower", "isOver", "()Z"⟩, 14) := ⟨⟨by decide +kernel, by decide +kernel⟩, List.mem_of_getElem? (i := 17) (by decide +kernel), List.mem_of_getElem? (i := 408) (by decide +kernel), List.mem_of_getElem? (i := 409) (by decide +kernel)⟩
theorem lw_p12 : lw_okq (⟨"LastRower", "utter", "(I)V"⟩, 14) := ⟨⟨by decide +kernel, by decide +kernel⟩, List.mem_of_getElem? (i := 17) (by decide +kernel), List.mem_of_getElem? (i := 459) (by decide +kernel), List.mem_of_getElem? (i := 460) (by decide +kernel)⟩
theorem lw_p13 : lw_okq (⟨"LastRower", "copyOfNow", "()LLastRower$Moment;"⟩, 14) := ⟨⟨by decide +kernel, by decide +kernel⟩, List.mem_of_getElem? (i := 17) (by decide +kernel), List.mem_of_getElem? (i := 488) (by decide +kernel), List.mem_of_getElem? (i := 489) (by decide +kernel)⟩
theorem lw_p14 : lw_okq (⟨"LastRower$Planner", "tryAll", "(LLastRower$Ferry;I)V"⟩, 6) := ⟨⟨by decide +kernel, by decide +kernel⟩, List.mem_of_getElem? (i := 161) (by decide +kernel), List.mem_of_getElem? (i := 535) (by decide +kernel), List.mem_of_getElem? (i := 536) (by decide +kernel)⟩
theorem lw_p15 : lw_okq (⟨"LastRower$Planner", "weigh", "(LLastRower$Ferry;I)V"⟩, 6) := ⟨⟨by decide +kernel, by decide +kernel⟩, List.mem_of_getElem? (i := 161) (by decide +kernel), List.mem_of_getElem? (i := 540) (by decide +kernel), List.mem_of_getElem? (i := 541) (by decide +kernel)⟩
def lw_privs_1 : List (MethodName × Nat) := [(⟨"LastRower$Reader", "readToken", "()V"⟩, 6), (⟨"LastRower$Reader", "readDigits", "()V"⟩, 6), (⟨"LastRower$Reader", "readItem", "(LLastRower$Ferry;)Z"⟩, 6), (⟨"LastRower$Reader", "readPassenger", "(LLastRower$Ferry;)Z"⟩, 6), (⟨"LastRower$Reader", "readNumber", "(II)Z"⟩, 6), (⟨"LastRower$Reader", "readCurrent", "(LLastRower$Ferry;)Z"⟩, 6), (⟨"LastRower$Reader", "readWide", "(LLastRower$Ferry;)Z"⟩, 6), (⟨"LastRower$Reader", "readSemicolon", "()Z"⟩, 6), (⟨"LastRower$Ferry", "findPull", "(I)I"⟩, 11), (⟨"LastRower$Ferry", "findFlow", "(I)I"⟩, 11), (⟨"LastRower$Moment", "findNextDue", "(LLastRower$Ferry;)I"⟩, 6), (⟨"LastRower", "isOver", "()Z"⟩, 14), (⟨"LastRower", "utter", "(I)V"⟩, 14), (⟨"LastRower", "copyOfNow", "()LLastRower$Moment;"⟩, 14), (⟨"LastRower$Planner", "tryAll", "(LLastRower$Ferry;I)V"⟩, 6), (⟨"LastRower$Planner", "weigh", "(LLastRower$Ferry;I)V"⟩, 6)]
theorem lw_r1 : ∀ q ∈ lw_privs_1, lw_okq q := List.forall_mem_cons.mpr ⟨lw_p0, List.forall_mem_cons.mpr ⟨lw_p1, List.forall_mem_cons.mpr ⟨lw_p2, List.forall_mem_cons.mpr ⟨lw_p3, List.forall_mem_cons.mpr ⟨lw_p4, List.forall_mem_cons.mpr ⟨lw_p5, List.forall_mem_cons.mpr ⟨lw_p6, List.forall_mem_cons.mpr ⟨lw_p7, List.forall_mem_cons.mpr ⟨lw_p8, List.forall_mem_cons.mpr ⟨lw_p9, List.forall_mem_cons.mpr ⟨lw_p10, List.forall_mem_cons.mpr ⟨lw_p11, List.forall_mem_cons.mpr ⟨lw_p12, List.forall_mem_cons.mpr ⟨lw_p13, List.forall_mem_cons.mpr ⟨lw_p14, List.forall_mem_cons.mpr ⟨lw_p15, fun _ h => absurd h List.not_mem_nil⟩⟩⟩⟩⟩⟩⟩⟩⟩⟩⟩⟩⟩⟩⟩⟩
theorem lw_p16 : lw_okq (⟨"LastRower", "countPinchable", "()I"⟩, 14) := ⟨⟨by decide +kernel, by decide +kernel⟩, List.mem_of_getElem? (i := 17) (by decide +kernel), List.mem_of_getElem? (i := 553) (by decide +kernel), List.mem_of_getElem? (i := 554) (by decide +kernel)⟩
theorem lw_p17 : lw_okq (⟨"LastRower", "copyWherePinched", "(I)LLastRower$Moment;"⟩, 14) := ⟨⟨by decide +kernel, by decide +kernel⟩, List.mem_of_getElem? (i := 17) (by decide +kernel), List.mem_of_getElem? (i := 557) (by decide +kernel), List.mem_of_getElem? (i := 558) (by decide +kernel)⟩
theorem lw_p18 : lw_okq (⟨"LastRower", "agreesWithSeen", "(LLastRower$Moment;)Z"⟩, 14) := ⟨⟨by decide +kernel, by decide +kernel⟩, List.mem_of_getElem? (i := 17) (by decide +kernel), List.mem_of_getElem? (i := 581) (by decide +kernel), List.mem_of_getElem? (i := 582) (by decide +kernel)⟩
theorem lw_p19 : lw_okq (⟨"LastRower", "latestSeen", "()I"⟩, 14) := ⟨⟨by decide +kernel, by decide +kernel⟩, List.mem_of_getElem? (i := 17) (by decide +kernel), List.mem_of_getElem? (i := 585) (by decide +kernel), List.mem_of_getElem? (i := 586) (by decide +kernel)⟩
theorem lw_p20 : lw_okq (⟨"LastRower", "contradictsSeen", "(II)Z"⟩, 14) := ⟨⟨by decide +kernel, by decide +kernel⟩, List.mem_of_getElem? (i := 17) (by decide +kernel), List.mem_of_getElem? (i := 590) (by decide +kernel), List.mem_of_getElem? (i := 591) (by decide +kernel)⟩
theorem lw_p21 : lw_okq (⟨"LastRower", "waysOver", "(IIII)I"⟩, 14) := ⟨⟨by decide +kernel, by decide +kernel⟩, List.mem_of_getElem? (i := 17) (by decide +kernel), List.mem_of_getElem? (i := 598) (by decide +kernel), List.mem_of_getElem? (i := 599) (by decide +kernel)⟩
theorem lw_p22 : lw_okq (⟨"LastRowerModel", "advances", "()V"⟩, 27) := ⟨⟨by decide +kernel, by decide +kernel⟩, List.mem_of_getElem? (i := 660) (by decide +kernel), List.mem_of_getElem? (i := 764) (by decide +kernel), List.mem_of_getElem? (i := 765) (by decide +kernel)⟩
theorem lw_p23 : lw_okq (⟨"LastRowerModel", "letterAt", "(I)I"⟩, 27) := ⟨⟨by decide +kernel, by decide +kernel⟩, List.mem_of_getElem? (i := 660) (by decide +kernel), List.mem_of_getElem? (i := 768) (by decide +kernel), List.mem_of_getElem? (i := 769) (by decide +kernel)⟩
theorem lw_p24 : lw_okq (⟨"LastRowerModel", "isWell", "()Z"⟩, 27) := ⟨⟨by decide +kernel, by decide +kernel⟩, List.mem_of_getElem? (i := 660) (by decide +kernel), List.mem_of_getElem? (i := 772) (by decide +kernel), List.mem_of_getElem? (i := 773) (by decide +kernel)⟩
theorem lw_p25 : lw_okq (⟨"LastRowerModel", "takes", "(Z)I"⟩, 27) := ⟨⟨by decide +kernel, by decide +kernel⟩, List.mem_of_getElem? (i := 660) (by decide +kernel), List.mem_of_getElem? (i := 776) (by decide +kernel), List.mem_of_getElem? (i := 777) (by decide +kernel)⟩
theorem lw_p26 : lw_okq (⟨"LastRowerModel", "readsItem", "(I)V"⟩, 27) := ⟨⟨by decide +kernel, by decide +kernel⟩, List.mem_of_getElem? (i := 660) (by decide +kernel), List.mem_of_getElem? (i := 780) (by decide +kernel), List.mem_of_getElem? (i := 781) (by decide +kernel)⟩
theorem lw_p27 : lw_okq (⟨"LastRowerModel", "number", "(II)I"⟩, 27) := ⟨⟨by decide +kernel, by decide +kernel⟩, List.mem_of_getElem? (i := 660) (by decide +kernel), List.mem_of_getElem? (i := 784) (by decide +kernel), List.mem_of_getElem? (i := 785) (by decide +kernel)⟩
theorem lw_p28 : lw_okq (⟨"LastRowerModel", "isNewYard", "()Z"⟩, 27) := ⟨⟨by decide +kernel, by decide +kernel⟩, List.mem_of_getElem? (i := 660) (by decide +kernel), List.mem_of_getElem? (i := 788) (by decide +kernel), List.mem_of_getElem? (i := 789) (by decide +kernel)⟩
theorem lw_p29 : lw_okq (⟨"LastRowerModel", "settles", "()V"⟩, 27) := ⟨⟨by decide +kernel, by decide +kernel⟩, List.mem_of_getElem? (i := 660) (by decide +kernel), List.mem_of_getElem? (i := 792) (by decide +kernel), List.mem_of_getElem? (i := 793) (by decide +kernel)⟩
theorem lw_p30 : lw_okq (⟨"LastRowerModel", "isPassenger", "(I)Z"⟩, 27) := ⟨⟨by decide +kernel, by decide +kernel⟩, List.mem_of_getElem? (i := 660) (by decide +kernel), List.mem_of_getElem? (i := 800) (by decide +kernel), List.mem_of_getElem? (i := 801) (by decide +kernel)⟩
theorem lw_p31 : lw_okq (⟨"LastRowerModel", "flowAt", "(I)I"⟩, 27) := ⟨⟨by decide +kernel, by decide +kernel⟩, List.mem_of_getElem? (i := 660) (by decide +kernel), List.mem_of_getElem? (i := 808) (by decide +kernel), List.mem_of_getElem? (i := 809) (by decide +kernel)⟩
def lw_privs_2 : List (MethodName × Nat) := [(⟨"LastRower", "countPinchable", "()I"⟩, 14), (⟨"LastRower", "copyWherePinched", "(I)LLastRower$Moment;"⟩, 14), (⟨"LastRower", "agreesWithSeen", "(LLastRower$Moment;)Z"⟩, 14), (⟨"LastRower", "latestSeen", "()I"⟩, 14), (⟨"LastRower", "contradictsSeen", "(II)Z"⟩, 14), (⟨"LastRower", "waysOver", "(IIII)I"⟩, 14), (⟨"LastRowerModel", "advances", "()V"⟩, 27), (⟨"LastRowerModel", "letterAt", "(I)I"⟩, 27), (⟨"LastRowerModel", "isWell", "()Z"⟩, 27), (⟨"LastRowerModel", "takes", "(Z)I"⟩, 27), (⟨"LastRowerModel", "readsItem", "(I)V"⟩, 27), (⟨"LastRowerModel", "number", "(II)I"⟩, 27), (⟨"LastRowerModel", "isNewYard", "()Z"⟩, 27), (⟨"LastRowerModel", "settles", "()V"⟩, 27), (⟨"LastRowerModel", "isPassenger", "(I)Z"⟩, 27), (⟨"LastRowerModel", "flowAt", "(I)I"⟩, 27)]
theorem lw_r2 : ∀ q ∈ lw_privs_2, lw_okq q := List.forall_mem_cons.mpr ⟨lw_p16, List.forall_mem_cons.mpr ⟨lw_p17, List.forall_mem_cons.mpr ⟨lw_p18, List.forall_mem_cons.mpr ⟨lw_p19, List.forall_mem_cons.mpr ⟨lw_p20, List.forall_mem_cons.mpr ⟨lw_p21, List.forall_mem_cons.mpr ⟨lw_p22, List.forall_mem_cons.mpr ⟨lw_p23, List.forall_mem_cons.mpr ⟨lw_p24, List.forall_mem_cons.mpr ⟨lw_p25, List.forall_mem_cons.mpr ⟨lw_p26, List.forall_mem_cons.mpr ⟨lw_p27, List.forall_mem_cons.mpr ⟨lw_p28, List.forall_mem_cons.mpr ⟨lw_p29, List.forall_mem_cons.mpr ⟨lw_p30, List.forall_mem_cons.mpr ⟨lw_p31, fun _ h => absurd h List.not_mem_nil⟩⟩⟩⟩⟩⟩⟩⟩⟩⟩⟩⟩⟩⟩⟩⟩
theorem lw_p32 : lw_okq (⟨"LastRowerModel", "pullOf", "(I)I"⟩, 27) := ⟨⟨by decide +kernel, by decide +kernel⟩, List.mem_of_getElem? (i := 660) (by decide +kernel), List.mem_of_getElem? (i := 816) (by decide +kernel), List.mem_of_getElem? (i := 817) (by decide +kernel)⟩
theorem lw_p33 : lw_okq (⟨"LastRowerModel", "isOver", "([I)Z"⟩, 27) := ⟨⟨by decide +kernel, by decide +kernel⟩, List.mem_of_getElem? (i := 660) (by decide +kernel), List.mem_of_getElem? (i := 820) (by decide +kernel), List.mem_of_getElem? (i := 821) (by decide +kernel)⟩
theorem lw_p34 : lw_okq (⟨"LastRowerModel", "wordsOf", "([I)I"⟩, 27) := ⟨⟨by decide +kernel, by decide +kernel⟩, List.mem_of_getElem? (i := 660) (by decide +kernel), List.mem_of_getElem? (i := 824) (by decide +kernel), List.mem_of_getElem? (i := 825) (by decide +kernel)⟩
theorem lw_p35 : lw_okq (⟨"LastRowerModel", "notes", "()V"⟩, 27) := ⟨⟨by decide +kernel, by decide +kernel⟩, List.mem_of_getElem? (i := 660) (by decide +kernel), List.mem_of_getElem? (i := 832) (by decide +kernel), List.mem_of_getElem? (i := 833) (by decide +kernel)⟩
theorem lw_p36 : lw_okq (⟨"LastRowerModel", "goes", "([I)V"⟩, 27) := ⟨⟨by decide +kernel, by decide +kernel⟩, List.mem_of_getElem? (i := 660) (by decide +kernel), List.mem_of_getElem? (i := 836) (by decide +kernel), List.mem_of_getElem? (i := 837) (by decide +kernel)⟩
theorem lw_p37 : lw_okq (⟨"LastRowerModel", "hushes", "([I)V"⟩, 27) := ⟨⟨by decide +kernel, by decide +kernel⟩, List.mem_of_getElem? (i := 660) (by decide +kernel), List.mem_of_getElem? (i := 840) (by decide +kernel), List.mem_of_getElem? (i := 841) (by decide +kernel)⟩
theorem lw_p38 : lw_okq (⟨"LastRowerModel", "speak", "([II)V"⟩, 27) := ⟨⟨by decide +kernel, by decide +kernel⟩, List.mem_of_getElem? (i := 660) (by decide +kernel), List.mem_of_getElem? (i := 844) (by decide +kernel), List.mem_of_getElem? (i := 845) (by decide +kernel)⟩
theorem lw_p39 : lw_okq (⟨"LastRowerModel", "asNow", "()V"⟩, 27) := ⟨⟨by decide +kernel, by decide +kernel⟩, List.mem_of_getElem? (i := 660) (by decide +kernel), List.mem_of_getElem? (i := 868) (by decide +kernel), List.mem_of_getElem? (i := 869) (by decide +kernel)⟩
theorem lw_p40 : lw_okq (⟨"LastRowerModel", "endsBehind", "(I)I"⟩, 27) := ⟨⟨by decide +kernel, by decide +kernel⟩, List.mem_of_getElem? (i := 660) (by decide +kernel), List.mem_of_getElem? (i := 876) (by decide +kernel), List.mem_of_getElem? (i := 877) (by decide +kernel)⟩
theorem lw_p41 : lw_okq (⟨"LastRowerModel", "endsBy", "(II)I"⟩, 27) := ⟨⟨by decide +kernel, by decide +kernel⟩, List.mem_of_getElem? (i := 660) (by decide +kernel), List.mem_of_getElem? (i := 900) (by decide +kernel), List.mem_of_getElem? (i := 901) (by decide +kernel)⟩
theorem lw_p42 : lw_okq (⟨"LastRowerModel", "isAsSeen", "()Z"⟩, 27) := ⟨⟨by decide +kernel, by decide +kernel⟩, List.mem_of_getElem? (i := 660) (by decide +kernel), List.mem_of_getElem? (i := 924) (by decide +kernel), List.mem_of_getElem? (i := 925) (by decide +kernel)⟩
def lw_privs_3 : List (MethodName × Nat) := [(⟨"LastRowerModel", "pullOf", "(I)I"⟩, 27), (⟨"LastRowerModel", "isOver", "([I)Z"⟩, 27), (⟨"LastRowerModel", "wordsOf", "([I)I"⟩, 27), (⟨"LastRowerModel", "notes", "()V"⟩, 27), (⟨"LastRowerModel", "goes", "([I)V"⟩, 27), (⟨"LastRowerModel", "hushes", "([I)V"⟩, 27), (⟨"LastRowerModel", "speak", "([II)V"⟩, 27), (⟨"LastRowerModel", "asNow", "()V"⟩, 27), (⟨"LastRowerModel", "endsBehind", "(I)I"⟩, 27), (⟨"LastRowerModel", "endsBy", "(II)I"⟩, 27), (⟨"LastRowerModel", "isAsSeen", "()Z"⟩, 27)]
theorem lw_r3 : ∀ q ∈ lw_privs_3, lw_okq q := List.forall_mem_cons.mpr ⟨lw_p32, List.forall_mem_cons.mpr ⟨lw_p33, List.forall_mem_cons.mpr ⟨lw_p34, List.forall_mem_cons.mpr ⟨lw_p35, List.forall_mem_cons.mpr ⟨lw_p36, List.forall_mem_cons.mpr ⟨lw_p37, List.forall_mem_cons.mpr ⟨lw_p38, List.forall_mem_cons.mpr ⟨lw_p39, List.forall_mem_cons.mpr ⟨lw_p40, List.forall_mem_cons.mpr ⟨lw_p41, List.forall_mem_cons.mpr ⟨lw_p42, fun _ h => absurd h List.not_mem_nil⟩⟩⟩⟩⟩⟩⟩⟩⟩⟩⟩
def lw_privs : List (MethodName × Nat) := lw_privs_1 ++ (lw_privs_2 ++ (lw_privs_3))
def lw_tbl : List Cond := k2_sels lw_privs ++ tables_1
theorem lw_privs_ok : ∀ q ∈ lw_privs, lw_okq q := by
  show ∀ q ∈ lw_privs_1 ++ (lw_privs_2 ++ (lw_privs_3)), lw_okq q
  exact List.forall_mem_append.mpr ⟨lw_r1, List.forall_mem_append.mpr ⟨lw_r2, lw_r3⟩⟩
end
section
def RX0 : String := "LastRower$Child"
def TX0 : u_T := fun k => match k with
  | _ => ("", "", "", false)
def tyX0 : Nat → FieldType := fun k => match k with
  | _ => .int
abbrev wsX00 : List Cond := u_ws RX0 TX0 0
theorem nmX0 : ∀ a, a < 0 → ∀ b, b < 0 → a ≠ b → (TX0 a).2.1 ≠ (TX0 b).2.1 := by decide +kernel
theorem tyX0_ok : ∀ k, k < 0 → parseFieldDescriptor (TX0 k).2.2.1 = some (tyX0 k) := by decide +kernel
abbrev cX0_init : ByteArray := prog_2_method_1_code
def yX0_init : MethodName := ⟨RX0, "<init>", "()V"⟩
abbrev cX0_worth : ByteArray := prog_2_method_2_code
def yX0_worth : MethodName := ⟨RX0, "worth", "(LLastRower$Ferry;LLastRower$Moment;I[J)I"⟩
def RX1 : String := "LastRower$Dog"
def TX1 : u_T := fun k => match k with
  | _ => ("", "", "", false)
def tyX1 : Nat → FieldType := fun k => match k with
  | _ => .int
abbrev wsX10 : List Cond := u_ws RX1 TX1 0
theorem nmX1 : ∀ a, a < 0 → ∀ b, b < 0 → a ≠ b → (TX1 a).2.1 ≠ (TX1 b).2.1 := by decide +kernel
theorem tyX1_ok : ∀ k, k < 0 → parseFieldDescriptor (TX1 k).2.2.1 = some (tyX1 k) := by decide +kernel
abbrev cX1_init : ByteArray := prog_3_method_1_code
def yX1_init : MethodName := ⟨RX1, "<init>", "()V"⟩
abbrev cX1_worth : ByteArray := prog_3_method_2_code
def yX1_worth : MethodName := ⟨RX1, "worth", "(LLastRower$Ferry;LLastRower$Moment;I[J)I"⟩
def RX2 : String := "LastRower$Ferry"
def TX2 : u_T := fun k => match k with
  | 0 => ("LastRower$Ferry", "passengers", "I", false)
  | 1 => ("LastRower$Ferry", "strong", "[I", true)
  | 2 => ("LastRower$Ferry", "keeps", "[I", true)
  | 3 => ("LastRower$Ferry", "chorus", "[I", true)
  | 4 => ("LastRower$Ferry", "currents", "I", false)
  | 5 => ("LastRower$Ferry", "currentYards", "[I", true)
  | 6 => ("LastRower$Ferry", "currentFlows", "[I", true)
  | 7 => ("LastRower$Ferry", "wide", "I", false)
  | 8 => ("LastRower$Ferry", "wideTold", "Z", false)
  | 9 => ("LastRower$Ferry", "pulls", "[I", true)
  | _ => ("LastRower$Ferry", "flows", "[I", true)
def tyX2 : Nat → FieldType := fun k => match k with
  | 0 => .int
  | 1 => .array .int
  | 2 => .array .int
  | 3 => .array .int
  | 4 => .int
  | 5 => .array .int
  | 6 => .array .int
  | 7 => .int
  | 8 => .boolean
  | 9 => .array .int
  | _ => .array .int
abbrev wsX20 : List Cond := u_ws RX2 TX2 11
theorem nmX2 : ∀ a, a < 11 → ∀ b, b < 11 → a ≠ b → (TX2 a).2.1 ≠ (TX2 b).2.1 := by decide +kernel
theorem tyX2_ok : ∀ k, k < 11 → parseFieldDescriptor (TX2 k).2.2.1 = some (tyX2 k) := by decide +kernel
abbrev cX2_init : ByteArray := prog_4_method_1_code
def yX2_init : MethodName := ⟨RX2, "<init>", "()V"⟩
abbrev cX2_empty : ByteArray := prog_4_method_2_code
def yX2_empty : MethodName := ⟨RX2, "empty", "()V"⟩
abbrev cX2_addPassenger : ByteArray := prog_4_method_3_code
def yX2_addPassenger : MethodName := ⟨RX2, "addPassenger", "(III)V"⟩
abbrev cX2_addCurrent : ByteArray := prog_4_method_4_code
def yX2_addCurrent : MethodName := ⟨RX2, "addCurrent", "(II)V"⟩
abbrev cX2_hasCurrentFrom : ByteArray := prog_4_method_5_code
def yX2_hasCurrentFrom : MethodName := ⟨RX2, "hasCurrentFrom", "(I)Z"⟩
abbrev cX2_settle : ByteArray := prog_4_method_6_code
def yX2_settle : MethodName := ⟨RX2, "settle", "()V"⟩
abbrev cX2_findPull : ByteArray := prog_4_method_7_code
def yX2_findPull : MethodName := ⟨RX2, "findPull", "(I)I"⟩
abbrev cX2_findFlow : ByteArray := prog_4_method_8_code
def yX2_findFlow : MethodName := ⟨RX2, "findFlow", "(I)I"⟩
abbrev cX2_has : ByteArray := prog_4_method_9_code
def yX2_has : MethodName := ⟨RX2, "has", "(I)Z"⟩
abbrev cX2_everybody : ByteArray := prog_4_method_10_code
def yX2_everybody : MethodName := ⟨RX2, "everybody", "()I"⟩
abbrev cX2_singersOf : ByteArray := prog_4_method_11_code
def yX2_singersOf : MethodName := ⟨RX2, "singersOf", "(I)I"⟩
abbrev cX2_pullOf : ByteArray := prog_4_method_12_code
def yX2_pullOf : MethodName := ⟨RX2, "pullOf", "(I)I"⟩
abbrev cX2_flowAt : ByteArray := prog_4_method_13_code
def yX2_flowAt : MethodName := ⟨RX2, "flowAt", "(I)I"⟩
abbrev cX2_isOver : ByteArray := prog_4_method_14_code
def yX2_isOver : MethodName := ⟨RX2, "isOver", "(I)Z"⟩
def RX3 : String := "LastRower$Lover"
def TX3 : u_T := fun k => match k with
  | _ => ("", "", "", false)
def tyX3 : Nat → FieldType := fun k => match k with
  | _ => .int
abbrev wsX30 : List Cond := u_ws RX3 TX3 0
theorem nmX3 : ∀ a, a < 0 → ∀ b, b < 0 → a ≠ b → (TX3 a).2.1 ≠ (TX3 b).2.1 := by decide +kernel
theorem tyX3_ok : ∀ k, k < 0 → parseFieldDescriptor (TX3 k).2.2.1 = some (tyX3 k) := by decide +kernel
abbrev cX3_init : ByteArray := prog_5_method_1_code
def yX3_init : MethodName := ⟨RX3, "<init>", "()V"⟩
abbrev cX3_worth : ByteArray := prog_5_method_2_code
def yX3_worth : MethodName := ⟨RX3, "worth", "(LLastRower$Ferry;LLastRower$Moment;I[J)I"⟩
def RX4 : String := "LastRower$Moment"
def TX4 : u_T := fun k => match k with
  | 0 => ("LastRower$Moment", "beats", "I", false)
  | 1 => ("LastRower$Moment", "where", "I", false)
  | 2 => ("LastRower$Moment", "oars", "I", false)
  | 3 => ("LastRower$Moment", "silentSince", "[I", true)
  | 4 => ("LastRower$Moment", "wordsOf", "[I", true)
  | _ => ("LastRower$Moment", "nextDue", "I", false)
def tyX4 : Nat → FieldType := fun k => match k with
  | 0 => .int
  | 1 => .int
  | 2 => .int
  | 3 => .array .int
  | 4 => .array .int
  | _ => .int
abbrev wsX40 : List Cond := u_ws RX4 TX4 6
theorem nmX4 : ∀ a, a < 6 → ∀ b, b < 6 → a ≠ b → (TX4 a).2.1 ≠ (TX4 b).2.1 := by decide +kernel
theorem tyX4_ok : ∀ k, k < 6 → parseFieldDescriptor (TX4 k).2.2.1 = some (tyX4 k) := by decide +kernel
abbrev cX4_init : ByteArray := prog_6_method_1_code
def yX4_init : MethodName := ⟨RX4, "<init>", "()V"⟩
abbrev cX4_start : ByteArray := prog_6_method_2_code
def yX4_start : MethodName := ⟨RX4, "start", "(LLastRower$Ferry;)V"⟩
abbrev cX4_copyFrom : ByteArray := prog_6_method_3_code
def yX4_copyFrom : MethodName := ⟨RX4, "copyFrom", "(LLastRower$Moment;)V"⟩
abbrev cX4_speak : ByteArray := prog_6_method_4_code
def yX4_speak : MethodName := ⟨RX4, "speak", "(LLastRower$Ferry;I)V"⟩
abbrev cX4_row : ByteArray := prog_6_method_5_code
def yX4_row : MethodName := ⟨RX4, "row", "(LLastRower$Ferry;)V"⟩
abbrev cX4_passTime : ByteArray := prog_6_method_6_code
def yX4_passTime : MethodName := ⟨RX4, "passTime", "(LLastRower$Ferry;)V"⟩
abbrev cX4_rowTillOver : ByteArray := prog_6_method_7_code
def yX4_rowTillOver : MethodName := ⟨RX4, "rowTillOver", "(LLastRower$Ferry;I)I"⟩
abbrev cX4_findNextDue : ByteArray := prog_6_method_8_code
def yX4_findNextDue : MethodName := ⟨RX4, "findNextDue", "(LLastRower$Ferry;)I"⟩
abbrev cX4_whoIsDueAt : ByteArray := prog_6_method_9_code
def yX4_whoIsDueAt : MethodName := ⟨RX4, "whoIsDueAt", "(LLastRower$Ferry;I)I"⟩
abbrev cX4_silenceOf : ByteArray := prog_6_method_10_code
def yX4_silenceOf : MethodName := ⟨RX4, "silenceOf", "(I)I"⟩
abbrev cX4_allWords : ByteArray := prog_6_method_11_code
def yX4_allWords : MethodName := ⟨RX4, "allWords", "()I"⟩
abbrev cX4_soundsLike : ByteArray := prog_6_method_12_code
def yX4_soundsLike : MethodName := ⟨RX4, "soundsLike", "(LLastRower$Ferry;LLastRower$Moment;)Z"⟩
def RX5 : String := "LastRower$Nun"
def TX5 : u_T := fun k => match k with
  | _ => ("", "", "", false)
def tyX5 : Nat → FieldType := fun k => match k with
  | _ => .int
abbrev wsX50 : List Cond := u_ws RX5 TX5 0
theorem nmX5 : ∀ a, a < 0 → ∀ b, b < 0 → a ≠ b → (TX5 a).2.1 ≠ (TX5 b).2.1 := by decide +kernel
theorem tyX5_ok : ∀ k, k < 0 → parseFieldDescriptor (TX5 k).2.2.1 = some (tyX5 k) := by decide +kernel
abbrev cX5_init : ByteArray := prog_7_method_1_code
def yX5_init : MethodName := ⟨RX5, "<init>", "()V"⟩
abbrev cX5_worth : ByteArray := prog_7_method_2_code
def yX5_worth : MethodName := ⟨RX5, "worth", "(LLastRower$Ferry;LLastRower$Moment;I[J)I"⟩
def RX6 : String := "LastRower$Parrot"
def TX6 : u_T := fun k => match k with
  | _ => ("", "", "", false)
def tyX6 : Nat → FieldType := fun k => match k with
  | _ => .int
abbrev wsX60 : List Cond := u_ws RX6 TX6 0
theorem nmX6 : ∀ a, a < 0 → ∀ b, b < 0 → a ≠ b → (TX6 a).2.1 ≠ (TX6 b).2.1 := by decide +kernel
theorem tyX6_ok : ∀ k, k < 0 → parseFieldDescriptor (TX6 k).2.2.1 = some (tyX6 k) := by decide +kernel
abbrev cX6_init : ByteArray := prog_8_method_1_code
def yX6_init : MethodName := ⟨RX6, "<init>", "()V"⟩
abbrev cX6_worth : ByteArray := prog_8_method_2_code
def yX6_worth : MethodName := ⟨RX6, "worth", "(LLastRower$Ferry;LLastRower$Moment;I[J)I"⟩
def RX7 : String := "LastRower$Passenger"
def TX7 : u_T := fun k => match k with
  | _ => ("", "", "", false)
def tyX7 : Nat → FieldType := fun k => match k with
  | _ => .int
abbrev wsX70 : List Cond := u_ws RX7 TX7 0
theorem nmX7 : ∀ a, a < 0 → ∀ b, b < 0 → a ≠ b → (TX7 a).2.1 ≠ (TX7 b).2.1 := by decide +kernel
theorem tyX7_ok : ∀ k, k < 0 → parseFieldDescriptor (TX7 k).2.2.1 = some (tyX7 k) := by decide +kernel
abbrev cX7_init : ByteArray := prog_9_method_1_code
def yX7_init : MethodName := ⟨RX7, "<init>", "()V"⟩
abbrev cX7_worth : ByteArray := prog_9_method_2_code
def yX7_worth : MethodName := ⟨RX7, "worth", "(LLastRower$Ferry;LLastRower$Moment;I[J)I"⟩
def RX8 : String := "LastRower$Past"
def TX8 : u_T := fun k => match k with
  | 0 => ("LastRower$Past", "moments", "[LLastRower$Moment;", true)
  | 1 => ("LastRower$Past", "newest", "I", false)
  | _ => ("LastRower$Past", "size", "I", false)
def tyX8 : Nat → FieldType := fun k => match k with
  | 0 => .array (.object "LastRower$Moment")
  | 1 => .int
  | _ => .int
abbrev wsX80 : List Cond := u_ws RX8 TX8 3
theorem nmX8 : ∀ a, a < 3 → ∀ b, b < 3 → a ≠ b → (TX8 a).2.1 ≠ (TX8 b).2.1 := by decide +kernel
theorem tyX8_ok : ∀ k, k < 3 → parseFieldDescriptor (TX8 k).2.2.1 = some (tyX8 k) := by decide +kernel
abbrev cX8_init : ByteArray := prog_10_method_1_code
def yX8_init : MethodName := ⟨RX8, "<init>", "()V"⟩
abbrev cX8_lose : ByteArray := prog_10_method_2_code
def yX8_lose : MethodName := ⟨RX8, "lose", "()V"⟩
abbrev cX8_add : ByteArray := prog_10_method_3_code
def yX8_add : MethodName := ⟨RX8, "add", "(LLastRower$Moment;)V"⟩
abbrev cX8_restore : ByteArray := prog_10_method_4_code
def yX8_restore : MethodName := ⟨RX8, "restore", "(LLastRower$Moment;)Z"⟩
def RX9 : String := "LastRower$Planner"
def TX9 : u_T := fun k => match k with
  | 0 => ("LastRower$Planner", "lines", "[LLastRower$Moment;", true)
  | 1 => ("LastRower$Planner", "tried", "[I", true)
  | 2 => ("LastRower$Planner", "chosen", "[I", true)
  | 3 => ("LastRower$Planner", "planned", "I", false)
  | 4 => ("LastRower$Planner", "leastPull", "I", false)
  | _ => ("LastRower$Planner", "soonest", "I", false)
def tyX9 : Nat → FieldType := fun k => match k with
  | 0 => .array (.object "LastRower$Moment")
  | 1 => .array .int
  | 2 => .array .int
  | 3 => .int
  | 4 => .int
  | _ => .int
abbrev wsX90 : List Cond := u_ws RX9 TX9 6
theorem nmX9 : ∀ a, a < 6 → ∀ b, b < 6 → a ≠ b → (TX9 a).2.1 ≠ (TX9 b).2.1 := by decide +kernel
theorem tyX9_ok : ∀ k, k < 6 → parseFieldDescriptor (TX9 k).2.2.1 = some (tyX9 k) := by decide +kernel
abbrev cX9_init : ByteArray := prog_11_method_1_code
def yX9_init : MethodName := ⟨RX9, "<init>", "()V"⟩
abbrev cX9_search : ByteArray := prog_11_method_2_code
def yX9_search : MethodName := ⟨RX9, "search", "(LLastRower$Ferry;LLastRower$Moment;II)V"⟩
abbrev cX9_tryAll : ByteArray := prog_11_method_3_code
def yX9_tryAll : MethodName := ⟨RX9, "tryAll", "(LLastRower$Ferry;I)V"⟩
abbrev cX9_weigh : ByteArray := prog_11_method_4_code
def yX9_weigh : MethodName := ⟨RX9, "weigh", "(LLastRower$Ferry;I)V"⟩
def RX10 : String := "LastRower$Reader"
def TX10 : u_T := fun k => match k with
  | 0 => ("LastRower$Reader", "letters", "[I", true)
  | 1 => ("LastRower$Reader", "length", "I", false)
  | 2 => ("LastRower$Reader", "place", "I", false)
  | 3 => ("LastRower$Reader", "token", "I", false)
  | 4 => ("LastRower$Reader", "start", "I", false)
  | _ => ("LastRower$Reader", "number", "I", false)
def tyX10 : Nat → FieldType := fun k => match k with
  | 0 => .array .int
  | 1 => .int
  | 2 => .int
  | 3 => .int
  | 4 => .int
  | _ => .int
abbrev wsX100 : List Cond := u_ws RX10 TX10 6
theorem nmX10 : ∀ a, a < 6 → ∀ b, b < 6 → a ≠ b → (TX10 a).2.1 ≠ (TX10 b).2.1 := by decide +kernel
theorem tyX10_ok : ∀ k, k < 6 → parseFieldDescriptor (TX10 k).2.2.1 = some (tyX10 k) := by decide +kernel
abbrev cX10_init : ByteArray := prog_12_method_1_code
def yX10_init : MethodName := ⟨RX10, "<init>", "()V"⟩
abbrev cX10_append : ByteArray := prog_12_method_2_code
def yX10_append : MethodName := ⟨RX10, "append", "(I)Z"⟩
abbrev cX10_readInto : ByteArray := prog_12_method_3_code
def yX10_readInto : MethodName := ⟨RX10, "readInto", "(LLastRower$Ferry;)I"⟩
abbrev cX10_readItem : ByteArray := prog_12_method_4_code
def yX10_readItem : MethodName := ⟨RX10, "readItem", "(LLastRower$Ferry;)Z"⟩
abbrev cX10_readPassenger : ByteArray := prog_12_method_5_code
def yX10_readPassenger : MethodName := ⟨RX10, "readPassenger", "(LLastRower$Ferry;)Z"⟩
abbrev cX10_readCurrent : ByteArray := prog_12_method_6_code
def yX10_readCurrent : MethodName := ⟨RX10, "readCurrent", "(LLastRower$Ferry;)Z"⟩
abbrev cX10_readWide : ByteArray := prog_12_method_7_code
def yX10_readWide : MethodName := ⟨RX10, "readWide", "(LLastRower$Ferry;)Z"⟩
abbrev cX10_readSemicolon : ByteArray := prog_12_method_8_code
def yX10_readSemicolon : MethodName := ⟨RX10, "readSemicolon", "()Z"⟩
abbrev cX10_readNumber : ByteArray := prog_12_method_9_code
def yX10_readNumber : MethodName := ⟨RX10, "readNumber", "(II)Z"⟩
abbrev cX10_readToken : ByteArray := prog_12_method_10_code
def yX10_readToken : MethodName := ⟨RX10, "readToken", "()V"⟩
abbrev cX10_readDigits : ByteArray := prog_12_method_11_code
def yX10_readDigits : MethodName := ⟨RX10, "readDigits", "()V"⟩
abbrev cX10_isDigit : ByteArray := prog_12_method_12_code
def yX10_isDigit : MethodName := ⟨RX10, "isDigit", "(I)Z"⟩
def RX11 : String := "LastRower"
def TX11 : u_T := fun k => match k with
  | 0 => ("LastRower", "text", "LLastRower$Reader;", true)
  | 1 => ("LastRower", "told", "LLastRower$Ferry;", false)
  | 2 => ("LastRower", "spare", "LLastRower$Ferry;", false)
  | 3 => ("LastRower", "present", "LLastRower$Moment;", true)
  | 4 => ("LastRower", "past", "LLastRower$Past;", true)
  | 5 => ("LastRower", "images", "[LLastRower$Moment;", true)
  | 6 => ("LastRower", "keptImages", "I", false)
  | 7 => ("LastRower", "seenBeats", "[I", true)
  | 8 => ("LastRower", "seenOars", "[I", true)
  | 9 => ("LastRower", "seenSize", "I", false)
  | 10 => ("LastRower", "lines", "[LLastRower$Moment;", true)
  | 11 => ("LastRower", "planner", "LLastRower$Planner;", true)
  | 12 => ("LastRower", "kinds", "[LLastRower$Passenger;", true)
  | _ => ("LastRower", "tally", "[J", true)
def tyX11 : Nat → FieldType := fun k => match k with
  | 0 => .object "LastRower$Reader"
  | 1 => .object "LastRower$Ferry"
  | 2 => .object "LastRower$Ferry"
  | 3 => .object "LastRower$Moment"
  | 4 => .object "LastRower$Past"
  | 5 => .array (.object "LastRower$Moment")
  | 6 => .int
  | 7 => .array .int
  | 8 => .array .int
  | 9 => .int
  | 10 => .array (.object "LastRower$Moment")
  | 11 => .object "LastRower$Planner"
  | 12 => .array (.object "LastRower$Passenger")
  | _ => .array .long
abbrev wsX110 : List Cond := u_ws RX11 TX11 14
theorem nmX11 : ∀ a, a < 14 → ∀ b, b < 14 → a ≠ b → (TX11 a).2.1 ≠ (TX11 b).2.1 := by decide +kernel
theorem tyX11_ok : ∀ k, k < 14 → parseFieldDescriptor (TX11 k).2.2.1 = some (tyX11 k) := by decide +kernel
abbrev cX11_init : ByteArray := prog_1_method_1_code
def yX11_init : MethodName := ⟨RX11, "<init>", "()V"⟩
abbrev cX11_type : ByteArray := prog_1_method_2_code
def yX11_type : MethodName := ⟨RX11, "type", "(I)I"⟩
abbrev cX11_clear : ByteArray := prog_1_method_3_code
def yX11_clear : MethodName := ⟨RX11, "clear", "()I"⟩
abbrev cX11_ferry : ByteArray := prog_1_method_4_code
def yX11_ferry : MethodName := ⟨RX11, "ferry", "()I"⟩
abbrev cX11_passenger : ByteArray := prog_1_method_5_code
def yX11_passenger : MethodName := ⟨RX11, "passenger", "(II)I"⟩
abbrev cX11_current : ByteArray := prog_1_method_6_code
def yX11_current : MethodName := ⟨RX11, "current", "(I)I"⟩
abbrev cX11_now : ByteArray := prog_1_method_7_code
def yX11_now : MethodName := ⟨RX11, "now", "(I)I"⟩
abbrev cX11_beat : ByteArray := prog_1_method_8_code
def yX11_beat : MethodName := ⟨RX11, "beat", "()I"⟩
abbrev cX11_pinches : ByteArray := prog_1_method_9_code
def yX11_pinches : MethodName := ⟨RX11, "pinches", "(I)I"⟩
abbrev cX11_quarrels : ByteArray := prog_1_method_10_code
def yX11_quarrels : MethodName := ⟨RX11, "quarrels", "(II)I"⟩
abbrev cX11_sings : ByteArray := prog_1_method_11_code
def yX11_sings : MethodName := ⟨RX11, "sings", "(I)I"⟩
abbrev cX11_undo : ByteArray := prog_1_method_12_code
def yX11_undo : MethodName := ⟨RX11, "undo", "()I"⟩
abbrev cX11_isOver : ByteArray := prog_1_method_13_code
def yX11_isOver : MethodName := ⟨RX11, "isOver", "()Z"⟩
abbrev cX11_utter : ByteArray := prog_1_method_14_code
def yX11_utter : MethodName := ⟨RX11, "utter", "(I)V"⟩
abbrev cX11_inBeats : ByteArray := prog_1_method_15_code
def yX11_inBeats : MethodName := ⟨RX11, "inBeats", "(II)I"⟩
abbrev cX11_ends : ByteArray := prog_1_method_16_code
def yX11_ends : MethodName := ⟨RX11, "ends", "()I"⟩
abbrev cX11_last : ByteArray := prog_1_method_17_code
def yX11_last : MethodName := ⟨RX11, "last", "()I"⟩
abbrev cX11_first : ByteArray := prog_1_method_18_code
def yX11_first : MethodName := ⟨RX11, "first", "(I)I"⟩
abbrev cX11_ring : ByteArray := prog_1_method_19_code
def yX11_ring : MethodName := ⟨RX11, "ring", "()I"⟩
abbrev cX11_drift : ByteArray := prog_1_method_20_code
def yX11_drift : MethodName := ⟨RX11, "drift", "()I"⟩
abbrev cX11_copyOfNow : ByteArray := prog_1_method_21_code
def yX11_copyOfNow : MethodName := ⟨RX11, "copyOfNow", "()LLastRower$Moment;"⟩
abbrev cX11_countPinchable : ByteArray := prog_1_method_22_code
def yX11_countPinchable : MethodName := ⟨RX11, "countPinchable", "()I"⟩
abbrev cX11_copyWherePinched : ByteArray := prog_1_method_23_code
def yX11_copyWherePinched : MethodName := ⟨RX11, "copyWherePinched", "(I)LLastRower$Moment;"⟩
abbrev cX11_plan : ByteArray := prog_1_method_24_code
def yX11_plan : MethodName := ⟨RX11, "plan", "(III)I"⟩
abbrev cX11_best : ByteArray := prog_1_method_25_code
def yX11_best : MethodName := ⟨RX11, "best", "()I"⟩
abbrev cX11_mute : ByteArray := prog_1_method_26_code
def yX11_mute : MethodName := ⟨RX11, "mute", "(I)I"⟩
abbrev cX11_seen : ByteArray := prog_1_method_27_code
def yX11_seen : MethodName := ⟨RX11, "seen", "(II)I"⟩
abbrev cX11_forget : ByteArray := prog_1_method_28_code
def yX11_forget : MethodName := ⟨RX11, "forget", "()I"⟩
abbrev cX11_who : ByteArray := prog_1_method_29_code
def yX11_who : MethodName := ⟨RX11, "who", "()I"⟩
abbrev cX11_odds : ByteArray := prog_1_method_30_code
def yX11_odds : MethodName := ⟨RX11, "odds", "(IIII)I"⟩
abbrev cX11_agreesWithSeen : ByteArray := prog_1_method_31_code
def yX11_agreesWithSeen : MethodName := ⟨RX11, "agreesWithSeen", "(LLastRower$Moment;)Z"⟩
abbrev cX11_latestSeen : ByteArray := prog_1_method_32_code
def yX11_latestSeen : MethodName := ⟨RX11, "latestSeen", "()I"⟩
abbrev cX11_contradictsSeen : ByteArray := prog_1_method_33_code
def yX11_contradictsSeen : MethodName := ⟨RX11, "contradictsSeen", "(II)Z"⟩
abbrev cX11_waysOver : ByteArray := prog_1_method_34_code
def yX11_waysOver : MethodName := ⟨RX11, "waysOver", "(IIII)I"⟩
abbrev cX11_powerOfTen : ByteArray := prog_1_method_35_code
def yX11_powerOfTen : MethodName := ⟨RX11, "powerOfTen", "(I)I"⟩
abbrev cX11_greatestShared : ByteArray := prog_1_method_36_code
def yX11_greatestShared : MethodName := ⟨RX11, "greatestShared", "(II)I"⟩
abbrev cX11_rate : ByteArray := prog_1_method_37_code
def yX11_rate : MethodName := ⟨RX11, "rate", "(II)I"⟩
abbrev cX11_keep : ByteArray := prog_1_method_38_code
def yX11_keep : MethodName := ⟨RX11, "keep", "(I)I"⟩
abbrev cX11_back : ByteArray := prog_1_method_39_code
def yX11_back : MethodName := ⟨RX11, "back", "(I)I"⟩
abbrev cX11_count : ByteArray := prog_1_method_40_code
def yX11_count : MethodName := ⟨RX11, "count", "(I)I"⟩
abbrev cX11_trace : ByteArray := prog_1_method_41_code
def yX11_trace : MethodName := ⟨RX11, "trace", "()J"⟩
def RX12 : String := "LastRowerModel"
def TX12 : u_T := fun k => match k with
  | 0 => ("LastRowerModel", "thrown", "I", false)
  | 1 => ("LastRowerModel", "trace", "J", false)
  | 2 => ("LastRowerModel", "text", "[I", true)
  | 3 => ("LastRowerModel", "typed", "I", false)
  | 4 => ("LastRowerModel", "next", "I", false)
  | 5 => ("LastRowerModel", "token", "I", false)
  | 6 => ("LastRowerModel", "place", "I", false)
  | 7 => ("LastRowerModel", "value", "I", false)
  | 8 => ("LastRowerModel", "fault", "I", false)
  | 9 => ("LastRowerModel", "many", "[I", true)
  | 10 => ("LastRowerModel", "strong", "[I", true)
  | 11 => ("LastRowerModel", "keeps", "[I", true)
  | 12 => ("LastRowerModel", "chorus", "[I", true)
  | 13 => ("LastRowerModel", "yard", "[I", true)
  | 14 => ("LastRowerModel", "flow", "[I", true)
  | 15 => ("LastRowerModel", "isWideTold", "Z", false)
  | 16 => ("LastRowerModel", "s", "[I", true)
  | 17 => ("LastRowerModel", "w", "[I", true)
  | 18 => ("LastRowerModel", "kept", "[I", true)
  | 19 => ("LastRowerModel", "isKept", "[Z", true)
  | 20 => ("LastRowerModel", "undos", "[I", true)
  | 21 => ("LastRowerModel", "undoMany", "I", false)
  | 22 => ("LastRowerModel", "seenIn", "[I", true)
  | 23 => ("LastRowerModel", "seenOars", "[I", true)
  | 24 => ("LastRowerModel", "seenMany", "I", false)
  | 25 => ("LastRowerModel", "pinched", "[I", true)
  | _ => ("LastRowerModel", "best", "[I", true)
def tyX12 : Nat → FieldType := fun k => match k with
  | 0 => .int
  | 1 => .long
  | 2 => .array .int
  | 3 => .int
  | 4 => .int
  | 5 => .int
  | 6 => .int
  | 7 => .int
  | 8 => .int
  | 9 => .array .int
  | 10 => .array .int
  | 11 => .array .int
  | 12 => .array .int
  | 13 => .array .int
  | 14 => .array .int
  | 15 => .boolean
  | 16 => .array .int
  | 17 => .array .int
  | 18 => .array .int
  | 19 => .array .boolean
  | 20 => .array .int
  | 21 => .int
  | 22 => .array .int
  | 23 => .array .int
  | 24 => .int
  | 25 => .array .int
  | _ => .array .int
abbrev wsX120 : List Cond := u_ws RX12 TX12 27
theorem nmX12 : ∀ a, a < 27 → ∀ b, b < 27 → a ≠ b → (TX12 a).2.1 ≠ (TX12 b).2.1 := by decide +kernel
theorem tyX12_ok : ∀ k, k < 27 → parseFieldDescriptor (TX12 k).2.2.1 = some (tyX12 k) := by decide +kernel
abbrev cX12_init : ByteArray := prog_14_method_1_code
def yX12_init : MethodName := ⟨RX12, "<init>", "()V"⟩
abbrev cX12_in : ByteArray := prog_14_method_3_code
def yX12_in : MethodName := ⟨RX12, "in", "(III)Z"⟩
abbrev cX12_type : ByteArray := prog_14_method_4_code
def yX12_type : MethodName := ⟨RX12, "type", "(I)I"⟩
abbrev cX12_clear : ByteArray := prog_14_method_5_code
def yX12_clear : MethodName := ⟨RX12, "clear", "()I"⟩
abbrev cX12_letterAt : ByteArray := prog_14_method_6_code
def yX12_letterAt : MethodName := ⟨RX12, "letterAt", "(I)I"⟩
abbrev cX12_advances : ByteArray := prog_14_method_7_code
def yX12_advances : MethodName := ⟨RX12, "advances", "()V"⟩
abbrev cX12_isWell : ByteArray := prog_14_method_8_code
def yX12_isWell : MethodName := ⟨RX12, "isWell", "()Z"⟩
abbrev cX12_takes : ByteArray := prog_14_method_9_code
def yX12_takes : MethodName := ⟨RX12, "takes", "(Z)I"⟩
abbrev cX12_number : ByteArray := prog_14_method_10_code
def yX12_number : MethodName := ⟨RX12, "number", "(II)I"⟩
abbrev cX12_isNewYard : ByteArray := prog_14_method_11_code
def yX12_isNewYard : MethodName := ⟨RX12, "isNewYard", "()Z"⟩
abbrev cX12_readsItem : ByteArray := prog_14_method_12_code
def yX12_readsItem : MethodName := ⟨RX12, "readsItem", "(I)V"⟩
abbrev cX12_ferry : ByteArray := prog_14_method_13_code
def yX12_ferry : MethodName := ⟨RX12, "ferry", "()I"⟩
abbrev cX12_settles : ByteArray := prog_14_method_14_code
def yX12_settles : MethodName := ⟨RX12, "settles", "()V"⟩
abbrev cX12_isPassenger : ByteArray := prog_14_method_15_code
def yX12_isPassenger : MethodName := ⟨RX12, "isPassenger", "(I)Z"⟩
abbrev cX12_passenger : ByteArray := prog_14_method_16_code
def yX12_passenger : MethodName := ⟨RX12, "passenger", "(II)I"⟩
abbrev cX12_flowAt : ByteArray := prog_14_method_17_code
def yX12_flowAt : MethodName := ⟨RX12, "flowAt", "(I)I"⟩
abbrev cX12_current : ByteArray := prog_14_method_18_code
def yX12_current : MethodName := ⟨RX12, "current", "(I)I"⟩
abbrev cX12_pullOf : ByteArray := prog_14_method_19_code
def yX12_pullOf : MethodName := ⟨RX12, "pullOf", "(I)I"⟩
abbrev cX12_isOver : ByteArray := prog_14_method_20_code
def yX12_isOver : MethodName := ⟨RX12, "isOver", "([I)Z"⟩
abbrev cX12_wordsOf : ByteArray := prog_14_method_21_code
def yX12_wordsOf : MethodName := ⟨RX12, "wordsOf", "([I)I"⟩
abbrev cX12_now : ByteArray := prog_14_method_22_code
def yX12_now : MethodName := ⟨RX12, "now", "(I)I"⟩
abbrev cX12_notes : ByteArray := prog_14_method_23_code
def yX12_notes : MethodName := ⟨RX12, "notes", "()V"⟩
abbrev cX12_speak : ByteArray := prog_14_method_24_code
def yX12_speak : MethodName := ⟨RX12, "speak", "([II)V"⟩
abbrev cX12_hushes : ByteArray := prog_14_method_25_code
def yX12_hushes : MethodName := ⟨RX12, "hushes", "([I)V"⟩
abbrev cX12_goes : ByteArray := prog_14_method_26_code
def yX12_goes : MethodName := ⟨RX12, "goes", "([I)V"⟩
abbrev cX12_beat : ByteArray := prog_14_method_27_code
def yX12_beat : MethodName := ⟨RX12, "beat", "()I"⟩
abbrev cX12_pinches : ByteArray := prog_14_method_28_code
def yX12_pinches : MethodName := ⟨RX12, "pinches", "(I)I"⟩
abbrev cX12_quarrels : ByteArray := prog_14_method_29_code
def yX12_quarrels : MethodName := ⟨RX12, "quarrels", "(II)I"⟩
abbrev cX12_sings : ByteArray := prog_14_method_30_code
def yX12_sings : MethodName := ⟨RX12, "sings", "(I)I"⟩
abbrev cX12_undo : ByteArray := prog_14_method_31_code
def yX12_undo : MethodName := ⟨RX12, "undo", "()I"⟩
abbrev cX12_asNow : ByteArray := prog_14_method_32_code
def yX12_asNow : MethodName := ⟨RX12, "asNow", "()V"⟩
abbrev cX12_inBeats : ByteArray := prog_14_method_33_code
def yX12_inBeats : MethodName := ⟨RX12, "inBeats", "(II)I"⟩
abbrev cX12_endsBehind : ByteArray := prog_14_method_34_code
def yX12_endsBehind : MethodName := ⟨RX12, "endsBehind", "(I)I"⟩
abbrev cX12_ends : ByteArray := prog_14_method_35_code
def yX12_ends : MethodName := ⟨RX12, "ends", "()I"⟩
abbrev cX12_last : ByteArray := prog_14_method_36_code
def yX12_last : MethodName := ⟨RX12, "last", "()I"⟩
abbrev cX12_first : ByteArray := prog_14_method_37_code
def yX12_first : MethodName := ⟨RX12, "first", "(I)I"⟩
abbrev cX12_ring : ByteArray := prog_14_method_38_code
def yX12_ring : MethodName := ⟨RX12, "ring", "()I"⟩
abbrev cX12_drift : ByteArray := prog_14_method_39_code
def yX12_drift : MethodName := ⟨RX12, "drift", "()I"⟩
abbrev cX12_endsBy : ByteArray := prog_14_method_40_code
def yX12_endsBy : MethodName := ⟨RX12, "endsBy", "(II)I"⟩
abbrev cX12_plan : ByteArray := prog_14_method_41_code
def yX12_plan : MethodName := ⟨RX12, "plan", "(III)I"⟩
abbrev cX12_best : ByteArray := prog_14_method_42_code
def yX12_best : MethodName := ⟨RX12, "best", "()I"⟩
abbrev cX12_mute : ByteArray := prog_14_method_43_code
def yX12_mute : MethodName := ⟨RX12, "mute", "(I)I"⟩
abbrev cX12_seen : ByteArray := prog_14_method_44_code
def yX12_seen : MethodName := ⟨RX12, "seen", "(II)I"⟩
abbrev cX12_forget : ByteArray := prog_14_method_45_code
def yX12_forget : MethodName := ⟨RX12, "forget", "()I"⟩
abbrev cX12_isAsSeen : ByteArray := prog_14_method_46_code
def yX12_isAsSeen : MethodName := ⟨RX12, "isAsSeen", "()Z"⟩
abbrev cX12_who : ByteArray := prog_14_method_47_code
def yX12_who : MethodName := ⟨RX12, "who", "()I"⟩
abbrev cX12_power : ByteArray := prog_14_method_48_code
def yX12_power : MethodName := ⟨RX12, "power", "(II)I"⟩
abbrev cX12_gcd : ByteArray := prog_14_method_49_code
def yX12_gcd : MethodName := ⟨RX12, "gcd", "(II)I"⟩
abbrev cX12_odds : ByteArray := prog_14_method_50_code
def yX12_odds : MethodName := ⟨RX12, "odds", "(IIII)I"⟩
abbrev cX12_rate : ByteArray := prog_14_method_51_code
def yX12_rate : MethodName := ⟨RX12, "rate", "(II)I"⟩
abbrev cX12_keep : ByteArray := prog_14_method_52_code
def yX12_keep : MethodName := ⟨RX12, "keep", "(I)I"⟩
abbrev cX12_back : ByteArray := prog_14_method_53_code
def yX12_back : MethodName := ⟨RX12, "back", "(I)I"⟩
abbrev cX12_count : ByteArray := prog_14_method_54_code
def yX12_count : MethodName := ⟨RX12, "count", "(I)I"⟩
abbrev cX12_trace : ByteArray := prog_14_method_55_code
def yX12_trace : MethodName := ⟨RX12, "trace", "()J"⟩
def RJ9 : String := "java/lang/Math"
def TJ9 : u_T := fun k => match k with
  | _ => ("", "", "", false)
def tyJ9 : Nat → FieldType := fun k => match k with
  | _ => .int
theorem nmJ9 : ∀ a, a < 0 → ∀ b, b < 0 → a ≠ b → (TJ9 a).2.1 ≠ (TJ9 b).2.1 := by decide +kernel
theorem tyJ9_ok : ∀ k, k < 0 → parseFieldDescriptor (TJ9 k).2.2.1 = some (tyJ9 k) := by decide +kernel
abbrev cJ9_max_7cf53 : ByteArray := prog_15_method_65_code
def yJ9_max_7cf53 : MethodName := ⟨RJ9, "max", "(II)I"⟩
abbrev cJ9_min_7cf53 : ByteArray := prog_15_method_69_code
def yJ9_min_7cf53 : MethodName := ⟨RJ9, "min", "(II)I"⟩
def RJ7 : String := "java/util/Arrays"
def TJ7 : u_T := fun k => match k with
  | _ => ("", "", "", false)
def tyJ7 : Nat → FieldType := fun k => match k with
  | _ => .int
theorem nmJ7 : ∀ a, a < 0 → ∀ b, b < 0 → a ≠ b → (TJ7 a).2.1 ≠ (TJ7 b).2.1 := by decide +kernel
theorem tyJ7_ok : ∀ k, k < 0 → parseFieldDescriptor (TJ7 k).2.2.1 = some (tyJ7 k) := by decide +kernel
abbrev cJ7_fill_53178 : ByteArray := prog_16_method_103_code
def yJ7_fill_53178 : MethodName := ⟨RJ7, "fill", "([II)V"⟩
def RL : String := "LastRowerLaw"
abbrev cL_law : ByteArray := code
def yL_law : MethodName := ⟨RL, "law", "([I)Z"⟩
abbrev vwCl : List vw_C := [(RX0, TX0, 0), (RX1, TX1, 0), (RX2, TX2, 11), (RX3, TX3, 0), (RX4, TX4, 6), (RX5, TX5, 0), (RX6, TX6, 0), (RX7, TX7, 0), (RX8, TX8, 3), (RX9, TX9, 6), (RX10, TX10, 6), (RX11, TX11, 14), (RX12, TX12, 27)]
end
section
theorem dX0_init_0 : decode cX0_init 0 = .ok (.aload_n 0, 1) := by decide +kernel
theorem dX0_init_1 : decode cX0_init 1 = .ok (.invokespecial 1, 3) := by decide +kernel
theorem dX0_init_4 : decode cX0_init 4 = .ok (.return_, 1) := by decide +kernel
theorem dX0_worth_0 : decode cX0_worth 0 = .ok (.aload 4, 2) := by decide +kernel
theorem dX0_worth_2 : decode cX0_worth 2 = .ok (.iconst 0, 1) := by decide +kernel
theorem dX0_worth_3 : decode cX0_worth 3 = .ok (.dup2, 1) := by decide +kernel
theorem dX0_worth_4 : decode cX0_worth 4 = .ok (.laload, 1) := by decide +kernel
theorem dX0_worth_5 : decode cX0_worth 5 = .ok (.ldc2_w 7, 3) := by decide +kernel
theorem dX0_worth_8 : decode cX0_worth 8 = .ok (.ladd, 1) := by decide +kernel
theorem dX0_worth_9 : decode cX0_worth 9 = .ok (.lastore, 1) := by decide +kernel
theorem dX0_worth_10 : decode cX0_worth 10 = .ok (.aload_n 0, 1) := by decide +kernel
theorem dX0_worth_11 : decode cX0_worth 11 = .ok (.aload_n 1, 1) := by decide +kernel
theorem dX0_worth_12 : decode cX0_worth 12 = .ok (.aload_n 2, 1) := by decide +kernel
theorem dX0_worth_13 : decode cX0_worth 13 = .ok (.iload_n 3, 1) := by decide +kernel
theorem dX0_worth_14 : decode cX0_worth 14 = .ok (.aload 4, 2) := by decide +kernel
theorem dX0_worth_16 : decode cX0_worth 16 = .ok (.invokespecial 9, 3) := by decide +kernel
theorem dX0_worth_19 : decode cX0_worth 19 = .ok (.aload_n 2, 1) := by decide +kernel
theorem dX0_worth_20 : decode cX0_worth 20 = .ok (.getfield 13, 3) := by decide +kernel
theorem dX0_worth_23 : decode cX0_worth 23 = .ok (.iload_n 3, 1) := by decide +kernel
theorem dX0_worth_24 : decode cX0_worth 24 = .ok (.iaload, 1) := by decide +kernel
theorem dX0_worth_25 : decode cX0_worth 25 = .ok (.iadd, 1) := by decide +kernel
theorem dX0_worth_26 : decode cX0_worth 26 = .ok (.ireturn, 1) := by decide +kernel
theorem dX1_init_0 : decode cX1_init 0 = .ok (.aload_n 0, 1) := by decide +kernel
theorem dX1_init_1 : decode cX1_init 1 = .ok (.invokespecial 1, 3) := by decide +kernel
theorem dX1_init_4 : decode cX1_init 4 = .ok (.return_, 1) := by decide +kernel
theorem dX1_worth_0 : decode cX1_worth 0 = .ok (.aload 4, 2) := by decide +kernel
theorem dX1_worth_2 : decode cX1_worth 2 = .ok (.iconst 0, 1) := by decide +kernel
theorem dX1_worth_3 : decode cX1_worth 3 = .ok (.dup2, 1) := by decide +kernel
theorem dX1_worth_4 : decode cX1_worth 4 = .ok (.laload, 1) := by decide +kernel
theorem dX1_worth_5 : decode cX1_worth 5 = .ok (.ldc2_w 7, 3) := by decide +kernel
theorem dX1_worth_8 : decode cX1_worth 8 = .ok (.ladd, 1) := by decide +kernel
theorem dX1_worth_9 : decode cX1_worth 9 = .ok (.lastore, 1) := by decide +kernel
theorem dX1_worth_10 : decode cX1_worth 10 = .ok (.aload_n 0, 1) := by decide +kernel
theorem dX1_worth_11 : decode cX1_worth 11 = .ok (.aload_n 1, 1) := by decide +kernel
theorem dX1_worth_12 : decode cX1_worth 12 = .ok (.aload_n 2, 1) := by decide +kernel
theorem dX1_worth_13 : decode cX1_worth 13 = .ok (.iload_n 3, 1) := by decide +kernel
theorem dX1_worth_14 : decode cX1_worth 14 = .ok (.aload 4, 2) := by decide +kernel
theorem dX1_worth_16 : decode cX1_worth 16 = .ok (.invokespecial 9, 3) := by decide +kernel
theorem dX1_worth_19 : decode cX1_worth 19 = .ok (.aload_n 1, 1) := by decide +kernel
theorem dX1_worth_20 : decode cX1_worth 20 = .ok (.getfield 13, 3) := by decide +kernel
theorem dX1_worth_23 : decode cX1_worth 23 = .ok (.iload_n 3, 1) := by decide +kernel
theorem dX1_worth_24 : decode cX1_worth 24 = .ok (.iaload, 1) := by decide +kernel
theorem dX1_worth_25 : decode cX1_worth 25 = .ok (.isub, 1) := by decide +kernel
theorem dX1_worth_26 : decode cX1_worth 26 = .ok (.ireturn, 1) := by decide +kernel
theorem dX2_init_0 : decode cX2_init 0 = .ok (.aload_n 0, 1) := by decide +kernel
theorem dX2_init_1 : decode cX2_init 1 = .ok (.invokespecial 3, 3) := by decide +kernel
theorem dX2_init_4 : decode cX2_init 4 = .ok (.aload_n 0, 1) := by decide +kernel
theorem dX2_init_5 : decode cX2_init 5 = .ok (.bipush 6, 2) := by decide +kernel
theorem dX2_init_7 : decode cX2_init 7 = .ok (.newarray .int, 2) := by decide +kernel
theorem dX2_init_9 : decode cX2_init 9 = .ok (.putfield 9, 3) := by decide +kernel
theorem dX2_init_12 : decode cX2_init 12 = .ok (.aload_n 0, 1) := by decide +kernel
theorem dX2_init_13 : decode cX2_init 13 = .ok (.bipush 6, 2) := by decide +kernel
theorem dX2_init_15 : decode cX2_init 15 = .ok (.newarray .int, 2) := by decide +kernel
theorem dX2_init_17 : decode cX2_init 17 = .ok (.putfield 15, 3) := by decide +kernel
theorem dX2_init_20 : decode cX2_init 20 = .ok (.aload_n 0, 1) := by decide +kernel
theorem dX2_init_21 : decode cX2_init 21 = .ok (.bipush 6, 2) := by decide +kernel
theorem dX2_init_23 : decode cX2_init 23 = .ok (.newarray .int, 2) := by decide +kernel
theorem dX2_init_25 : decode cX2_init 25 = .ok (.putfield 18, 3) := by decide +kernel
theorem dX2_init_28 : decode cX2_init 28 = .ok (.aload_n 0, 1) := by decide +kernel
theorem dX2_init_29 : decode cX2_init 29 = .ok (.iconst 4, 1) := by decide +kernel
theorem dX2_init_30 : decode cX2_init 30 = .ok (.newarray .int, 2) := by decide +kernel
theorem dX2_init_32 : decode cX2_init 32 = .ok (.putfield 21, 3) := by decide +kernel
theorem dX2_init_35 : decode cX2_init 35 = .ok (.aload_n 0, 1) := by decide +kernel
theorem dX2_init_36 : decode cX2_init 36 = .ok (.iconst 4, 1) := by decide +kernel
theorem dX2_init_37 : decode cX2_init 37 = .ok (.newarray .int, 2) := by decide +kernel
theorem dX2_init_39 : decode cX2_init 39 = .ok (.putfield 24, 3) := by decide +kernel
theorem dX2_init_42 : decode cX2_init 42 = .ok (.aload_n 0, 1) := by decide +kernel
theorem dX2_init_43 : decode cX2_init 43 = .ok (.bipush 60, 2) := by decide +kernel
theorem dX2_init_45 : decode cX2_init 45 = .ok (.putfield 27, 3) := by decide +kernel
theorem dX2_init_48 : decode cX2_init 48 = .ok (.aload_n 0, 1) := by decide +kernel
theorem dX2_init_49 : decode cX2_init 49 = .ok (.bipush 64, 2) := by decide +kernel
theorem dX2_init_51 : decode cX2_init 51 = .ok (.newarray .int, 2) := by decide +kernel
theorem dX2_init_53 : decode cX2_init 53 = .ok (.putfield 31, 3) := by decide +kernel
theorem dX2_init_56 : decode cX2_init 56 = .ok (.aload_n 0, 1) := by decide +kernel
theorem dX2_init_57 : decode cX2_init 57 = .ok (.sipush 200, 3) := by decide +kernel
theorem dX2_init_60 : decode cX2_init 60 = .ok (.newarray .int, 2) := by decide +kernel
theorem dX2_init_62 : decode cX2_init 62 = .ok (.putfield 34, 3) := by decide +kernel
theorem dX2_init_65 : decode cX2_init 65 = .ok (.return_, 1) := by decide +kernel
theorem dX2_empty_0 : decode cX2_empty 0 = .ok (.aload_n 0, 1) := by decide +kernel
theorem dX2_empty_1 : decode cX2_empty 1 = .ok (.iconst 0, 1) := by decide +kernel
theorem dX2_empty_2 : decode cX2_empty 2 = .ok (.putfield 37, 3) := by decide +kernel
theorem dX2_empty_5 : decode cX2_empty 5 = .ok (.aload_n 0, 1) := by decide +kernel
theorem dX2_empty_6 : decode cX2_empty 6 = .ok (.iconst 0, 1) := by decide +kernel
theorem dX2_empty_7 : decode cX2_empty 7 = .ok (.putfield 40, 3) := by decide +kernel
theorem dX2_empty_10 : decode cX2_empty 10 = .ok (.aload_n 0, 1) := by decide +kernel
theorem dX2_empty_11 : decode cX2_empty 11 = .ok (.bipush 60, 2) := by decide +kernel
theorem dX2_empty_13 : decode cX2_empty 13 = .ok (.putfield 27, 3) := by decide +kernel
theorem dX2_empty_16 : decode cX2_empty 16 = .ok (.aload_n 0, 1) := by decide +kernel
theorem dX2_empty_17 : decode cX2_empty 17 = .ok (.iconst 0, 1) := by decide +kernel
theorem dX2_empty_18 : decode cX2_empty 18 = .ok (.putfield 43, 3) := by decide +kernel
theorem dX2_empty_21 : decode cX2_empty 21 = .ok (.return_, 1) := by decide +kernel
theorem dX2_addPassenger_0 : decode cX2_addPassenger 0 = .ok (.aload_n 0, 1) := by decide +kernel
theorem dX2_addPassenger_1 : decode cX2_addPassenger 1 = .ok (.getfield 37, 3) := by decide +kernel
theorem dX2_addPassenger_4 : decode cX2_addPassenger 4 = .ok (.bipush 6, 2) := by decide +kernel
theorem dX2_addPassenger_6 : decode cX2_addPassenger 6 = .ok (.if_icmp .ge 43, 3) := by decide +kernel
theorem dX2_addPassenger_9 : decode cX2_addPassenger 9 = .ok (.aload_n 0, 1) := by decide +kernel
theorem dX2_addPassenger_10 : decode cX2_addPassenger 10 = .ok (.getfield 9, 3) := by decide +kernel
theorem dX2_addPassenger_13 : decode cX2_addPassenger 13 = .ok (.aload_n 0, 1) := by decide +kernel
theorem dX2_addPassenger_14 : decode cX2_addPassenger 14 = .ok (.getfield 37, 3) := by decide +kernel
theorem dX2_addPassenger_17 : decode cX2_addPassenger 17 = .ok (.iload_n 1, 1) := by decide +kernel
theorem dX2_addPassenger_18 : decode cX2_addPassenger 18 = .ok (.iastore, 1) := by decide +kernel
theorem dX2_addPassenger_19 : decode cX2_addPassenger 19 = .ok (.aload_n 0, 1) := by decide +kernel
theorem dX2_addPassenger_20 : decode cX2_addPassenger 20 = .ok (.getfield 15, 3) := by decide +kernel
theorem dX2_addPassenger_23 : decode cX2_addPassenger 23 = .ok (.aload_n 0, 1) := by decide +kernel
theorem dX2_addPassenger_24 : decode cX2_addPassenger 24 = .ok (.getfield 37, 3) := by decide +kernel
theorem dX2_addPassenger_27 : decode cX2_addPassenger 27 = .ok (.iload_n 2, 1) := by decide +kernel
theorem dX2_addPassenger_28 : decode cX2_addPassenger 28 = .ok (.iastore, 1) := by decide +kernel
theorem dX2_addPassenger_29 : decode cX2_addPassenger 29 = .ok (.aload_n 0, 1) := by decide +kernel
theorem dX2_addPassenger_30 : decode cX2_addPassenger 30 = .ok (.getfield 18, 3) := by decide +kernel
theorem dX2_addPassenger_33 : decode cX2_addPassenger 33 = .ok (.aload_n 0, 1) := by decide +kernel
theorem dX2_addPassenger_34 : decode cX2_addPassenger 34 = .ok (.getfield 37, 3) := by decide +kernel
theorem dX2_addPassenger_37 : decode cX2_addPassenger 37 = .ok (.iload_n 3, 1) := by decide +kernel
theorem dX2_addPassenger_38 : decode cX2_addPassenger 38 = .ok (.iastore, 1) := by decide +kernel
theorem dX2_addPassenger_39 : decode cX2_addPassenger 39 = .ok (.aload_n 0, 1) := by decide +kernel
theorem dX2_addPassenger_40 : decode cX2_addPassenger 40 = .ok (.dup, 1) := by decide +kernel
theorem dX2_addPassenger_41 : decode cX2_addPassenger 41 = .ok (.getfield 37, 3) := by decide +kernel
theorem dX2_addPassenger_44 : decode cX2_addPassenger 44 = .ok (.iconst 1, 1) := by decide +kernel
theorem dX2_addPassenger_45 : decode cX2_addPassenger 45 = .ok (.iadd, 1) := by decide +kernel
theorem dX2_addPassenger_46 : decode cX2_addPassenger 46 = .ok (.putfield 37, 3) := by decide +kernel
theorem dX2_addPassenger_49 : decode cX2_addPassenger 49 = .ok (.return_, 1) := by decide +kernel
theorem dX2_addCurrent_0 : decode cX2_addCurrent 0 = .ok (.aload_n 0, 1) := by decide +kernel
theorem dX2_addCurrent_1 : decode cX2_addCurrent 1 = .ok (.getfield 40, 3) := by decide +kernel
theorem dX2_addCurrent_4 : decode cX2_addCurrent 4 = .ok (.iconst 4, 1) := by decide +kernel
theorem dX2_addCurrent_5 : decode cX2_addCurrent 5 = .ok (.if_icmp .ge 33, 3) := by decide +kernel
theorem dX2_addCurrent_8 : decode cX2_addCurrent 8 = .ok (.aload_n 0, 1) := by decide +kernel
theorem dX2_addCurrent_9 : decode cX2_addCurrent 9 = .ok (.getfield 21, 3) := by decide +kernel
theorem dX2_addCurrent_12 : decode cX2_addCurrent 12 = .ok (.aload_n 0, 1) := by decide +kernel
theorem dX2_addCurrent_13 : decode cX2_addCurrent 13 = .ok (.getfield 40, 3) := by decide +kernel
theorem dX2_addCurrent_16 : decode cX2_addCurrent 16 = .ok (.iload_n 1, 1) := by decide +kernel
theorem dX2_addCurrent_17 : decode cX2_addCurrent 17 = .ok (.iastore, 1) := by decide +kernel
theorem dX2_addCurrent_18 : decode cX2_addCurrent 18 = .ok (.aload_n 0, 1) := by decide +kernel
theorem dX2_addCurrent_19 : decode cX2_addCurrent 19 = .ok (.getfield 24, 3) := by decide +kernel
theorem dX2_addCurrent_22 : decode cX2_addCurrent 22 = .ok (.aload_n 0, 1) := by decide +kernel
theorem dX2_addCurrent_23 : decode cX2_addCurrent 23 = .ok (.getfield 40, 3) := by decide +kernel
theorem dX2_addCurrent_26 : decode cX2_addCurrent 26 = .ok (.iload_n 2, 1) := by decide +kernel
theorem dX2_addCurrent_27 : decode cX2_addCurrent 27 = .ok (.iastore, 1) := by decide +kernel
theorem dX2_addCurrent_28 : decode cX2_addCurrent 28 = .ok (.aload_n 0, 1) := by decide +kernel
theorem dX2_addCurrent_29 : decode cX2_addCurrent 29 = .ok (.dup, 1) := by decide +kernel
theorem dX2_addCurrent_30 : decode cX2_addCurrent 30 = .ok (.getfield 40, 3) := by decide +kernel
theorem dX2_addCurrent_33 : decode cX2_addCurrent 33 = .ok (.iconst 1, 1) := by decide +kernel
theorem dX2_addCurrent_34 : decode cX2_addCurrent 34 = .ok (.iadd, 1) := by decide +kernel
theorem dX2_addCurrent_35 : decode cX2_addCurrent 35 = .ok (.putfield 40, 3) := by decide +kernel
theorem dX2_addCurrent_38 : decode cX2_addCurrent 38 = .ok (.return_, 1) := by decide +kernel
theorem dX2_hasCurrentFrom_0 : decode cX2_hasCurrentFrom 0 = .ok (.iconst 0, 1) := by decide +kernel
theorem dX2_hasCurrentFrom_1 : decode cX2_hasCurrentFrom 1 = .ok (.istore_n 2, 1) := by decide +kernel
theorem dX2_hasCurrentFrom_2 : decode cX2_hasCurrentFrom 2 = .ok (.iload_n 2, 1) := by decide +kernel
theorem dX2_hasCurrentFrom_3 : decode cX2_hasCurrentFrom 3 = .ok (.aload_n 0, 1) := by decide +kernel
theorem dX2_hasCurrentFrom_4 : decode cX2_hasCurrentFrom 4 = .ok (.getfield 40, 3) := by decide +kernel
theorem dX2_hasCurrentFrom_7 : decode cX2_hasCurrentFrom 7 = .ok (.if_icmp .ge 26, 3) := by decide +kernel
theorem dX2_hasCurrentFrom_10 : decode cX2_hasCurrentFrom 10 = .ok (.iload_n 2, 1) := by decide +kernel
theorem dX2_hasCurrentFrom_11 : decode cX2_hasCurrentFrom 11 = .ok (.iconst 4, 1) := by decide +kernel
theorem dX2_hasCurrentFrom_12 : decode cX2_hasCurrentFrom 12 = .ok (.if_icmp .ge 21, 3) := by decide +kernel
theorem dX2_hasCurrentFrom_15 : decode cX2_hasCurrentFrom 15 = .ok (.aload_n 0, 1) := by decide +kernel
theorem dX2_hasCurrentFrom_16 : decode cX2_hasCurrentFrom 16 = .ok (.getfield 21, 3) := by decide +kernel
theorem dX2_hasCurrentFrom_19 : decode cX2_hasCurrentFrom 19 = .ok (.iload_n 2, 1) := by decide +kernel
theorem dX2_hasCurrentFrom_20 : decode cX2_hasCurrentFrom 20 = .ok (.iaload, 1) := by decide +kernel
theorem dX2_hasCurrentFrom_21 : decode cX2_hasCurrentFrom 21 = .ok (.iload_n 1, 1) := by decide +kernel
theorem dX2_hasCurrentFrom_22 : decode cX2_hasCurrentFrom 22 = .ok (.if_icmp .ne 5, 3) := by decide +kernel
theorem dX2_hasCurrentFrom_25 : decode cX2_hasCurrentFrom 25 = .ok (.iconst 1, 1) := by decide +kernel
theorem dX2_hasCurrentFrom_26 : decode cX2_hasCurrentFrom 26 = .ok (.ireturn, 1) := by decide +kernel
theorem dX2_hasCurrentFrom_27 : decode cX2_hasCurrentFrom 27 = .ok (.iinc 2 1, 3) := by decide +kernel
theorem dX2_hasCurrentFrom_30 : decode cX2_hasCurrentFrom 30 = .ok (.goto (-28), 3) := by decide +kernel
theorem dX2_hasCurrentFrom_33 : decode cX2_hasCurrentFrom 33 = .ok (.iconst 0, 1) := by decide +kernel
theorem dX2_hasCurrentFrom_34 : decode cX2_hasCurrentFrom 34 = .ok (.ireturn, 1) := by decide +kernel
theorem dX2_settle_0 : decode cX2_settle 0 = .ok (.iconst 0, 1) := by decide +kernel
theorem dX2_settle_1 : decode cX2_settle 1 = .ok (.istore_n 1, 1) := by decide +kernel
theorem dX2_settle_2 : decode cX2_settle 2 = .ok (.iload_n 1, 1) := by decide +kernel
theorem dX2_settle_3 : decode cX2_settle 3 = .ok (.aload_n 0, 1) := by decide +kernel
theorem dX2_settle_4 : decode cX2_settle 4 = .ok (.getfield 31, 3) := by decide +kernel
theorem dX2_settle_7 : decode cX2_settle 7 = .ok (.arraylength, 1) := by decide +kernel
theorem dX2_settle_8 : decode cX2_settle 8 = .ok (.if_icmp .ge 20, 3) := by decide +kernel
theorem dX2_settle_11 : decode cX2_settle 11 = .ok (.aload_n 0, 1) := by decide +kernel
theorem dX2_settle_12 : decode cX2_settle 12 = .ok (.getfield 31, 3) := by decide +kernel
theorem dX2_settle_15 : decode cX2_settle 15 = .ok (.iload_n 1, 1) := by decide +kernel
theorem dX2_settle_16 : decode cX2_settle 16 = .ok (.aload_n 0, 1) := by decide +kernel
theorem dX2_settle_17 : decode cX2_settle 17 = .ok (.iload_n 1, 1) := by decide +kernel
theorem dX2_settle_18 : decode cX2_settle 18 = .ok (.invokevirtual 47, 3) := by decide +kernel
theorem dX2_settle_21 : decode cX2_settle 21 = .ok (.iastore, 1) := by decide +kernel
theorem dX2_settle_22 : decode cX2_settle 22 = .ok (.iinc 1 1, 3) := by decide +kernel
theorem dX2_settle_25 : decode cX2_settle 25 = .ok (.goto (-23), 3) := by decide +kernel
theorem dX2_settle_28 : decode cX2_settle 28 = .ok (.iconst 0, 1) := by decide +kernel
theorem dX2_settle_29 : decode cX2_settle 29 = .ok (.istore_n 1, 1) := by decide +kernel
theorem dX2_settle_30 : decode cX2_settle 30 = .ok (.iload_n 1, 1) := by decide +kernel
theorem dX2_settle_31 : decode cX2_settle 31 = .ok (.aload_n 0, 1) := by decide +kernel
theorem dX2_settle_32 : decode cX2_settle 32 = .ok (.getfield 34, 3) := by decide +kernel
theorem dX2_settle_35 : decode cX2_settle 35 = .ok (.arraylength, 1) := by decide +kernel
theorem dX2_settle_36 : decode cX2_settle 36 = .ok (.if_icmp .ge 20, 3) := by decide +kernel
theorem dX2_settle_39 : decode cX2_settle 39 = .ok (.aload_n 0, 1) := by decide +kernel
theorem dX2_settle_40 : decode cX2_settle 40 = .ok (.getfield 34, 3) := by decide +kernel
theorem dX2_settle_43 : decode cX2_settle 43 = .ok (.iload_n 1, 1) := by decide +kernel
theorem dX2_settle_44 : decode cX2_settle 44 = .ok (.aload_n 0, 1) := by decide +kernel
theorem dX2_settle_45 : decode cX2_settle 45 = .ok (.iload_n 1, 1) := by decide +kernel
theorem dX2_settle_46 : decode cX2_settle 46 = .ok (.invokevirtual 51, 3) := by decide +kernel
theorem dX2_settle_49 : decode cX2_settle 49 = .ok (.iastore, 1) := by decide +kernel
theorem dX2_settle_50 : decode cX2_settle 50 = .ok (.iinc 1 1, 3) := by decide +kernel
theorem dX2_settle_53 : decode cX2_settle 53 = .ok (.goto (-23), 3) := by decide +kernel
theorem dX2_settle_56 : decode cX2_settle 56 = .ok (.return_, 1) := by decide +kernel
theorem dX2_findPull_0 : decode cX2_findPull 0 = .ok (.iconst (-1), 1) := by decide +kernel
theorem dX2_findPull_1 : decode cX2_findPull 1 = .ok (.istore_n 2, 1) := by decide +kernel
theorem dX2_findPull_2 : decode cX2_findPull 2 = .ok (.iconst 0, 1) := by decide +kernel
theorem dX2_findPull_3 : decode cX2_findPull 3 = .ok (.istore_n 3, 1) := by decide +kernel
theorem dX2_findPull_4 : decode cX2_findPull 4 = .ok (.iconst 0, 1) := by decide +kernel
theorem dX2_findPull_5 : decode cX2_findPull 5 = .ok (.istore 4, 2) := by decide +kernel
theorem dX2_findPull_7 : decode cX2_findPull 7 = .ok (.iload 4, 2) := by decide +kernel
theorem dX2_findPull_9 : decode cX2_findPull 9 = .ok (.aload_n 0, 1) := by decide +kernel
theorem dX2_findPull_10 : decode cX2_findPull 10 = .ok (.getfield 37, 3) := by decide +kernel
theorem dX2_findPull_13 : decode cX2_findPull 13 = .ok (.if_icmp .ge 80, 3) := by decide +kernel
theorem dX2_findPull_16 : decode cX2_findPull 16 = .ok (.iload 4, 2) := by decide +kernel
theorem dX2_findPull_18 : decode cX2_findPull 18 = .ok (.bipush 6, 2) := by decide +kernel
theorem dX2_findPull_20 : decode cX2_findPull 20 = .ok (.if_icmp .ge 73, 3) := by decide +kernel
theorem dX2_findPull_23 : decode cX2_findPull 23 = .ok (.iload_n 1, 1) := by decide +kernel
theorem dX2_findPull_24 : decode cX2_findPull 24 = .ok (.iload 4, 2) := by decide +kernel
theorem dX2_findPull_26 : decode cX2_findPull 26 = .ok (.ishr, 1) := by decide +kernel
theorem dX2_findPull_27 : decode cX2_findPull 27 = .ok (.iconst 1, 1) := by decide +kernel
theorem dX2_findPull_28 : decode cX2_findPull 28 = .ok (.iand, 1) := by decide +kernel
theorem dX2_findPull_29 : decode cX2_findPull 29 = .ok (.ifCond .ne 6, 3) := by decide +kernel
theorem dX2_findPull_32 : decode cX2_findPull 32 = .ok (.goto 55, 3) := by decide +kernel
theorem dX2_findPull_35 : decode cX2_findPull 35 = .ok (.iload_n 2, 1) := by decide +kernel
theorem dX2_findPull_36 : decode cX2_findPull 36 = .ok (.ifCond .lt 18, 3) := by decide +kernel
theorem dX2_findPull_39 : decode cX2_findPull 39 = .ok (.iload_n 2, 1) := by decide +kernel
theorem dX2_findPull_40 : decode cX2_findPull 40 = .ok (.aload_n 0, 1) := by decide +kernel
theorem dX2_findPull_41 : decode cX2_findPull 41 = .ok (.getfield 18, 3) := by decide +kernel
theorem dX2_findPull_44 : decode cX2_findPull 44 = .ok (.iload 4, 2) := by decide +kernel
theorem dX2_findPull_46 : decode cX2_findPull 46 = .ok (.iaload, 1) := by decide +kernel
theorem dX2_findPull_47 : decode cX2_findPull 47 = .ok (.if_icmp .ne 11, 3) := by decide +kernel
theorem dX2_findPull_50 : decode cX2_findPull 50 = .ok (.iload_n 2, 1) := by decide +kernel
theorem dX2_findPull_51 : decode cX2_findPull 51 = .ok (.ifCond .eq 7, 3) := by decide +kernel
theorem dX2_findPull_54 : decode cX2_findPull 54 = .ok (.iconst 1, 1) := by decide +kernel
theorem dX2_findPull_55 : decode cX2_findPull 55 = .ok (.goto 4, 3) := by decide +kernel
theorem dX2_findPull_58 : decode cX2_findPull 58 = .ok (.iconst 0, 1) := by decide +kernel
theorem dX2_findPull_59 : decode cX2_findPull 59 = .ok (.istore 5, 2) := by decide +kernel
theorem dX2_findPull_61 : decode cX2_findPull 61 = .ok (.iload 5, 2) := by decide +kernel
theorem dX2_findPull_63 : decode cX2_findPull 63 = .ok (.ifCond .ne 6, 3) := by decide +kernel
theorem dX2_findPull_66 : decode cX2_findPull 66 = .ok (.bipush (-9), 2) := by decide +kernel
theorem dX2_findPull_68 : decode cX2_findPull 68 = .ok (.ireturn, 1) := by decide +kernel
theorem dX2_findPull_69 : decode cX2_findPull 69 = .ok (.aload_n 0, 1) := by decide +kernel
theorem dX2_findPull_70 : decode cX2_findPull 70 = .ok (.getfield 18, 3) := by decide +kernel
theorem dX2_findPull_73 : decode cX2_findPull 73 = .ok (.iload 4, 2) := by decide +kernel
theorem dX2_findPull_75 : decode cX2_findPull 75 = .ok (.iaload, 1) := by decide +kernel
theorem dX2_findPull_76 : decode cX2_findPull 76 = .ok (.istore_n 2, 1) := by decide +kernel
theorem dX2_findPull_77 : decode cX2_findPull 77 = .ok (.iload_n 3, 1) := by decide +kernel
theorem dX2_findPull_78 : decode cX2_findPull 78 = .ok (.aload_n 0, 1) := by decide +kernel
theorem dX2_findPull_79 : decode cX2_findPull 79 = .ok (.getfield 9, 3) := by decide +kernel
theorem dX2_findPull_82 : decode cX2_findPull 82 = .ok (.iload 4, 2) := by decide +kernel
theorem dX2_findPull_84 : decode cX2_findPull 84 = .ok (.iaload, 1) := by decide +kernel
theorem dX2_findPull_85 : decode cX2_findPull 85 = .ok (.iadd, 1) := by decide +kernel
theorem dX2_findPull_86 : decode cX2_findPull 86 = .ok (.istore_n 3, 1) := by decide +kernel
theorem dX2_findPull_87 : decode cX2_findPull 87 = .ok (.iinc 4 1, 3) := by decide +kernel
theorem dX2_findPull_90 : decode cX2_findPull 90 = .ok (.goto (-83), 3) := by decide +kernel
theorem dX2_findPull_93 : decode cX2_findPull 93 = .ok (.iload_n 3, 1) := by decide +kernel
theorem dX2_findPull_94 : decode cX2_findPull 94 = .ok (.ireturn, 1) := by decide +kernel
theorem dX2_findFlow_0 : decode cX2_findFlow 0 = .ok (.iconst 0, 1) := by decide +kernel
theorem dX2_findFlow_1 : decode cX2_findFlow 1 = .ok (.istore_n 2, 1) := by decide +kernel
theorem dX2_findFlow_2 : decode cX2_findFlow 2 = .ok (.iconst (-1), 1) := by decide +kernel
theorem dX2_findFlow_3 : decode cX2_findFlow 3 = .ok (.istore_n 3, 1) := by decide +kernel
theorem dX2_findFlow_4 : decode cX2_findFlow 4 = .ok (.iconst 0, 1) := by decide +kernel
theorem dX2_findFlow_5 : decode cX2_findFlow 5 = .ok (.istore 4, 2) := by decide +kernel
theorem dX2_findFlow_7 : decode cX2_findFlow 7 = .ok (.iload 4, 2) := by decide +kernel
theorem dX2_findFlow_9 : decode cX2_findFlow 9 = .ok (.aload_n 0, 1) := by decide +kernel
theorem dX2_findFlow_10 : decode cX2_findFlow 10 = .ok (.getfield 40, 3) := by decide +kernel
theorem dX2_findFlow_13 : decode cX2_findFlow 13 = .ok (.if_icmp .ge 53, 3) := by decide +kernel
theorem dX2_findFlow_16 : decode cX2_findFlow 16 = .ok (.iload 4, 2) := by decide +kernel
theorem dX2_findFlow_18 : decode cX2_findFlow 18 = .ok (.iconst 4, 1) := by decide +kernel
theorem dX2_findFlow_19 : decode cX2_findFlow 19 = .ok (.if_icmp .ge 47, 3) := by decide +kernel
theorem dX2_findFlow_22 : decode cX2_findFlow 22 = .ok (.aload_n 0, 1) := by decide +kernel
theorem dX2_findFlow_23 : decode cX2_findFlow 23 = .ok (.getfield 21, 3) := by decide +kernel
theorem dX2_findFlow_26 : decode cX2_findFlow 26 = .ok (.iload 4, 2) := by decide +kernel
theorem dX2_findFlow_28 : decode cX2_findFlow 28 = .ok (.iaload, 1) := by decide +kernel
theorem dX2_findFlow_29 : decode cX2_findFlow 29 = .ok (.iload_n 1, 1) := by decide +kernel
theorem dX2_findFlow_30 : decode cX2_findFlow 30 = .ok (.if_icmp .gt 30, 3) := by decide +kernel
theorem dX2_findFlow_33 : decode cX2_findFlow 33 = .ok (.aload_n 0, 1) := by decide +kernel
theorem dX2_findFlow_34 : decode cX2_findFlow 34 = .ok (.getfield 21, 3) := by decide +kernel
theorem dX2_findFlow_37 : decode cX2_findFlow 37 = .ok (.iload 4, 2) := by decide +kernel
theorem dX2_findFlow_39 : decode cX2_findFlow 39 = .ok (.iaload, 1) := by decide +kernel
theorem dX2_findFlow_40 : decode cX2_findFlow 40 = .ok (.iload_n 3, 1) := by decide +kernel
theorem dX2_findFlow_41 : decode cX2_findFlow 41 = .ok (.if_icmp .le 19, 3) := by decide +kernel
theorem dX2_findFlow_44 : decode cX2_findFlow 44 = .ok (.aload_n 0, 1) := by decide +kernel
theorem dX2_findFlow_45 : decode cX2_findFlow 45 = .ok (.getfield 21, 3) := by decide +kernel
theorem dX2_findFlow_48 : decode cX2_findFlow 48 = .ok (.iload 4, 2) := by decide +kernel
theorem dX2_findFlow_50 : decode cX2_findFlow 50 = .ok (.iaload, 1) := by decide +kernel
theorem dX2_findFlow_51 : decode cX2_findFlow 51 = .ok (.istore_n 3, 1) := by decide +kernel
theorem dX2_findFlow_52 : decode cX2_findFlow 52 = .ok (.aload_n 0, 1) := by decide +kernel
theorem dX2_findFlow_53 : decode cX2_findFlow 53 = .ok (.getfield 24, 3) := by decide +kernel
theorem dX2_findFlow_56 : decode cX2_findFlow 56 = .ok (.iload 4, 2) := by decide +kernel
theorem dX2_findFlow_58 : decode cX2_findFlow 58 = .ok (.iaload, 1) := by decide +kernel
theorem dX2_findFlow_59 : decode cX2_findFlow 59 = .ok (.istore_n 2, 1) := by decide +kernel
theorem dX2_findFlow_60 : decode cX2_findFlow 60 = .ok (.iinc 4 1, 3) := by decide +kernel
theorem dX2_findFlow_63 : decode cX2_findFlow 63 = .ok (.goto (-56), 3) := by decide +kernel
theorem dX2_findFlow_66 : decode cX2_findFlow 66 = .ok (.iload_n 2, 1) := by decide +kernel
theorem dX2_findFlow_67 : decode cX2_findFlow 67 = .ok (.ireturn, 1) := by decide +kernel
theorem dX2_has_0 : decode cX2_has 0 = .ok (.iload_n 1, 1) := by decide +kernel
theorem dX2_has_1 : decode cX2_has 1 = .ok (.ifCond .lt 21, 3) := by decide +kernel
theorem dX2_has_4 : decode cX2_has 4 = .ok (.iload_n 1, 1) := by decide +kernel
theorem dX2_has_5 : decode cX2_has 5 = .ok (.aload_n 0, 1) := by decide +kernel
theorem dX2_has_6 : decode cX2_has 6 = .ok (.getfield 37, 3) := by decide +kernel
theorem dX2_has_9 : decode cX2_has 9 = .ok (.if_icmp .ge 13, 3) := by decide +kernel
theorem dX2_has_12 : decode cX2_has 12 = .ok (.iload_n 1, 1) := by decide +kernel
theorem dX2_has_13 : decode cX2_has 13 = .ok (.bipush 6, 2) := by decide +kernel
theorem dX2_has_15 : decode cX2_has 15 = .ok (.if_icmp .ge 7, 3) := by decide +kernel
theorem dX2_has_18 : decode cX2_has 18 = .ok (.iconst 1, 1) := by decide +kernel
theorem dX2_has_19 : decode cX2_has 19 = .ok (.goto 4, 3) := by decide +kernel
theorem dX2_has_22 : decode cX2_has 22 = .ok (.iconst 0, 1) := by decide +kernel
theorem dX2_has_23 : decode cX2_has 23 = .ok (.ireturn, 1) := by decide +kernel
theorem dX2_everybody_0 : decode cX2_everybody 0 = .ok (.iconst 1, 1) := by decide +kernel
theorem dX2_everybody_1 : decode cX2_everybody 1 = .ok (.aload_n 0, 1) := by decide +kernel
theorem dX2_everybody_2 : decode cX2_everybody 2 = .ok (.getfield 37, 3) := by decide +kernel
theorem dX2_everybody_5 : decode cX2_everybody 5 = .ok (.ishl, 1) := by decide +kernel
theorem dX2_everybody_6 : decode cX2_everybody 6 = .ok (.iconst 1, 1) := by decide +kernel
theorem dX2_everybody_7 : decode cX2_everybody 7 = .ok (.isub, 1) := by decide +kernel
theorem dX2_everybody_8 : decode cX2_everybody 8 = .ok (.ireturn, 1) := by decide +kernel
theorem dX2_singersOf_0 : decode cX2_singersOf 0 = .ok (.iconst 0, 1) := by decide +kernel
theorem dX2_singersOf_1 : decode cX2_singersOf 1 = .ok (.istore_n 2, 1) := by decide +kernel
theorem dX2_singersOf_2 : decode cX2_singersOf 2 = .ok (.iconst 0, 1) := by decide +kernel
theorem dX2_singersOf_3 : decode cX2_singersOf 3 = .ok (.istore_n 3, 1) := by decide +kernel
theorem dX2_singersOf_4 : decode cX2_singersOf 4 = .ok (.iload_n 3, 1) := by decide +kernel
theorem dX2_singersOf_5 : decode cX2_singersOf 5 = .ok (.aload_n 0, 1) := by decide +kernel
theorem dX2_singersOf_6 : decode cX2_singersOf 6 = .ok (.getfield 37, 3) := by decide +kernel
theorem dX2_singersOf_9 : decode cX2_singersOf 9 = .ok (.if_icmp .ge 31, 3) := by decide +kernel
theorem dX2_singersOf_12 : decode cX2_singersOf 12 = .ok (.iload_n 3, 1) := by decide +kernel
theorem dX2_singersOf_13 : decode cX2_singersOf 13 = .ok (.bipush 6, 2) := by decide +kernel
theorem dX2_singersOf_15 : decode cX2_singersOf 15 = .ok (.if_icmp .ge 25, 3) := by decide +kernel
theorem dX2_singersOf_18 : decode cX2_singersOf 18 = .ok (.aload_n 0, 1) := by decide +kernel
theorem dX2_singersOf_19 : decode cX2_singersOf 19 = .ok (.getfield 18, 3) := by decide +kernel
theorem dX2_singersOf_22 : decode cX2_singersOf 22 = .ok (.iload_n 3, 1) := by decide +kernel
theorem dX2_singersOf_23 : decode cX2_singersOf 23 = .ok (.iaload, 1) := by decide +kernel
theorem dX2_singersOf_24 : decode cX2_singersOf 24 = .ok (.iload_n 1, 1) := by decide +kernel
theorem dX2_singersOf_25 : decode cX2_singersOf 25 = .ok (.if_icmp .ne 9, 3) := by decide +kernel
theorem dX2_singersOf_28 : decode cX2_singersOf 28 = .ok (.iload_n 2, 1) := by decide +kernel
theorem dX2_singersOf_29 : decode cX2_singersOf 29 = .ok (.iconst 1, 1) := by decide +kernel
theorem dX2_singersOf_30 : decode cX2_singersOf 30 = .ok (.iload_n 3, 1) := by decide +kernel
theorem dX2_singersOf_31 : decode cX2_singersOf 31 = .ok (.ishl, 1) := by decide +kernel
theorem dX2_singersOf_32 : decode cX2_singersOf 32 = .ok (.ior, 1) := by decide +kernel
theorem dX2_singersOf_33 : decode cX2_singersOf 33 = .ok (.istore_n 2, 1) := by decide +kernel
theorem dX2_singersOf_34 : decode cX2_singersOf 34 = .ok (.iinc 3 1, 3) := by decide +kernel
theorem dX2_singersOf_37 : decode cX2_singersOf 37 = .ok (.goto (-33), 3) := by decide +kernel
theorem dX2_singersOf_40 : decode cX2_singersOf 40 = .ok (.iload_n 2, 1) := by decide +kernel
theorem dX2_singersOf_41 : decode cX2_singersOf 41 = .ok (.ireturn, 1) := by decide +kernel
theorem dX2_pullOf_0 : decode cX2_pullOf 0 = .ok (.iload_n 1, 1) := by decide +kernel
theorem dX2_pullOf_1 : decode cX2_pullOf 1 = .ok (.ifCond .lt 12, 3) := by decide +kernel
theorem dX2_pullOf_4 : decode cX2_pullOf 4 = .ok (.iload_n 1, 1) := by decide +kernel
theorem dX2_pullOf_5 : decode cX2_pullOf 5 = .ok (.aload_n 0, 1) := by decide +kernel
theorem dX2_pullOf_6 : decode cX2_pullOf 6 = .ok (.getfield 31, 3) := by decide +kernel
theorem dX2_pullOf_9 : decode cX2_pullOf 9 = .ok (.arraylength, 1) := by decide +kernel
theorem dX2_pullOf_10 : decode cX2_pullOf 10 = .ok (.if_icmp .lt 7, 3) := by decide +kernel
theorem dX2_pullOf_13 : decode cX2_pullOf 13 = .ok (.iconst 0, 1) := by decide +kernel
theorem dX2_pullOf_14 : decode cX2_pullOf 14 = .ok (.goto 9, 3) := by decide +kernel
theorem dX2_pullOf_17 : decode cX2_pullOf 17 = .ok (.aload_n 0, 1) := by decide +kernel
theorem dX2_pullOf_18 : decode cX2_pullOf 18 = .ok (.getfield 31, 3) := by decide +kernel
theorem dX2_pullOf_21 : decode cX2_pullOf 21 = .ok (.iload_n 1, 1) := by decide +kernel
theorem dX2_pullOf_22 : decode cX2_pullOf 22 = .ok (.iaload, 1) := by decide +kernel
theorem dX2_pullOf_23 : decode cX2_pullOf 23 = .ok (.ireturn, 1) := by decide +kernel
theorem dX2_flowAt_0 : decode cX2_flowAt 0 = .ok (.iload_n 1, 1) := by decide +kernel
theorem dX2_flowAt_1 : decode cX2_flowAt 1 = .ok (.ifCond .ge 7, 3) := by decide +kernel
theorem dX2_flowAt_4 : decode cX2_flowAt 4 = .ok (.iconst 0, 1) := by decide +kernel
theorem dX2_flowAt_5 : decode cX2_flowAt 5 = .ok (.goto 15, 3) := by decide +kernel
theorem dX2_flowAt_8 : decode cX2_flowAt 8 = .ok (.aload_n 0, 1) := by decide +kernel
theorem dX2_flowAt_9 : decode cX2_flowAt 9 = .ok (.getfield 34, 3) := by decide +kernel
theorem dX2_flowAt_12 : decode cX2_flowAt 12 = .ok (.iload_n 1, 1) := by decide +kernel
theorem dX2_flowAt_13 : decode cX2_flowAt 13 = .ok (.sipush 199, 3) := by decide +kernel
theorem dX2_flowAt_16 : decode cX2_flowAt 16 = .ok (.invokestatic 54, 3) := by decide +kernel
theorem dX2_flowAt_19 : decode cX2_flowAt 19 = .ok (.iaload, 1) := by decide +kernel
theorem dX2_flowAt_20 : decode cX2_flowAt 20 = .ok (.ireturn, 1) := by decide +kernel
theorem dX2_isOver_0 : decode cX2_isOver 0 = .ok (.iload_n 1, 1) := by decide +kernel
theorem dX2_isOver_1 : decode cX2_isOver 1 = .ok (.aload_n 0, 1) := by decide +kernel
theorem dX2_isOver_2 : decode cX2_isOver 2 = .ok (.getfield 27, 3) := by decide +kernel
theorem dX2_isOver_5 : decode cX2_isOver 5 = .ok (.if_icmp .lt 7, 3) := by decide +kernel
theorem dX2_isOver_8 : decode cX2_isOver 8 = .ok (.iconst 1, 1) := by decide +kernel
theorem dX2_isOver_9 : decode cX2_isOver 9 = .ok (.goto 4, 3) := by decide +kernel
theorem dX2_isOver_12 : decode cX2_isOver 12 = .ok (.iconst 0, 1) := by decide +kernel
theorem dX2_isOver_13 : decode cX2_isOver 13 = .ok (.ireturn, 1) := by decide +kernel
theorem dX3_init_0 : decode cX3_init 0 = .ok (.aload_n 0, 1) := by decide +kernel
theorem dX3_init_1 : decode cX3_init 1 = .ok (.invokespecial 1, 3) := by decide +kernel
theorem dX3_init_4 : decode cX3_init 4 = .ok (.return_, 1) := by decide +kernel
theorem dX3_worth_0 : decode cX3_worth 0 = .ok (.aload 4, 2) := by decide +kernel
theorem dX3_worth_2 : decode cX3_worth 2 = .ok (.iconst 0, 1) := by decide +kernel
theorem dX3_worth_3 : decode cX3_worth 3 = .ok (.dup2, 1) := by decide +kernel
theorem dX3_worth_4 : decode cX3_worth 4 = .ok (.laload, 1) := by decide +kernel
theorem dX3_worth_5 : decode cX3_worth 5 = .ok (.ldc2_w 7, 3) := by decide +kernel
theorem dX3_worth_8 : decode cX3_worth 8 = .ok (.ladd, 1) := by decide +kernel
theorem dX3_worth_9 : decode cX3_worth 9 = .ok (.lastore, 1) := by decide +kernel
theorem dX3_worth_10 : decode cX3_worth 10 = .ok (.iconst 2, 1) := by decide +kernel
theorem dX3_worth_11 : decode cX3_worth 11 = .ok (.aload_n 0, 1) := by decide +kernel
theorem dX3_worth_12 : decode cX3_worth 12 = .ok (.aload_n 1, 1) := by decide +kernel
theorem dX3_worth_13 : decode cX3_worth 13 = .ok (.aload_n 2, 1) := by decide +kernel
theorem dX3_worth_14 : decode cX3_worth 14 = .ok (.iload_n 3, 1) := by decide +kernel
theorem dX3_worth_15 : decode cX3_worth 15 = .ok (.aload 4, 2) := by decide +kernel
theorem dX3_worth_17 : decode cX3_worth 17 = .ok (.invokespecial 9, 3) := by decide +kernel
theorem dX3_worth_20 : decode cX3_worth 20 = .ok (.imul, 1) := by decide +kernel
theorem dX3_worth_21 : decode cX3_worth 21 = .ok (.ireturn, 1) := by decide +kernel
theorem dX4_init_0 : decode cX4_init 0 = .ok (.aload_n 0, 1) := by decide +kernel
theorem dX4_init_1 : decode cX4_init 1 = .ok (.invokespecial 3, 3) := by decide +kernel
theorem dX4_init_4 : decode cX4_init 4 = .ok (.aload_n 0, 1) := by decide +kernel
theorem dX4_init_5 : decode cX4_init 5 = .ok (.bipush 6, 2) := by decide +kernel
theorem dX4_init_7 : decode cX4_init 7 = .ok (.newarray .int, 2) := by decide +kernel
theorem dX4_init_9 : decode cX4_init 9 = .ok (.putfield 9, 3) := by decide +kernel
theorem dX4_init_12 : decode cX4_init 12 = .ok (.aload_n 0, 1) := by decide +kernel
theorem dX4_init_13 : decode cX4_init 13 = .ok (.bipush 6, 2) := by decide +kernel
theorem dX4_init_15 : decode cX4_init 15 = .ok (.newarray .int, 2) := by decide +kernel
theorem dX4_init_17 : decode cX4_init 17 = .ok (.putfield 15, 3) := by decide +kernel
theorem dX4_init_20 : decode cX4_init 20 = .ok (.aload_n 0, 1) := by decide +kernel
theorem dX4_init_21 : decode cX4_init 21 = .ok (.ldc 18, 2) := by decide +kernel
theorem dX4_init_23 : decode cX4_init 23 = .ok (.putfield 19, 3) := by decide +kernel
theorem dX4_init_26 : decode cX4_init 26 = .ok (.return_, 1) := by decide +kernel
theorem dX4_start_0 : decode cX4_start 0 = .ok (.aload_n 0, 1) := by decide +kernel
theorem dX4_start_1 : decode cX4_start 1 = .ok (.iconst 0, 1) := by decide +kernel
theorem dX4_start_2 : decode cX4_start 2 = .ok (.putfield 23, 3) := by decide +kernel
theorem dX4_start_5 : decode cX4_start 5 = .ok (.aload_n 0, 1) := by decide +kernel
theorem dX4_start_6 : decode cX4_start 6 = .ok (.iconst 0, 1) := by decide +kernel
theorem dX4_start_7 : decode cX4_start 7 = .ok (.putfield 26, 3) := by decide +kernel
theorem dX4_start_10 : decode cX4_start 10 = .ok (.aload_n 0, 1) := by decide +kernel
theorem dX4_start_11 : decode cX4_start 11 = .ok (.iconst 0, 1) := by decide +kernel
theorem dX4_start_12 : decode cX4_start 12 = .ok (.putfield 29, 3) := by decide +kernel
theorem dX4_start_15 : decode cX4_start 15 = .ok (.aload_n 0, 1) := by decide +kernel
theorem dX4_start_16 : decode cX4_start 16 = .ok (.getfield 9, 3) := by decide +kernel
theorem dX4_start_19 : decode cX4_start 19 = .ok (.iconst 0, 1) := by decide +kernel
theorem dX4_start_20 : decode cX4_start 20 = .ok (.invokestatic 32, 3) := by decide +kernel
theorem dX4_start_23 : decode cX4_start 23 = .ok (.aload_n 0, 1) := by decide +kernel
theorem dX4_start_24 : decode cX4_start 24 = .ok (.getfield 15, 3) := by decide +kernel
theorem dX4_start_27 : decode cX4_start 27 = .ok (.iconst 0, 1) := by decide +kernel
theorem dX4_start_28 : decode cX4_start 28 = .ok (.invokestatic 32, 3) := by decide +kernel
theorem dX4_start_31 : decode cX4_start 31 = .ok (.aload_n 0, 1) := by decide +kernel
theorem dX4_start_32 : decode cX4_start 32 = .ok (.aload_n 0, 1) := by decide +kernel
theorem dX4_start_33 : decode cX4_start 33 = .ok (.aload_n 1, 1) := by decide +kernel
theorem dX4_start_34 : decode cX4_start 34 = .ok (.invokevirtual 38, 3) := by decide +kernel
theorem dX4_start_37 : decode cX4_start 37 = .ok (.putfield 19, 3) := by decide +kernel
theorem dX4_start_40 : decode cX4_start 40 = .ok (.return_, 1) := by decide +kernel
theorem dX4_copyFrom_0 : decode cX4_copyFrom 0 = .ok (.aload_n 0, 1) := by decide +kernel
theorem dX4_copyFrom_1 : decode cX4_copyFrom 1 = .ok (.aload_n 1, 1) := by decide +kernel
theorem dX4_copyFrom_2 : decode cX4_copyFrom 2 = .ok (.getfield 23, 3) := by decide +kernel
theorem dX4_copyFrom_5 : decode cX4_copyFrom 5 = .ok (.putfield 23, 3) := by decide +kernel
theorem dX4_copyFrom_8 : decode cX4_copyFrom 8 = .ok (.aload_n 0, 1) := by decide +kernel
theorem dX4_copyFrom_9 : decode cX4_copyFrom 9 = .ok (.aload_n 1, 1) := by decide +kernel
theorem dX4_copyFrom_10 : decode cX4_copyFrom 10 = .ok (.getfield 26, 3) := by decide +kernel
theorem dX4_copyFrom_13 : decode cX4_copyFrom 13 = .ok (.putfield 26, 3) := by decide +kernel
theorem dX4_copyFrom_16 : decode cX4_copyFrom 16 = .ok (.aload_n 0, 1) := by decide +kernel
theorem dX4_copyFrom_17 : decode cX4_copyFrom 17 = .ok (.aload_n 1, 1) := by decide +kernel
theorem dX4_copyFrom_18 : decode cX4_copyFrom 18 = .ok (.getfield 29, 3) := by decide +kernel
theorem dX4_copyFrom_21 : decode cX4_copyFrom 21 = .ok (.putfield 29, 3) := by decide +kernel
theorem dX4_copyFrom_24 : decode cX4_copyFrom 24 = .ok (.aload_n 0, 1) := by decide +kernel
theorem dX4_copyFrom_25 : decode cX4_copyFrom 25 = .ok (.aload_n 1, 1) := by decide +kernel
theorem dX4_copyFrom_26 : decode cX4_copyFrom 26 = .ok (.getfield 19, 3) := by decide +kernel
theorem dX4_copyFrom_29 : decode cX4_copyFrom 29 = .ok (.putfield 19, 3) := by decide +kernel
theorem dX4_copyFrom_32 : decode cX4_copyFrom 32 = .ok (.iconst 0, 1) := by decide +kernel
theorem dX4_copyFrom_33 : decode cX4_copyFrom 33 = .ok (.istore_n 2, 1) := by decide +kernel
theorem dX4_copyFrom_34 : decode cX4_copyFrom 34 = .ok (.iload_n 2, 1) := by decide +kernel
theorem dX4_copyFrom_35 : decode cX4_copyFrom 35 = .ok (.bipush 6, 2) := by decide +kernel
theorem dX4_copyFrom_37 : decode cX4_copyFrom 37 = .ok (.if_icmp .ge 33, 3) := by decide +kernel
theorem dX4_copyFrom_40 : decode cX4_copyFrom 40 = .ok (.aload_n 0, 1) := by decide +kernel
theorem dX4_copyFrom_41 : decode cX4_copyFrom 41 = .ok (.getfield 9, 3) := by decide +kernel
theorem dX4_copyFrom_44 : decode cX4_copyFrom 44 = .ok (.iload_n 2, 1) := by decide +kernel
theorem dX4_copyFrom_45 : decode cX4_copyFrom 45 = .ok (.aload_n 1, 1) := by decide +kernel
theorem dX4_copyFrom_46 : decode cX4_copyFrom 46 = .ok (.getfield 9, 3) := by decide +kernel
theorem dX4_copyFrom_49 : decode cX4_copyFrom 49 = .ok (.iload_n 2, 1) := by decide +kernel
theorem dX4_copyFrom_50 : decode cX4_copyFrom 50 = .ok (.iaload, 1) := by decide +kernel
theorem dX4_copyFrom_51 : decode cX4_copyFrom 51 = .ok (.iastore, 1) := by decide +kernel
theorem dX4_copyFrom_52 : decode cX4_copyFrom 52 = .ok (.aload_n 0, 1) := by decide +kernel
theorem dX4_copyFrom_53 : decode cX4_copyFrom 53 = .ok (.getfield 15, 3) := by decide +kernel
theorem dX4_copyFrom_56 : decode cX4_copyFrom 56 = .ok (.iload_n 2, 1) := by decide +kernel
theorem dX4_copyFrom_57 : decode cX4_copyFrom 57 = .ok (.aload_n 1, 1) := by decide +kernel
theorem dX4_copyFrom_58 : decode cX4_copyFrom 58 = .ok (.getfield 15, 3) := by decide +kernel
theorem dX4_copyFrom_61 : decode cX4_copyFrom 61 = .ok (.iload_n 2, 1) := by decide +kernel
theorem dX4_copyFrom_62 : decode cX4_copyFrom 62 = .ok (.iaload, 1) := by decide +kernel
theorem dX4_copyFrom_63 : decode cX4_copyFrom 63 = .ok (.iastore, 1) := by decide +kernel
theorem dX4_copyFrom_64 : decode cX4_copyFrom 64 = .ok (.iinc 2 1, 3) := by decide +kernel
theorem dX4_copyFrom_67 : decode cX4_copyFrom 67 = .ok (.goto (-33), 3) := by decide +kernel
theorem dX4_copyFrom_70 : decode cX4_copyFrom 70 = .ok (.return_, 1) := by decide +kernel
theorem dX4_speak_0 : decode cX4_speak 0 = .ok (.aload_n 0, 1) := by decide +kernel
theorem dX4_speak_1 : decode cX4_speak 1 = .ok (.iload_n 2, 1) := by decide +kernel
theorem dX4_speak_2 : decode cX4_speak 2 = .ok (.putfield 29, 3) := by decide +kernel
theorem dX4_speak_5 : decode cX4_speak 5 = .ok (.iconst 0, 1) := by decide +kernel
theorem dX4_speak_6 : decode cX4_speak 6 = .ok (.istore_n 3, 1) := by decide +kernel
theorem dX4_speak_7 : decode cX4_speak 7 = .ok (.iload_n 3, 1) := by decide +kernel
theorem dX4_speak_8 : decode cX4_speak 8 = .ok (.bipush 6, 2) := by decide +kernel
theorem dX4_speak_10 : decode cX4_speak 10 = .ok (.if_icmp .ge 37, 3) := by decide +kernel
theorem dX4_speak_13 : decode cX4_speak 13 = .ok (.iload_n 2, 1) := by decide +kernel
theorem dX4_speak_14 : decode cX4_speak 14 = .ok (.iload_n 3, 1) := by decide +kernel
theorem dX4_speak_15 : decode cX4_speak 15 = .ok (.ishr, 1) := by decide +kernel
theorem dX4_speak_16 : decode cX4_speak 16 = .ok (.iconst 1, 1) := by decide +kernel
theorem dX4_speak_17 : decode cX4_speak 17 = .ok (.iand, 1) := by decide +kernel
theorem dX4_speak_18 : decode cX4_speak 18 = .ok (.ifCond .eq 23, 3) := by decide +kernel
theorem dX4_speak_21 : decode cX4_speak 21 = .ok (.aload_n 0, 1) := by decide +kernel
theorem dX4_speak_22 : decode cX4_speak 22 = .ok (.getfield 9, 3) := by decide +kernel
theorem dX4_speak_25 : decode cX4_speak 25 = .ok (.iload_n 3, 1) := by decide +kernel
theorem dX4_speak_26 : decode cX4_speak 26 = .ok (.aload_n 0, 1) := by decide +kernel
theorem dX4_speak_27 : decode cX4_speak 27 = .ok (.getfield 23, 3) := by decide +kernel
theorem dX4_speak_30 : decode cX4_speak 30 = .ok (.iastore, 1) := by decide +kernel
theorem dX4_speak_31 : decode cX4_speak 31 = .ok (.aload_n 0, 1) := by decide +kernel
theorem dX4_speak_32 : decode cX4_speak 32 = .ok (.getfield 15, 3) := by decide +kernel
theorem dX4_speak_35 : decode cX4_speak 35 = .ok (.iload_n 3, 1) := by decide +kernel
theorem dX4_speak_36 : decode cX4_speak 36 = .ok (.dup2, 1) := by decide +kernel
theorem dX4_speak_37 : decode cX4_speak 37 = .ok (.iaload, 1) := by decide +kernel
theorem dX4_speak_38 : decode cX4_speak 38 = .ok (.iconst 1, 1) := by decide +kernel
theorem dX4_speak_39 : decode cX4_speak 39 = .ok (.iadd, 1) := by decide +kernel
theorem dX4_speak_40 : decode cX4_speak 40 = .ok (.iastore, 1) := by decide +kernel
theorem dX4_speak_41 : decode cX4_speak 41 = .ok (.iinc 3 1, 3) := by decide +kernel
theorem dX4_speak_44 : decode cX4_speak 44 = .ok (.goto (-37), 3) := by decide +kernel
theorem dX4_speak_47 : decode cX4_speak 47 = .ok (.aload_n 0, 1) := by decide +kernel
theorem dX4_speak_48 : decode cX4_speak 48 = .ok (.aload_n 0, 1) := by decide +kernel
theorem dX4_speak_49 : decode cX4_speak 49 = .ok (.aload_n 1, 1) := by decide +kernel
theorem dX4_speak_50 : decode cX4_speak 50 = .ok (.invokevirtual 38, 3) := by decide +kernel
theorem dX4_speak_53 : decode cX4_speak 53 = .ok (.putfield 19, 3) := by decide +kernel
theorem dX4_speak_56 : decode cX4_speak 56 = .ok (.return_, 1) := by decide +kernel
theorem dX4_row_0 : decode cX4_row 0 = .ok (.aload_n 1, 1) := by decide +kernel
theorem dX4_row_1 : decode cX4_row 1 = .ok (.aload_n 0, 1) := by decide +kernel
theorem dX4_row_2 : decode cX4_row 2 = .ok (.getfield 26, 3) := by decide +kernel
theorem dX4_row_5 : decode cX4_row 5 = .ok (.invokevirtual 42, 3) := by decide +kernel
theorem dX4_row_8 : decode cX4_row 8 = .ok (.ifCond .eq 4, 3) := by decide +kernel
theorem dX4_row_11 : decode cX4_row 11 = .ok (.return_, 1) := by decide +kernel
theorem dX4_row_12 : decode cX4_row 12 = .ok (.aload_n 1, 1) := by decide +kernel
theorem dX4_row_13 : decode cX4_row 13 = .ok (.aload_n 0, 1) := by decide +kernel
theorem dX4_row_14 : decode cX4_row 14 = .ok (.getfield 29, 3) := by decide +kernel
theorem dX4_row_17 : decode cX4_row 17 = .ok (.invokevirtual 48, 3) := by decide +kernel
theorem dX4_row_20 : decode cX4_row 20 = .ok (.istore_n 2, 1) := by decide +kernel
theorem dX4_row_21 : decode cX4_row 21 = .ok (.iload_n 2, 1) := by decide +kernel
theorem dX4_row_22 : decode cX4_row 22 = .ok (.bipush (-9), 2) := by decide +kernel
theorem dX4_row_24 : decode cX4_row 24 = .ok (.if_icmp .eq 26, 3) := by decide +kernel
theorem dX4_row_27 : decode cX4_row 27 = .ok (.aload_n 0, 1) := by decide +kernel
theorem dX4_row_28 : decode cX4_row 28 = .ok (.iconst 0, 1) := by decide +kernel
theorem dX4_row_29 : decode cX4_row 29 = .ok (.aload_n 0, 1) := by decide +kernel
theorem dX4_row_30 : decode cX4_row 30 = .ok (.getfield 26, 3) := by decide +kernel
theorem dX4_row_33 : decode cX4_row 33 = .ok (.iload_n 2, 1) := by decide +kernel
theorem dX4_row_34 : decode cX4_row 34 = .ok (.iadd, 1) := by decide +kernel
theorem dX4_row_35 : decode cX4_row 35 = .ok (.aload_n 1, 1) := by decide +kernel
theorem dX4_row_36 : decode cX4_row 36 = .ok (.aload_n 0, 1) := by decide +kernel
theorem dX4_row_37 : decode cX4_row 37 = .ok (.getfield 26, 3) := by decide +kernel
theorem dX4_row_40 : decode cX4_row 40 = .ok (.invokevirtual 52, 3) := by decide +kernel
theorem dX4_row_43 : decode cX4_row 43 = .ok (.isub, 1) := by decide +kernel
theorem dX4_row_44 : decode cX4_row 44 = .ok (.invokestatic 55, 3) := by decide +kernel
theorem dX4_row_47 : decode cX4_row 47 = .ok (.putfield 26, 3) := by decide +kernel
theorem dX4_row_50 : decode cX4_row 50 = .ok (.aload_n 0, 1) := by decide +kernel
theorem dX4_row_51 : decode cX4_row 51 = .ok (.aload_n 1, 1) := by decide +kernel
theorem dX4_row_52 : decode cX4_row 52 = .ok (.invokevirtual 61, 3) := by decide +kernel
theorem dX4_row_55 : decode cX4_row 55 = .ok (.return_, 1) := by decide +kernel
theorem dX4_passTime_0 : decode cX4_passTime 0 = .ok (.aload_n 0, 1) := by decide +kernel
theorem dX4_passTime_1 : decode cX4_passTime 1 = .ok (.dup, 1) := by decide +kernel
theorem dX4_passTime_2 : decode cX4_passTime 2 = .ok (.getfield 23, 3) := by decide +kernel
theorem dX4_passTime_5 : decode cX4_passTime 5 = .ok (.iconst 1, 1) := by decide +kernel
theorem dX4_passTime_6 : decode cX4_passTime 6 = .ok (.iadd, 1) := by decide +kernel
theorem dX4_passTime_7 : decode cX4_passTime 7 = .ok (.putfield 23, 3) := by decide +kernel
theorem dX4_passTime_10 : decode cX4_passTime 10 = .ok (.aload_n 0, 1) := by decide +kernel
theorem dX4_passTime_11 : decode cX4_passTime 11 = .ok (.getfield 23, 3) := by decide +kernel
theorem dX4_passTime_14 : decode cX4_passTime 14 = .ok (.aload_n 0, 1) := by decide +kernel
theorem dX4_passTime_15 : decode cX4_passTime 15 = .ok (.getfield 19, 3) := by decide +kernel
theorem dX4_passTime_18 : decode cX4_passTime 18 = .ok (.if_icmp .lt 17, 3) := by decide +kernel
theorem dX4_passTime_21 : decode cX4_passTime 21 = .ok (.aload_n 0, 1) := by decide +kernel
theorem dX4_passTime_22 : decode cX4_passTime 22 = .ok (.aload_n 1, 1) := by decide +kernel
theorem dX4_passTime_23 : decode cX4_passTime 23 = .ok (.aload_n 0, 1) := by decide +kernel
theorem dX4_passTime_24 : decode cX4_passTime 24 = .ok (.aload_n 1, 1) := by decide +kernel
theorem dX4_passTime_25 : decode cX4_passTime 25 = .ok (.aload_n 0, 1) := by decide +kernel
theorem dX4_passTime_26 : decode cX4_passTime 26 = .ok (.getfield 23, 3) := by decide +kernel
theorem dX4_passTime_29 : decode cX4_passTime 29 = .ok (.invokevirtual 65, 3) := by decide +kernel
theorem dX4_passTime_32 : decode cX4_passTime 32 = .ok (.invokevirtual 69, 3) := by decide +kernel
theorem dX4_passTime_35 : decode cX4_passTime 35 = .ok (.return_, 1) := by decide +kernel
theorem dX4_rowTillOver_0 : decode cX4_rowTillOver 0 = .ok (.iconst 0, 1) := by decide +kernel
theorem dX4_rowTillOver_1 : decode cX4_rowTillOver 1 = .ok (.istore_n 3, 1) := by decide +kernel
theorem dX4_rowTillOver_2 : decode cX4_rowTillOver 2 = .ok (.iload_n 3, 1) := by decide +kernel
theorem dX4_rowTillOver_3 : decode cX4_rowTillOver 3 = .ok (.iload_n 2, 1) := by decide +kernel
theorem dX4_rowTillOver_4 : decode cX4_rowTillOver 4 = .ok (.if_icmp .gt 27, 3) := by decide +kernel
theorem dX4_rowTillOver_7 : decode cX4_rowTillOver 7 = .ok (.aload_n 1, 1) := by decide +kernel
theorem dX4_rowTillOver_8 : decode cX4_rowTillOver 8 = .ok (.aload_n 0, 1) := by decide +kernel
theorem dX4_rowTillOver_9 : decode cX4_rowTillOver 9 = .ok (.getfield 26, 3) := by decide +kernel
theorem dX4_rowTillOver_12 : decode cX4_rowTillOver 12 = .ok (.invokevirtual 42, 3) := by decide +kernel
theorem dX4_rowTillOver_15 : decode cX4_rowTillOver 15 = .ok (.ifCond .eq 5, 3) := by decide +kernel
theorem dX4_rowTillOver_18 : decode cX4_rowTillOver 18 = .ok (.iload_n 3, 1) := by decide +kernel
theorem dX4_rowTillOver_19 : decode cX4_rowTillOver 19 = .ok (.ireturn, 1) := by decide +kernel
theorem dX4_rowTillOver_20 : decode cX4_rowTillOver 20 = .ok (.aload_n 0, 1) := by decide +kernel
theorem dX4_rowTillOver_21 : decode cX4_rowTillOver 21 = .ok (.aload_n 1, 1) := by decide +kernel
theorem dX4_rowTillOver_22 : decode cX4_rowTillOver 22 = .ok (.invokevirtual 73, 3) := by decide +kernel
theorem dX4_rowTillOver_25 : decode cX4_rowTillOver 25 = .ok (.iinc 3 1, 3) := by decide +kernel
theorem dX4_rowTillOver_28 : decode cX4_rowTillOver 28 = .ok (.goto (-26), 3) := by decide +kernel
theorem dX4_rowTillOver_31 : decode cX4_rowTillOver 31 = .ok (.bipush (-9), 2) := by decide +kernel
theorem dX4_rowTillOver_33 : decode cX4_rowTillOver 33 = .ok (.ireturn, 1) := by decide +kernel
theorem dX4_findNextDue_0 : decode cX4_findNextDue 0 = .ok (.ldc 18, 2) := by decide +kernel
theorem dX4_findNextDue_2 : decode cX4_findNextDue 2 = .ok (.istore_n 2, 1) := by decide +kernel
theorem dX4_findNextDue_3 : decode cX4_findNextDue 3 = .ok (.iconst 0, 1) := by decide +kernel
theorem dX4_findNextDue_4 : decode cX4_findNextDue 4 = .ok (.istore_n 3, 1) := by decide +kernel
theorem dX4_findNextDue_5 : decode cX4_findNextDue 5 = .ok (.iload_n 3, 1) := by decide +kernel
theorem dX4_findNextDue_6 : decode cX4_findNextDue 6 = .ok (.aload_n 1, 1) := by decide +kernel
theorem dX4_findNextDue_7 : decode cX4_findNextDue 7 = .ok (.getfield 76, 3) := by decide +kernel
theorem dX4_findNextDue_10 : decode cX4_findNextDue 10 = .ok (.if_icmp .ge 33, 3) := by decide +kernel
theorem dX4_findNextDue_13 : decode cX4_findNextDue 13 = .ok (.iload_n 3, 1) := by decide +kernel
theorem dX4_findNextDue_14 : decode cX4_findNextDue 14 = .ok (.bipush 6, 2) := by decide +kernel
theorem dX4_findNextDue_16 : decode cX4_findNextDue 16 = .ok (.if_icmp .ge 27, 3) := by decide +kernel
theorem dX4_findNextDue_19 : decode cX4_findNextDue 19 = .ok (.iload_n 2, 1) := by decide +kernel
theorem dX4_findNextDue_20 : decode cX4_findNextDue 20 = .ok (.aload_n 0, 1) := by decide +kernel
theorem dX4_findNextDue_21 : decode cX4_findNextDue 21 = .ok (.getfield 9, 3) := by decide +kernel
theorem dX4_findNextDue_24 : decode cX4_findNextDue 24 = .ok (.iload_n 3, 1) := by decide +kernel
theorem dX4_findNextDue_25 : decode cX4_findNextDue 25 = .ok (.iaload, 1) := by decide +kernel
theorem dX4_findNextDue_26 : decode cX4_findNextDue 26 = .ok (.aload_n 1, 1) := by decide +kernel
theorem dX4_findNextDue_27 : decode cX4_findNextDue 27 = .ok (.getfield 79, 3) := by decide +kernel
theorem dX4_findNextDue_30 : decode cX4_findNextDue 30 = .ok (.iload_n 3, 1) := by decide +kernel
theorem dX4_findNextDue_31 : decode cX4_findNextDue 31 = .ok (.iaload, 1) := by decide +kernel
theorem dX4_findNextDue_32 : decode cX4_findNextDue 32 = .ok (.iadd, 1) := by decide +kernel
theorem dX4_findNextDue_33 : decode cX4_findNextDue 33 = .ok (.invokestatic 82, 3) := by decide +kernel
theorem dX4_findNextDue_36 : decode cX4_findNextDue 36 = .ok (.istore_n 2, 1) := by decide +kernel
theorem dX4_findNextDue_37 : decode cX4_findNextDue 37 = .ok (.iinc 3 1, 3) := by decide +kernel
theorem dX4_findNextDue_40 : decode cX4_findNextDue 40 = .ok (.goto (-35), 3) := by decide +kernel
theorem dX4_findNextDue_43 : decode cX4_findNextDue 43 = .ok (.iload_n 2, 1) := by decide +kernel
theorem dX4_findNextDue_44 : decode cX4_findNextDue 44 = .ok (.ireturn, 1) := by decide +kernel
theorem dX4_whoIsDueAt_0 : decode cX4_whoIsDueAt 0 = .ok (.iconst 0, 1) := by decide +kernel
theorem dX4_whoIsDueAt_1 : decode cX4_whoIsDueAt 1 = .ok (.istore_n 3, 1) := by decide +kernel
theorem dX4_whoIsDueAt_2 : decode cX4_whoIsDueAt 2 = .ok (.iconst 0, 1) := by decide +kernel
theorem dX4_whoIsDueAt_3 : decode cX4_whoIsDueAt 3 = .ok (.istore 4, 2) := by decide +kernel
theorem dX4_whoIsDueAt_5 : decode cX4_whoIsDueAt 5 = .ok (.iload 4, 2) := by decide +kernel
theorem dX4_whoIsDueAt_7 : decode cX4_whoIsDueAt 7 = .ok (.aload_n 1, 1) := by decide +kernel
theorem dX4_whoIsDueAt_8 : decode cX4_whoIsDueAt 8 = .ok (.getfield 76, 3) := by decide +kernel
theorem dX4_whoIsDueAt_11 : decode cX4_whoIsDueAt 11 = .ok (.if_icmp .ge 42, 3) := by decide +kernel
theorem dX4_whoIsDueAt_14 : decode cX4_whoIsDueAt 14 = .ok (.iload 4, 2) := by decide +kernel
theorem dX4_whoIsDueAt_16 : decode cX4_whoIsDueAt 16 = .ok (.bipush 6, 2) := by decide +kernel
theorem dX4_whoIsDueAt_18 : decode cX4_whoIsDueAt 18 = .ok (.if_icmp .ge 35, 3) := by decide +kernel
theorem dX4_whoIsDueAt_21 : decode cX4_whoIsDueAt 21 = .ok (.aload_n 0, 1) := by decide +kernel
theorem dX4_whoIsDueAt_22 : decode cX4_whoIsDueAt 22 = .ok (.getfield 9, 3) := by decide +kernel
theorem dX4_whoIsDueAt_25 : decode cX4_whoIsDueAt 25 = .ok (.iload 4, 2) := by decide +kernel
theorem dX4_whoIsDueAt_27 : decode cX4_whoIsDueAt 27 = .ok (.iaload, 1) := by decide +kernel
theorem dX4_whoIsDueAt_28 : decode cX4_whoIsDueAt 28 = .ok (.aload_n 1, 1) := by decide +kernel
theorem dX4_whoIsDueAt_29 : decode cX4_whoIsDueAt 29 = .ok (.getfield 79, 3) := by decide +kernel
theorem dX4_whoIsDueAt_32 : decode cX4_whoIsDueAt 32 = .ok (.iload 4, 2) := by decide +kernel
theorem dX4_whoIsDueAt_34 : decode cX4_whoIsDueAt 34 = .ok (.iaload, 1) := by decide +kernel
theorem dX4_whoIsDueAt_35 : decode cX4_whoIsDueAt 35 = .ok (.iadd, 1) := by decide +kernel
theorem dX4_whoIsDueAt_36 : decode cX4_whoIsDueAt 36 = .ok (.iload_n 2, 1) := by decide +kernel
theorem dX4_whoIsDueAt_37 : decode cX4_whoIsDueAt 37 = .ok (.if_icmp .gt 10, 3) := by decide +kernel
theorem dX4_whoIsDueAt_40 : decode cX4_whoIsDueAt 40 = .ok (.iload_n 3, 1) := by decide +kernel
theorem dX4_whoIsDueAt_41 : decode cX4_whoIsDueAt 41 = .ok (.iconst 1, 1) := by decide +kernel
theorem dX4_whoIsDueAt_42 : decode cX4_whoIsDueAt 42 = .ok (.iload 4, 2) := by decide +kernel
theorem dX4_whoIsDueAt_44 : decode cX4_whoIsDueAt 44 = .ok (.ishl, 1) := by decide +kernel
theorem dX4_whoIsDueAt_45 : decode cX4_whoIsDueAt 45 = .ok (.ior, 1) := by decide +kernel
theorem dX4_whoIsDueAt_46 : decode cX4_whoIsDueAt 46 = .ok (.istore_n 3, 1) := by decide +kernel
theorem dX4_whoIsDueAt_47 : decode cX4_whoIsDueAt 47 = .ok (.iinc 4 1, 3) := by decide +kernel
theorem dX4_whoIsDueAt_50 : decode cX4_whoIsDueAt 50 = .ok (.goto (-45), 3) := by decide +kernel
theorem dX4_whoIsDueAt_53 : decode cX4_whoIsDueAt 53 = .ok (.iload_n 3, 1) := by decide +kernel
theorem dX4_whoIsDueAt_54 : decode cX4_whoIsDueAt 54 = .ok (.ireturn, 1) := by decide +kernel
theorem dX4_silenceOf_0 : decode cX4_silenceOf 0 = .ok (.iload_n 1, 1) := by decide +kernel
theorem dX4_silenceOf_1 : decode cX4_silenceOf 1 = .ok (.ifCond .lt 9, 3) := by decide +kernel
theorem dX4_silenceOf_4 : decode cX4_silenceOf 4 = .ok (.iload_n 1, 1) := by decide +kernel
theorem dX4_silenceOf_5 : decode cX4_silenceOf 5 = .ok (.bipush 6, 2) := by decide +kernel
theorem dX4_silenceOf_7 : decode cX4_silenceOf 7 = .ok (.if_icmp .lt 7, 3) := by decide +kernel
theorem dX4_silenceOf_10 : decode cX4_silenceOf 10 = .ok (.iconst 0, 1) := by decide +kernel
theorem dX4_silenceOf_11 : decode cX4_silenceOf 11 = .ok (.goto 14, 3) := by decide +kernel
theorem dX4_silenceOf_14 : decode cX4_silenceOf 14 = .ok (.aload_n 0, 1) := by decide +kernel
theorem dX4_silenceOf_15 : decode cX4_silenceOf 15 = .ok (.getfield 23, 3) := by decide +kernel
theorem dX4_silenceOf_18 : decode cX4_silenceOf 18 = .ok (.aload_n 0, 1) := by decide +kernel
theorem dX4_silenceOf_19 : decode cX4_silenceOf 19 = .ok (.getfield 9, 3) := by decide +kernel
theorem dX4_silenceOf_22 : decode cX4_silenceOf 22 = .ok (.iload_n 1, 1) := by decide +kernel
theorem dX4_silenceOf_23 : decode cX4_silenceOf 23 = .ok (.iaload, 1) := by decide +kernel
theorem dX4_silenceOf_24 : decode cX4_silenceOf 24 = .ok (.isub, 1) := by decide +kernel
theorem dX4_silenceOf_25 : decode cX4_silenceOf 25 = .ok (.ireturn, 1) := by decide +kernel
theorem dX4_allWords_0 : decode cX4_allWords 0 = .ok (.iconst 0, 1) := by decide +kernel
theorem dX4_allWords_1 : decode cX4_allWords 1 = .ok (.istore_n 1, 1) := by decide +kernel
theorem dX4_allWords_2 : decode cX4_allWords 2 = .ok (.iconst 0, 1) := by decide +kernel
theorem dX4_allWords_3 : decode cX4_allWords 3 = .ok (.istore_n 2, 1) := by decide +kernel
theorem dX4_allWords_4 : decode cX4_allWords 4 = .ok (.iload_n 2, 1) := by decide +kernel
theorem dX4_allWords_5 : decode cX4_allWords 5 = .ok (.bipush 6, 2) := by decide +kernel
theorem dX4_allWords_7 : decode cX4_allWords 7 = .ok (.if_icmp .ge 18, 3) := by decide +kernel
theorem dX4_allWords_10 : decode cX4_allWords 10 = .ok (.iload_n 1, 1) := by decide +kernel
theorem dX4_allWords_11 : decode cX4_allWords 11 = .ok (.aload_n 0, 1) := by decide +kernel
theorem dX4_allWords_12 : decode cX4_allWords 12 = .ok (.getfield 15, 3) := by decide +kernel
theorem dX4_allWords_15 : decode cX4_allWords 15 = .ok (.iload_n 2, 1) := by decide +kernel
theorem dX4_allWords_16 : decode cX4_allWords 16 = .ok (.iaload, 1) := by decide +kernel
theorem dX4_allWords_17 : decode cX4_allWords 17 = .ok (.iadd, 1) := by decide +kernel
theorem dX4_allWords_18 : decode cX4_allWords 18 = .ok (.istore_n 1, 1) := by decide +kernel
theorem dX4_allWords_19 : decode cX4_allWords 19 = .ok (.iinc 2 1, 3) := by decide +kernel
theorem dX4_allWords_22 : decode cX4_allWords 22 = .ok (.goto (-18), 3) := by decide +kernel
theorem dX4_allWords_25 : decode cX4_allWords 25 = .ok (.iload_n 1, 1) := by decide +kernel
theorem dX4_allWords_26 : decode cX4_allWords 26 = .ok (.ireturn, 1) := by decide +kernel
theorem dX4_soundsLike_0 : decode cX4_soundsLike 0 = .ok (.aload_n 0, 1) := by decide +kernel
theorem dX4_soundsLike_1 : decode cX4_soundsLike 1 = .ok (.getfield 29, 3) := by decide +kernel
theorem dX4_soundsLike_4 : decode cX4_soundsLike 4 = .ok (.aload_n 2, 1) := by decide +kernel
theorem dX4_soundsLike_5 : decode cX4_soundsLike 5 = .ok (.getfield 29, 3) := by decide +kernel
theorem dX4_soundsLike_8 : decode cX4_soundsLike 8 = .ok (.if_icmp .ne 7, 3) := by decide +kernel
theorem dX4_soundsLike_11 : decode cX4_soundsLike 11 = .ok (.iconst 1, 1) := by decide +kernel
theorem dX4_soundsLike_12 : decode cX4_soundsLike 12 = .ok (.goto 4, 3) := by decide +kernel
theorem dX4_soundsLike_15 : decode cX4_soundsLike 15 = .ok (.iconst 0, 1) := by decide +kernel
theorem dX4_soundsLike_16 : decode cX4_soundsLike 16 = .ok (.istore_n 3, 1) := by decide +kernel
theorem dX4_soundsLike_17 : decode cX4_soundsLike 17 = .ok (.iconst 0, 1) := by decide +kernel
theorem dX4_soundsLike_18 : decode cX4_soundsLike 18 = .ok (.istore 4, 2) := by decide +kernel
theorem dX4_soundsLike_20 : decode cX4_soundsLike 20 = .ok (.iload 4, 2) := by decide +kernel
theorem dX4_soundsLike_22 : decode cX4_soundsLike 22 = .ok (.aload_n 1, 1) := by decide +kernel
theorem dX4_soundsLike_23 : decode cX4_soundsLike 23 = .ok (.getfield 76, 3) := by decide +kernel
theorem dX4_soundsLike_26 : decode cX4_soundsLike 26 = .ok (.if_icmp .ge 34, 3) := by decide +kernel
theorem dX4_soundsLike_29 : decode cX4_soundsLike 29 = .ok (.iload_n 3, 1) := by decide +kernel
theorem dX4_soundsLike_30 : decode cX4_soundsLike 30 = .ok (.ifCond .eq 30, 3) := by decide +kernel
theorem dX4_soundsLike_33 : decode cX4_soundsLike 33 = .ok (.aload_n 0, 1) := by decide +kernel
theorem dX4_soundsLike_34 : decode cX4_soundsLike 34 = .ok (.iload 4, 2) := by decide +kernel
theorem dX4_soundsLike_36 : decode cX4_soundsLike 36 = .ok (.invokevirtual 85, 3) := by decide +kernel
theorem dX4_soundsLike_39 : decode cX4_soundsLike 39 = .ok (.aload_n 2, 1) := by decide +kernel
theorem dX4_soundsLike_40 : decode cX4_soundsLike 40 = .ok (.iload 4, 2) := by decide +kernel
theorem dX4_soundsLike_42 : decode cX4_soundsLike 42 = .ok (.invokevirtual 85, 3) := by decide +kernel
theorem dX4_soundsLike_45 : decode cX4_soundsLike 45 = .ok (.if_icmp .ne 7, 3) := by decide +kernel
theorem dX4_soundsLike_48 : decode cX4_soundsLike 48 = .ok (.iconst 1, 1) := by decide +kernel
theorem dX4_soundsLike_49 : decode cX4_soundsLike 49 = .ok (.goto 4, 3) := by decide +kernel
theorem dX4_soundsLike_52 : decode cX4_soundsLike 52 = .ok (.iconst 0, 1) := by decide +kernel
theorem dX4_soundsLike_53 : decode cX4_soundsLike 53 = .ok (.istore_n 3, 1) := by decide +kernel
theorem dX4_soundsLike_54 : decode cX4_soundsLike 54 = .ok (.iinc 4 1, 3) := by decide +kernel
theorem dX4_soundsLike_57 : decode cX4_soundsLike 57 = .ok (.goto (-37), 3) := by decide +kernel
theorem dX4_soundsLike_60 : decode cX4_soundsLike 60 = .ok (.iload_n 3, 1) := by decide +kernel
theorem dX4_soundsLike_61 : decode cX4_soundsLike 61 = .ok (.ireturn, 1) := by decide +kernel
theorem dX5_init_0 : decode cX5_init 0 = .ok (.aload_n 0, 1) := by decide +kernel
theorem dX5_init_1 : decode cX5_init 1 = .ok (.invokespecial 1, 3) := by decide +kernel
theorem dX5_init_4 : decode cX5_init 4 = .ok (.return_, 1) := by decide +kernel
theorem dX5_worth_0 : decode cX5_worth 0 = .ok (.aload 4, 2) := by decide +kernel
theorem dX5_worth_2 : decode cX5_worth 2 = .ok (.iconst 0, 1) := by decide +kernel
theorem dX5_worth_3 : decode cX5_worth 3 = .ok (.dup2, 1) := by decide +kernel
theorem dX5_worth_4 : decode cX5_worth 4 = .ok (.laload, 1) := by decide +kernel
theorem dX5_worth_5 : decode cX5_worth 5 = .ok (.ldc2_w 7, 3) := by decide +kernel
theorem dX5_worth_8 : decode cX5_worth 8 = .ok (.ladd, 1) := by decide +kernel
theorem dX5_worth_9 : decode cX5_worth 9 = .ok (.lastore, 1) := by decide +kernel
theorem dX5_worth_10 : decode cX5_worth 10 = .ok (.aload_n 0, 1) := by decide +kernel
theorem dX5_worth_11 : decode cX5_worth 11 = .ok (.aload_n 1, 1) := by decide +kernel
theorem dX5_worth_12 : decode cX5_worth 12 = .ok (.aload_n 2, 1) := by decide +kernel
theorem dX5_worth_13 : decode cX5_worth 13 = .ok (.iload_n 3, 1) := by decide +kernel
theorem dX5_worth_14 : decode cX5_worth 14 = .ok (.aload 4, 2) := by decide +kernel
theorem dX5_worth_16 : decode cX5_worth 16 = .ok (.invokespecial 9, 3) := by decide +kernel
theorem dX5_worth_19 : decode cX5_worth 19 = .ok (.aload_n 2, 1) := by decide +kernel
theorem dX5_worth_20 : decode cX5_worth 20 = .ok (.iload_n 3, 1) := by decide +kernel
theorem dX5_worth_21 : decode cX5_worth 21 = .ok (.invokevirtual 13, 3) := by decide +kernel
theorem dX5_worth_24 : decode cX5_worth 24 = .ok (.iadd, 1) := by decide +kernel
theorem dX5_worth_25 : decode cX5_worth 25 = .ok (.ireturn, 1) := by decide +kernel
theorem dX6_init_0 : decode cX6_init 0 = .ok (.aload_n 0, 1) := by decide +kernel
theorem dX6_init_1 : decode cX6_init 1 = .ok (.invokespecial 1, 3) := by decide +kernel
theorem dX6_init_4 : decode cX6_init 4 = .ok (.return_, 1) := by decide +kernel
theorem dX6_worth_0 : decode cX6_worth 0 = .ok (.aload 4, 2) := by decide +kernel
theorem dX6_worth_2 : decode cX6_worth 2 = .ok (.iconst 0, 1) := by decide +kernel
theorem dX6_worth_3 : decode cX6_worth 3 = .ok (.dup2, 1) := by decide +kernel
theorem dX6_worth_4 : decode cX6_worth 4 = .ok (.laload, 1) := by decide +kernel
theorem dX6_worth_5 : decode cX6_worth 5 = .ok (.ldc2_w 7, 3) := by decide +kernel
theorem dX6_worth_8 : decode cX6_worth 8 = .ok (.ladd, 1) := by decide +kernel
theorem dX6_worth_9 : decode cX6_worth 9 = .ok (.lastore, 1) := by decide +kernel
theorem dX6_worth_10 : decode cX6_worth 10 = .ok (.aload_n 0, 1) := by decide +kernel
theorem dX6_worth_11 : decode cX6_worth 11 = .ok (.aload_n 1, 1) := by decide +kernel
theorem dX6_worth_12 : decode cX6_worth 12 = .ok (.aload_n 2, 1) := by decide +kernel
theorem dX6_worth_13 : decode cX6_worth 13 = .ok (.iload_n 3, 1) := by decide +kernel
theorem dX6_worth_14 : decode cX6_worth 14 = .ok (.aload 4, 2) := by decide +kernel
theorem dX6_worth_16 : decode cX6_worth 16 = .ok (.invokespecial 9, 3) := by decide +kernel
theorem dX6_worth_19 : decode cX6_worth 19 = .ok (.iload_n 3, 1) := by decide +kernel
theorem dX6_worth_20 : decode cX6_worth 20 = .ok (.iadd, 1) := by decide +kernel
theorem dX6_worth_21 : decode cX6_worth 21 = .ok (.ireturn, 1) := by decide +kernel
theorem dX7_init_0 : decode cX7_init 0 = .ok (.aload_n 0, 1) := by decide +kernel
theorem dX7_init_1 : decode cX7_init 1 = .ok (.invokespecial 1, 3) := by decide +kernel
theorem dX7_init_4 : decode cX7_init 4 = .ok (.return_, 1) := by decide +kernel
theorem dX7_worth_0 : decode cX7_worth 0 = .ok (.aload 4, 2) := by decide +kernel
theorem dX7_worth_2 : decode cX7_worth 2 = .ok (.iconst 0, 1) := by decide +kernel
theorem dX7_worth_3 : decode cX7_worth 3 = .ok (.dup2, 1) := by decide +kernel
theorem dX7_worth_4 : decode cX7_worth 4 = .ok (.laload, 1) := by decide +kernel
theorem dX7_worth_5 : decode cX7_worth 5 = .ok (.lconst 1, 1) := by decide +kernel
theorem dX7_worth_6 : decode cX7_worth 6 = .ok (.ladd, 1) := by decide +kernel
theorem dX7_worth_7 : decode cX7_worth 7 = .ok (.lastore, 1) := by decide +kernel
theorem dX7_worth_8 : decode cX7_worth 8 = .ok (.aload_n 1, 1) := by decide +kernel
theorem dX7_worth_9 : decode cX7_worth 9 = .ok (.getfield 7, 3) := by decide +kernel
theorem dX7_worth_12 : decode cX7_worth 12 = .ok (.iload_n 3, 1) := by decide +kernel
theorem dX7_worth_13 : decode cX7_worth 13 = .ok (.iaload, 1) := by decide +kernel
theorem dX7_worth_14 : decode cX7_worth 14 = .ok (.ireturn, 1) := by decide +kernel
theorem dX8_init_0 : decode cX8_init 0 = .ok (.aload_n 0, 1) := by decide +kernel
theorem dX8_init_1 : decode cX8_init 1 = .ok (.invokespecial 1, 3) := by decide +kernel
theorem dX8_init_4 : decode cX8_init 4 = .ok (.aload_n 0, 1) := by decide +kernel
theorem dX8_init_5 : decode cX8_init 5 = .ok (.bipush 10, 2) := by decide +kernel
theorem dX8_init_7 : decode cX8_init 7 = .ok (.anewarray 9, 3) := by decide +kernel
theorem dX8_init_10 : decode cX8_init 10 = .ok (.putfield 11, 3) := by decide +kernel
theorem dX8_init_13 : decode cX8_init 13 = .ok (.iconst 0, 1) := by decide +kernel
theorem dX8_init_14 : decode cX8_init 14 = .ok (.istore_n 1, 1) := by decide +kernel
theorem dX8_init_15 : decode cX8_init 15 = .ok (.iload_n 1, 1) := by decide +kernel
theorem dX8_init_16 : decode cX8_init 16 = .ok (.bipush 10, 2) := by decide +kernel
theorem dX8_init_18 : decode cX8_init 18 = .ok (.if_icmp .ge 22, 3) := by decide +kernel
theorem dX8_init_21 : decode cX8_init 21 = .ok (.aload_n 0, 1) := by decide +kernel
theorem dX8_init_22 : decode cX8_init 22 = .ok (.getfield 11, 3) := by decide +kernel
theorem dX8_init_25 : decode cX8_init 25 = .ok (.iload_n 1, 1) := by decide +kernel
theorem dX8_init_26 : decode cX8_init 26 = .ok (.new 9, 3) := by decide +kernel
theorem dX8_init_29 : decode cX8_init 29 = .ok (.dup, 1) := by decide +kernel
theorem dX8_init_30 : decode cX8_init 30 = .ok (.invokespecial 15, 3) := by decide +kernel
theorem dX8_init_33 : decode cX8_init 33 = .ok (.aastore, 1) := by decide +kernel
theorem dX8_init_34 : decode cX8_init 34 = .ok (.iinc 1 1, 3) := by decide +kernel
theorem dX8_init_37 : decode cX8_init 37 = .ok (.goto (-22), 3) := by decide +kernel
theorem dX8_init_40 : decode cX8_init 40 = .ok (.return_, 1) := by decide +kernel
theorem dX8_lose_0 : decode cX8_lose 0 = .ok (.aload_n 0, 1) := by decide +kernel
theorem dX8_lose_1 : decode cX8_lose 1 = .ok (.iconst 0, 1) := by decide +kernel
theorem dX8_lose_2 : decode cX8_lose 2 = .ok (.putfield 16, 3) := by decide +kernel
theorem dX8_lose_5 : decode cX8_lose 5 = .ok (.return_, 1) := by decide +kernel
theorem dX8_add_0 : decode cX8_add 0 = .ok (.aload_n 0, 1) := by decide +kernel
theorem dX8_add_1 : decode cX8_add 1 = .ok (.aload_n 0, 1) := by decide +kernel
theorem dX8_add_2 : decode cX8_add 2 = .ok (.getfield 20, 3) := by decide +kernel
theorem dX8_add_5 : decode cX8_add 5 = .ok (.iconst 1, 1) := by decide +kernel
theorem dX8_add_6 : decode cX8_add 6 = .ok (.iadd, 1) := by decide +kernel
theorem dX8_add_7 : decode cX8_add 7 = .ok (.bipush 10, 2) := by decide +kernel
theorem dX8_add_9 : decode cX8_add 9 = .ok (.irem, 1) := by decide +kernel
theorem dX8_add_10 : decode cX8_add 10 = .ok (.putfield 20, 3) := by decide +kernel
theorem dX8_add_13 : decode cX8_add 13 = .ok (.aload_n 0, 1) := by decide +kernel
theorem dX8_add_14 : decode cX8_add 14 = .ok (.getfield 11, 3) := by decide +kernel
theorem dX8_add_17 : decode cX8_add 17 = .ok (.aload_n 0, 1) := by decide +kernel
theorem dX8_add_18 : decode cX8_add 18 = .ok (.getfield 20, 3) := by decide +kernel
theorem dX8_add_21 : decode cX8_add 21 = .ok (.aaload, 1) := by decide +kernel
theorem dX8_add_22 : decode cX8_add 22 = .ok (.aload_n 1, 1) := by decide +kernel
theorem dX8_add_23 : decode cX8_add 23 = .ok (.invokevirtual 23, 3) := by decide +kernel
theorem dX8_add_26 : decode cX8_add 26 = .ok (.aload_n 0, 1) := by decide +kernel
theorem dX8_add_27 : decode cX8_add 27 = .ok (.aload_n 0, 1) := by decide +kernel
theorem dX8_add_28 : decode cX8_add 28 = .ok (.getfield 16, 3) := by decide +kernel
theorem dX8_add_31 : decode cX8_add 31 = .ok (.iconst 1, 1) := by decide +kernel
theorem dX8_add_32 : decode cX8_add 32 = .ok (.iadd, 1) := by decide +kernel
theorem dX8_add_33 : decode cX8_add 33 = .ok (.bipush 10, 2) := by decide +kernel
theorem dX8_add_35 : decode cX8_add 35 = .ok (.invokestatic 27, 3) := by decide +kernel
theorem dX8_add_38 : decode cX8_add 38 = .ok (.putfield 16, 3) := by decide +kernel
theorem dX8_add_41 : decode cX8_add 41 = .ok (.return_, 1) := by decide +kernel
theorem dX8_restore_0 : decode cX8_restore 0 = .ok (.aload_n 0, 1) := by decide +kernel
theorem dX8_restore_1 : decode cX8_restore 1 = .ok (.getfield 16, 3) := by decide +kernel
theorem dX8_restore_4 : decode cX8_restore 4 = .ok (.ifCond .gt 5, 3) := by decide +kernel
theorem dX8_restore_7 : decode cX8_restore 7 = .ok (.iconst 0, 1) := by decide +kernel
theorem dX8_restore_8 : decode cX8_restore 8 = .ok (.ireturn, 1) := by decide +kernel
theorem dX8_restore_9 : decode cX8_restore 9 = .ok (.aload_n 1, 1) := by decide +kernel
theorem dX8_restore_10 : decode cX8_restore 10 = .ok (.aload_n 0, 1) := by decide +kernel
theorem dX8_restore_11 : decode cX8_restore 11 = .ok (.getfield 11, 3) := by decide +kernel
theorem dX8_restore_14 : decode cX8_restore 14 = .ok (.aload_n 0, 1) := by decide +kernel
theorem dX8_restore_15 : decode cX8_restore 15 = .ok (.getfield 20, 3) := by decide +kernel
theorem dX8_restore_18 : decode cX8_restore 18 = .ok (.aaload, 1) := by decide +kernel
theorem dX8_restore_19 : decode cX8_restore 19 = .ok (.invokevirtual 23, 3) := by decide +kernel
theorem dX8_restore_22 : decode cX8_restore 22 = .ok (.aload_n 0, 1) := by decide +kernel
theorem dX8_restore_23 : decode cX8_restore 23 = .ok (.aload_n 0, 1) := by decide +kernel
theorem dX8_restore_24 : decode cX8_restore 24 = .ok (.getfield 20, 3) := by decide +kernel
theorem dX8_restore_27 : decode cX8_restore 27 = .ok (.bipush 10, 2) := by decide +kernel
theorem dX8_restore_29 : decode cX8_restore 29 = .ok (.iadd, 1) := by decide +kernel
theorem dX8_restore_30 : decode cX8_restore 30 = .ok (.iconst 1, 1) := by decide +kernel
theorem dX8_restore_31 : decode cX8_restore 31 = .ok (.isub, 1) := by decide +kernel
theorem dX8_restore_32 : decode cX8_restore 32 = .ok (.bipush 10, 2) := by decide +kernel
theorem dX8_restore_34 : decode cX8_restore 34 = .ok (.irem, 1) := by decide +kernel
theorem dX8_restore_35 : decode cX8_restore 35 = .ok (.putfield 20, 3) := by decide +kernel
theorem dX8_restore_38 : decode cX8_restore 38 = .ok (.aload_n 0, 1) := by decide +kernel
theorem dX8_restore_39 : decode cX8_restore 39 = .ok (.dup, 1) := by decide +kernel
theorem dX8_restore_40 : decode cX8_restore 40 = .ok (.getfield 16, 3) := by decide +kernel
theorem dX8_restore_43 : decode cX8_restore 43 = .ok (.iconst 1, 1) := by decide +kernel
theorem dX8_restore_44 : decode cX8_restore 44 = .ok (.isub, 1) := by decide +kernel
theorem dX8_restore_45 : decode cX8_restore 45 = .ok (.putfield 16, 3) := by decide +kernel
theorem dX8_restore_48 : decode cX8_restore 48 = .ok (.iconst 1, 1) := by decide +kernel
theorem dX8_restore_49 : decode cX8_restore 49 = .ok (.ireturn, 1) := by decide +kernel
theorem dX9_init_0 : decode cX9_init 0 = .ok (.aload_n 0, 1) := by decide +kernel
theorem dX9_init_1 : decode cX9_init 1 = .ok (.invokespecial 3, 3) := by decide +kernel
theorem dX9_init_4 : decode cX9_init 4 = .ok (.aload_n 0, 1) := by decide +kernel
theorem dX9_init_5 : decode cX9_init 5 = .ok (.iconst 4, 1) := by decide +kernel
theorem dX9_init_6 : decode cX9_init 6 = .ok (.anewarray 9, 3) := by decide +kernel
theorem dX9_init_9 : decode cX9_init 9 = .ok (.putfield 11, 3) := by decide +kernel
theorem dX9_init_12 : decode cX9_init 12 = .ok (.aload_n 0, 1) := by decide +kernel
theorem dX9_init_13 : decode cX9_init 13 = .ok (.iconst 3, 1) := by decide +kernel
theorem dX9_init_14 : decode cX9_init 14 = .ok (.newarray .int, 2) := by decide +kernel
theorem dX9_init_16 : decode cX9_init 16 = .ok (.putfield 17, 3) := by decide +kernel
theorem dX9_init_19 : decode cX9_init 19 = .ok (.aload_n 0, 1) := by decide +kernel
theorem dX9_init_20 : decode cX9_init 20 = .ok (.iconst 3, 1) := by decide +kernel
theorem dX9_init_21 : decode cX9_init 21 = .ok (.newarray .int, 2) := by decide +kernel
theorem dX9_init_23 : decode cX9_init 23 = .ok (.putfield 21, 3) := by decide +kernel
theorem dX9_init_26 : decode cX9_init 26 = .ok (.iconst 0, 1) := by decide +kernel
theorem dX9_init_27 : decode cX9_init 27 = .ok (.istore_n 1, 1) := by decide +kernel
theorem dX9_init_28 : decode cX9_init 28 = .ok (.iload_n 1, 1) := by decide +kernel
theorem dX9_init_29 : decode cX9_init 29 = .ok (.aload_n 0, 1) := by decide +kernel
theorem dX9_init_30 : decode cX9_init 30 = .ok (.getfield 11, 3) := by decide +kernel
theorem dX9_init_33 : decode cX9_init 33 = .ok (.arraylength, 1) := by decide +kernel
theorem dX9_init_34 : decode cX9_init 34 = .ok (.if_icmp .ge 22, 3) := by decide +kernel
theorem dX9_init_37 : decode cX9_init 37 = .ok (.aload_n 0, 1) := by decide +kernel
theorem dX9_init_38 : decode cX9_init 38 = .ok (.getfield 11, 3) := by decide +kernel
theorem dX9_init_41 : decode cX9_init 41 = .ok (.iload_n 1, 1) := by decide +kernel
theorem dX9_init_42 : decode cX9_init 42 = .ok (.new 9, 3) := by decide +kernel
theorem dX9_init_45 : decode cX9_init 45 = .ok (.dup, 1) := by decide +kernel
theorem dX9_init_46 : decode cX9_init 46 = .ok (.invokespecial 24, 3) := by decide +kernel
theorem dX9_init_49 : decode cX9_init 49 = .ok (.aastore, 1) := by decide +kernel
theorem dX9_init_50 : decode cX9_init 50 = .ok (.iinc 1 1, 3) := by decide +kernel
theorem dX9_init_53 : decode cX9_init 53 = .ok (.goto (-25), 3) := by decide +kernel
theorem dX9_init_56 : decode cX9_init 56 = .ok (.return_, 1) := by decide +kernel
theorem dX9_search_0 : decode cX9_search 0 = .ok (.aload_n 0, 1) := by decide +kernel
theorem dX9_search_1 : decode cX9_search 1 = .ok (.iload_n 3, 1) := by decide +kernel
theorem dX9_search_2 : decode cX9_search 2 = .ok (.iconst 3, 1) := by decide +kernel
theorem dX9_search_3 : decode cX9_search 3 = .ok (.invokestatic 25, 3) := by decide +kernel
theorem dX9_search_6 : decode cX9_search 6 = .ok (.putfield 31, 3) := by decide +kernel
theorem dX9_search_9 : decode cX9_search 9 = .ok (.aload_n 0, 1) := by decide +kernel
theorem dX9_search_10 : decode cX9_search 10 = .ok (.iload 4, 2) := by decide +kernel
theorem dX9_search_12 : decode cX9_search 12 = .ok (.putfield 35, 3) := by decide +kernel
theorem dX9_search_15 : decode cX9_search 15 = .ok (.aload_n 0, 1) := by decide +kernel
theorem dX9_search_16 : decode cX9_search 16 = .ok (.sipush 401, 3) := by decide +kernel
theorem dX9_search_19 : decode cX9_search 19 = .ok (.putfield 38, 3) := by decide +kernel
theorem dX9_search_22 : decode cX9_search 22 = .ok (.aload_n 0, 1) := by decide +kernel
theorem dX9_search_23 : decode cX9_search 23 = .ok (.getfield 11, 3) := by decide +kernel
theorem dX9_search_26 : decode cX9_search 26 = .ok (.iconst 0, 1) := by decide +kernel
theorem dX9_search_27 : decode cX9_search 27 = .ok (.aaload, 1) := by decide +kernel
theorem dX9_search_28 : decode cX9_search 28 = .ok (.aload_n 2, 1) := by decide +kernel
theorem dX9_search_29 : decode cX9_search 29 = .ok (.invokevirtual 41, 3) := by decide +kernel
theorem dX9_search_32 : decode cX9_search 32 = .ok (.aload_n 0, 1) := by decide +kernel
theorem dX9_search_33 : decode cX9_search 33 = .ok (.aload_n 1, 1) := by decide +kernel
theorem dX9_search_34 : decode cX9_search 34 = .ok (.iconst 0, 1) := by decide +kernel
theorem dX9_search_35 : decode cX9_search 35 = .ok (.invokevirtual 45, 3) := by decide +kernel
theorem dX9_search_38 : decode cX9_search 38 = .ok (.return_, 1) := by decide +kernel
theorem dX9_tryAll_0 : decode cX9_tryAll 0 = .ok (.iload_n 2, 1) := by decide +kernel
theorem dX9_tryAll_1 : decode cX9_tryAll 1 = .ok (.ifCond .lt 20, 3) := by decide +kernel
theorem dX9_tryAll_4 : decode cX9_tryAll 4 = .ok (.iload_n 2, 1) := by decide +kernel
theorem dX9_tryAll_5 : decode cX9_tryAll 5 = .ok (.aload_n 0, 1) := by decide +kernel
theorem dX9_tryAll_6 : decode cX9_tryAll 6 = .ok (.getfield 31, 3) := by decide +kernel
theorem dX9_tryAll_9 : decode cX9_tryAll 9 = .ok (.if_icmp .gt 12, 3) := by decide +kernel
theorem dX9_tryAll_12 : decode cX9_tryAll 12 = .ok (.iload_n 2, 1) := by decide +kernel
theorem dX9_tryAll_13 : decode cX9_tryAll 13 = .ok (.aload_n 0, 1) := by decide +kernel
theorem dX9_tryAll_14 : decode cX9_tryAll 14 = .ok (.getfield 11, 3) := by decide +kernel
theorem dX9_tryAll_17 : decode cX9_tryAll 17 = .ok (.arraylength, 1) := by decide +kernel
theorem dX9_tryAll_18 : decode cX9_tryAll 18 = .ok (.if_icmp .lt 4, 3) := by decide +kernel
theorem dX9_tryAll_21 : decode cX9_tryAll 21 = .ok (.return_, 1) := by decide +kernel
theorem dX9_tryAll_22 : decode cX9_tryAll 22 = .ok (.iload_n 2, 1) := by decide +kernel
theorem dX9_tryAll_23 : decode cX9_tryAll 23 = .ok (.aload_n 0, 1) := by decide +kernel
theorem dX9_tryAll_24 : decode cX9_tryAll 24 = .ok (.getfield 31, 3) := by decide +kernel
theorem dX9_tryAll_27 : decode cX9_tryAll 27 = .ok (.if_icmp .eq 19, 3) := by decide +kernel
theorem dX9_tryAll_30 : decode cX9_tryAll 30 = .ok (.aload_n 1, 1) := by decide +kernel
theorem dX9_tryAll_31 : decode cX9_tryAll 31 = .ok (.aload_n 0, 1) := by decide +kernel
theorem dX9_tryAll_32 : decode cX9_tryAll 32 = .ok (.getfield 11, 3) := by decide +kernel
theorem dX9_tryAll_35 : decode cX9_tryAll 35 = .ok (.iload_n 2, 1) := by decide +kernel
theorem dX9_tryAll_36 : decode cX9_tryAll 36 = .ok (.aaload, 1) := by decide +kernel
theorem dX9_tryAll_37 : decode cX9_tryAll 37 = .ok (.getfield 49, 3) := by decide +kernel
theorem dX9_tryAll_40 : decode cX9_tryAll 40 = .ok (.invokevirtual 52, 3) := by decide +kernel
theorem dX9_tryAll_43 : decode cX9_tryAll 43 = .ok (.ifCond .eq 10, 3) := by decide +kernel
theorem dX9_tryAll_46 : decode cX9_tryAll 46 = .ok (.aload_n 0, 1) := by decide +kernel
theorem dX9_tryAll_47 : decode cX9_tryAll 47 = .ok (.aload_n 1, 1) := by decide +kernel
theorem dX9_tryAll_48 : decode cX9_tryAll 48 = .ok (.iload_n 2, 1) := by decide +kernel
theorem dX9_tryAll_49 : decode cX9_tryAll 49 = .ok (.invokevirtual 58, 3) := by decide +kernel
theorem dX9_tryAll_52 : decode cX9_tryAll 52 = .ok (.return_, 1) := by decide +kernel
theorem dX9_tryAll_53 : decode cX9_tryAll 53 = .ok (.iconst (-1), 1) := by decide +kernel
theorem dX9_tryAll_54 : decode cX9_tryAll 54 = .ok (.istore_n 3, 1) := by decide +kernel
theorem dX9_tryAll_55 : decode cX9_tryAll 55 = .ok (.iload_n 3, 1) := by decide +kernel
theorem dX9_tryAll_56 : decode cX9_tryAll 56 = .ok (.aload_n 1, 1) := by decide +kernel
theorem dX9_tryAll_57 : decode cX9_tryAll 57 = .ok (.getfield 61, 3) := by decide +kernel
theorem dX9_tryAll_60 : decode cX9_tryAll 60 = .ok (.if_icmp .ge 73, 3) := by decide +kernel
theorem dX9_tryAll_63 : decode cX9_tryAll 63 = .ok (.aload_n 0, 1) := by decide +kernel
theorem dX9_tryAll_64 : decode cX9_tryAll 64 = .ok (.getfield 17, 3) := by decide +kernel
theorem dX9_tryAll_67 : decode cX9_tryAll 67 = .ok (.iload_n 2, 1) := by decide +kernel
theorem dX9_tryAll_68 : decode cX9_tryAll 68 = .ok (.iload_n 3, 1) := by decide +kernel
theorem dX9_tryAll_69 : decode cX9_tryAll 69 = .ok (.ifCond .ge 8, 3) := by decide +kernel
theorem dX9_tryAll_72 : decode cX9_tryAll 72 = .ok (.bipush (-5), 2) := by decide +kernel
theorem dX9_tryAll_74 : decode cX9_tryAll 74 = .ok (.goto 4, 3) := by decide +kernel
theorem dX9_tryAll_77 : decode cX9_tryAll 77 = .ok (.iload_n 3, 1) := by decide +kernel
theorem dX9_tryAll_78 : decode cX9_tryAll 78 = .ok (.iastore, 1) := by decide +kernel
theorem dX9_tryAll_79 : decode cX9_tryAll 79 = .ok (.aload_n 0, 1) := by decide +kernel
theorem dX9_tryAll_80 : decode cX9_tryAll 80 = .ok (.getfield 11, 3) := by decide +kernel
theorem dX9_tryAll_83 : decode cX9_tryAll 83 = .ok (.iload_n 2, 1) := by decide +kernel
theorem dX9_tryAll_84 : decode cX9_tryAll 84 = .ok (.iconst 1, 1) := by decide +kernel
theorem dX9_tryAll_85 : decode cX9_tryAll 85 = .ok (.iadd, 1) := by decide +kernel
theorem dX9_tryAll_86 : decode cX9_tryAll 86 = .ok (.aaload, 1) := by decide +kernel
theorem dX9_tryAll_87 : decode cX9_tryAll 87 = .ok (.astore 4, 2) := by decide +kernel
theorem dX9_tryAll_89 : decode cX9_tryAll 89 = .ok (.aload 4, 2) := by decide +kernel
theorem dX9_tryAll_91 : decode cX9_tryAll 91 = .ok (.aload_n 0, 1) := by decide +kernel
theorem dX9_tryAll_92 : decode cX9_tryAll 92 = .ok (.getfield 11, 3) := by decide +kernel
theorem dX9_tryAll_95 : decode cX9_tryAll 95 = .ok (.iload_n 2, 1) := by decide +kernel
theorem dX9_tryAll_96 : decode cX9_tryAll 96 = .ok (.aaload, 1) := by decide +kernel
theorem dX9_tryAll_97 : decode cX9_tryAll 97 = .ok (.invokevirtual 41, 3) := by decide +kernel
theorem dX9_tryAll_100 : decode cX9_tryAll 100 = .ok (.iload_n 3, 1) := by decide +kernel
theorem dX9_tryAll_101 : decode cX9_tryAll 101 = .ok (.ifCond .lt 12, 3) := by decide +kernel
theorem dX9_tryAll_104 : decode cX9_tryAll 104 = .ok (.aload 4, 2) := by decide +kernel
theorem dX9_tryAll_106 : decode cX9_tryAll 106 = .ok (.aload_n 1, 1) := by decide +kernel
theorem dX9_tryAll_107 : decode cX9_tryAll 107 = .ok (.iconst 1, 1) := by decide +kernel
theorem dX9_tryAll_108 : decode cX9_tryAll 108 = .ok (.iload_n 3, 1) := by decide +kernel
theorem dX9_tryAll_109 : decode cX9_tryAll 109 = .ok (.ishl, 1) := by decide +kernel
theorem dX9_tryAll_110 : decode cX9_tryAll 110 = .ok (.invokevirtual 64, 3) := by decide +kernel
theorem dX9_tryAll_113 : decode cX9_tryAll 113 = .ok (.aload 4, 2) := by decide +kernel
theorem dX9_tryAll_115 : decode cX9_tryAll 115 = .ok (.aload_n 1, 1) := by decide +kernel
theorem dX9_tryAll_116 : decode cX9_tryAll 116 = .ok (.invokevirtual 67, 3) := by decide +kernel
theorem dX9_tryAll_119 : decode cX9_tryAll 119 = .ok (.aload_n 0, 1) := by decide +kernel
theorem dX9_tryAll_120 : decode cX9_tryAll 120 = .ok (.aload_n 1, 1) := by decide +kernel
theorem dX9_tryAll_121 : decode cX9_tryAll 121 = .ok (.iload_n 2, 1) := by decide +kernel
theorem dX9_tryAll_122 : decode cX9_tryAll 122 = .ok (.iconst 1, 1) := by decide +kernel
theorem dX9_tryAll_123 : decode cX9_tryAll 123 = .ok (.iadd, 1) := by decide +kernel
theorem dX9_tryAll_124 : decode cX9_tryAll 124 = .ok (.invokevirtual 45, 3) := by decide +kernel
theorem dX9_tryAll_127 : decode cX9_tryAll 127 = .ok (.iinc 3 1, 3) := by decide +kernel
theorem dX9_tryAll_130 : decode cX9_tryAll 130 = .ok (.goto (-75), 3) := by decide +kernel
theorem dX9_tryAll_133 : decode cX9_tryAll 133 = .ok (.return_, 1) := by decide +kernel
theorem dX9_weigh_0 : decode cX9_weigh 0 = .ok (.aload_n 0, 1) := by decide +kernel
theorem dX9_weigh_1 : decode cX9_weigh 1 = .ok (.getfield 11, 3) := by decide +kernel
theorem dX9_weigh_4 : decode cX9_weigh 4 = .ok (.iload_n 2, 1) := by decide +kernel
theorem dX9_weigh_5 : decode cX9_weigh 5 = .ok (.aaload, 1) := by decide +kernel
theorem dX9_weigh_6 : decode cX9_weigh 6 = .ok (.astore_n 3, 1) := by decide +kernel
theorem dX9_weigh_7 : decode cX9_weigh 7 = .ok (.aload_n 3, 1) := by decide +kernel
theorem dX9_weigh_8 : decode cX9_weigh 8 = .ok (.aload_n 1, 1) := by decide +kernel
theorem dX9_weigh_9 : decode cX9_weigh 9 = .ok (.aload_n 0, 1) := by decide +kernel
theorem dX9_weigh_10 : decode cX9_weigh 10 = .ok (.getfield 38, 3) := by decide +kernel
theorem dX9_weigh_13 : decode cX9_weigh 13 = .ok (.iconst 1, 1) := by decide +kernel
theorem dX9_weigh_14 : decode cX9_weigh 14 = .ok (.isub, 1) := by decide +kernel
theorem dX9_weigh_15 : decode cX9_weigh 15 = .ok (.iload_n 2, 1) := by decide +kernel
theorem dX9_weigh_16 : decode cX9_weigh 16 = .ok (.isub, 1) := by decide +kernel
theorem dX9_weigh_17 : decode cX9_weigh 17 = .ok (.invokevirtual 71, 3) := by decide +kernel
theorem dX9_weigh_20 : decode cX9_weigh 20 = .ok (.istore 4, 2) := by decide +kernel
theorem dX9_weigh_22 : decode cX9_weigh 22 = .ok (.iload 4, 2) := by decide +kernel
theorem dX9_weigh_24 : decode cX9_weigh 24 = .ok (.bipush (-9), 2) := by decide +kernel
theorem dX9_weigh_26 : decode cX9_weigh 26 = .ok (.if_icmp .eq 22, 3) := by decide +kernel
theorem dX9_weigh_29 : decode cX9_weigh 29 = .ok (.iconst 0, 1) := by decide +kernel
theorem dX9_weigh_30 : decode cX9_weigh 30 = .ok (.aload_n 1, 1) := by decide +kernel
theorem dX9_weigh_31 : decode cX9_weigh 31 = .ok (.aload_n 3, 1) := by decide +kernel
theorem dX9_weigh_32 : decode cX9_weigh 32 = .ok (.getfield 75, 3) := by decide +kernel
theorem dX9_weigh_35 : decode cX9_weigh 35 = .ok (.invokevirtual 78, 3) := by decide +kernel
theorem dX9_weigh_38 : decode cX9_weigh 38 = .ok (.invokestatic 82, 3) := by decide +kernel
theorem dX9_weigh_41 : decode cX9_weigh 41 = .ok (.aload_n 0, 1) := by decide +kernel
theorem dX9_weigh_42 : decode cX9_weigh 42 = .ok (.getfield 35, 3) := by decide +kernel
theorem dX9_weigh_45 : decode cX9_weigh 45 = .ok (.if_icmp .ge 4, 3) := by decide +kernel
theorem dX9_weigh_48 : decode cX9_weigh 48 = .ok (.return_, 1) := by decide +kernel
theorem dX9_weigh_49 : decode cX9_weigh 49 = .ok (.aload_n 0, 1) := by decide +kernel
theorem dX9_weigh_50 : decode cX9_weigh 50 = .ok (.iload_n 2, 1) := by decide +kernel
theorem dX9_weigh_51 : decode cX9_weigh 51 = .ok (.iload 4, 2) := by decide +kernel
theorem dX9_weigh_53 : decode cX9_weigh 53 = .ok (.iadd, 1) := by decide +kernel
theorem dX9_weigh_54 : decode cX9_weigh 54 = .ok (.putfield 38, 3) := by decide +kernel
theorem dX9_weigh_57 : decode cX9_weigh 57 = .ok (.iconst 0, 1) := by decide +kernel
theorem dX9_weigh_58 : decode cX9_weigh 58 = .ok (.istore 5, 2) := by decide +kernel
theorem dX9_weigh_60 : decode cX9_weigh 60 = .ok (.iload 5, 2) := by decide +kernel
theorem dX9_weigh_62 : decode cX9_weigh 62 = .ok (.iconst 3, 1) := by decide +kernel
theorem dX9_weigh_63 : decode cX9_weigh 63 = .ok (.if_icmp .ge 34, 3) := by decide +kernel
theorem dX9_weigh_66 : decode cX9_weigh 66 = .ok (.aload_n 0, 1) := by decide +kernel
theorem dX9_weigh_67 : decode cX9_weigh 67 = .ok (.getfield 21, 3) := by decide +kernel
theorem dX9_weigh_70 : decode cX9_weigh 70 = .ok (.iload 5, 2) := by decide +kernel
theorem dX9_weigh_72 : decode cX9_weigh 72 = .ok (.iload 5, 2) := by decide +kernel
theorem dX9_weigh_74 : decode cX9_weigh 74 = .ok (.iload_n 2, 1) := by decide +kernel
theorem dX9_weigh_75 : decode cX9_weigh 75 = .ok (.if_icmp .ge 13, 3) := by decide +kernel
theorem dX9_weigh_78 : decode cX9_weigh 78 = .ok (.aload_n 0, 1) := by decide +kernel
theorem dX9_weigh_79 : decode cX9_weigh 79 = .ok (.getfield 17, 3) := by decide +kernel
theorem dX9_weigh_82 : decode cX9_weigh 82 = .ok (.iload 5, 2) := by decide +kernel
theorem dX9_weigh_84 : decode cX9_weigh 84 = .ok (.iaload, 1) := by decide +kernel
theorem dX9_weigh_85 : decode cX9_weigh 85 = .ok (.goto 5, 3) := by decide +kernel
theorem dX9_weigh_88 : decode cX9_weigh 88 = .ok (.bipush (-5), 2) := by decide +kernel
theorem dX9_weigh_90 : decode cX9_weigh 90 = .ok (.iastore, 1) := by decide +kernel
theorem dX9_weigh_91 : decode cX9_weigh 91 = .ok (.iinc 5 1, 3) := by decide +kernel
theorem dX9_weigh_94 : decode cX9_weigh 94 = .ok (.goto (-34), 3) := by decide +kernel
theorem dX9_weigh_97 : decode cX9_weigh 97 = .ok (.return_, 1) := by decide +kernel
theorem dX10_init_0 : decode cX10_init 0 = .ok (.aload_n 0, 1) := by decide +kernel
theorem dX10_init_1 : decode cX10_init 1 = .ok (.invokespecial 3, 3) := by decide +kernel
theorem dX10_init_4 : decode cX10_init 4 = .ok (.aload_n 0, 1) := by decide +kernel
theorem dX10_init_5 : decode cX10_init 5 = .ok (.sipush 200, 3) := by decide +kernel
theorem dX10_init_8 : decode cX10_init 8 = .ok (.newarray .int, 2) := by decide +kernel
theorem dX10_init_10 : decode cX10_init 10 = .ok (.putfield 9, 3) := by decide +kernel
theorem dX10_init_13 : decode cX10_init 13 = .ok (.return_, 1) := by decide +kernel
theorem dX10_append_0 : decode cX10_append 0 = .ok (.aload_n 0, 1) := by decide +kernel
theorem dX10_append_1 : decode cX10_append 1 = .ok (.getfield 15, 3) := by decide +kernel
theorem dX10_append_4 : decode cX10_append 4 = .ok (.sipush 200, 3) := by decide +kernel
theorem dX10_append_7 : decode cX10_append 7 = .ok (.if_icmp .lt 5, 3) := by decide +kernel
theorem dX10_append_10 : decode cX10_append 10 = .ok (.iconst 0, 1) := by decide +kernel
theorem dX10_append_11 : decode cX10_append 11 = .ok (.ireturn, 1) := by decide +kernel
theorem dX10_append_12 : decode cX10_append 12 = .ok (.aload_n 0, 1) := by decide +kernel
theorem dX10_append_13 : decode cX10_append 13 = .ok (.getfield 9, 3) := by decide +kernel
theorem dX10_append_16 : decode cX10_append 16 = .ok (.aload_n 0, 1) := by decide +kernel
theorem dX10_append_17 : decode cX10_append 17 = .ok (.getfield 15, 3) := by decide +kernel
theorem dX10_append_20 : decode cX10_append 20 = .ok (.iload_n 1, 1) := by decide +kernel
theorem dX10_append_21 : decode cX10_append 21 = .ok (.iastore, 1) := by decide +kernel
theorem dX10_append_22 : decode cX10_append 22 = .ok (.aload_n 0, 1) := by decide +kernel
theorem dX10_append_23 : decode cX10_append 23 = .ok (.dup, 1) := by decide +kernel
theorem dX10_append_24 : decode cX10_append 24 = .ok (.getfield 15, 3) := by decide +kernel
theorem dX10_append_27 : decode cX10_append 27 = .ok (.iconst 1, 1) := by decide +kernel
theorem dX10_append_28 : decode cX10_append 28 = .ok (.iadd, 1) := by decide +kernel
theorem dX10_append_29 : decode cX10_append 29 = .ok (.putfield 15, 3) := by decide +kernel
theorem dX10_append_32 : decode cX10_append 32 = .ok (.iconst 1, 1) := by decide +kernel
theorem dX10_append_33 : decode cX10_append 33 = .ok (.ireturn, 1) := by decide +kernel
theorem dX10_readInto_0 : decode cX10_readInto 0 = .ok (.aload_n 1, 1) := by decide +kernel
theorem dX10_readInto_1 : decode cX10_readInto 1 = .ok (.invokevirtual 19, 3) := by decide +kernel
theorem dX10_readInto_4 : decode cX10_readInto 4 = .ok (.aload_n 0, 1) := by decide +kernel
theorem dX10_readInto_5 : decode cX10_readInto 5 = .ok (.iconst 0, 1) := by decide +kernel
theorem dX10_readInto_6 : decode cX10_readInto 6 = .ok (.putfield 24, 3) := by decide +kernel
theorem dX10_readInto_9 : decode cX10_readInto 9 = .ok (.iconst 0, 1) := by decide +kernel
theorem dX10_readInto_10 : decode cX10_readInto 10 = .ok (.istore_n 2, 1) := by decide +kernel
theorem dX10_readInto_11 : decode cX10_readInto 11 = .ok (.aload_n 0, 1) := by decide +kernel
theorem dX10_readInto_12 : decode cX10_readInto 12 = .ok (.invokevirtual 27, 3) := by decide +kernel
theorem dX10_readInto_15 : decode cX10_readInto 15 = .ok (.iload_n 2, 1) := by decide +kernel
theorem dX10_readInto_16 : decode cX10_readInto 16 = .ok (.sipush 200, 3) := by decide +kernel
theorem dX10_readInto_19 : decode cX10_readInto 19 = .ok (.if_icmp .ge 44, 3) := by decide +kernel
theorem dX10_readInto_22 : decode cX10_readInto 22 = .ok (.aload_n 0, 1) := by decide +kernel
theorem dX10_readInto_23 : decode cX10_readInto 23 = .ok (.getfield 30, 3) := by decide +kernel
theorem dX10_readInto_26 : decode cX10_readInto 26 = .ok (.iconst (-1), 1) := by decide +kernel
theorem dX10_readInto_27 : decode cX10_readInto 27 = .ok (.if_icmp .eq 36, 3) := by decide +kernel
theorem dX10_readInto_30 : decode cX10_readInto 30 = .ok (.aload_n 0, 1) := by decide +kernel
theorem dX10_readInto_31 : decode cX10_readInto 31 = .ok (.aload_n 1, 1) := by decide +kernel
theorem dX10_readInto_32 : decode cX10_readInto 32 = .ok (.invokevirtual 33, 3) := by decide +kernel
theorem dX10_readInto_35 : decode cX10_readInto 35 = .ok (.ifCond .eq 10, 3) := by decide +kernel
theorem dX10_readInto_38 : decode cX10_readInto 38 = .ok (.aload_n 0, 1) := by decide +kernel
theorem dX10_readInto_39 : decode cX10_readInto 39 = .ok (.invokevirtual 37, 3) := by decide +kernel
theorem dX10_readInto_42 : decode cX10_readInto 42 = .ok (.ifCond .ne 11, 3) := by decide +kernel
theorem dX10_readInto_45 : decode cX10_readInto 45 = .ok (.bipush (-10), 2) := by decide +kernel
theorem dX10_readInto_47 : decode cX10_readInto 47 = .ok (.aload_n 0, 1) := by decide +kernel
theorem dX10_readInto_48 : decode cX10_readInto 48 = .ok (.getfield 41, 3) := by decide +kernel
theorem dX10_readInto_51 : decode cX10_readInto 51 = .ok (.isub, 1) := by decide +kernel
theorem dX10_readInto_52 : decode cX10_readInto 52 = .ok (.ireturn, 1) := by decide +kernel
theorem dX10_readInto_53 : decode cX10_readInto 53 = .ok (.iinc 2 1, 3) := by decide +kernel
theorem dX10_readInto_56 : decode cX10_readInto 56 = .ok (.aload_n 0, 1) := by decide +kernel
theorem dX10_readInto_57 : decode cX10_readInto 57 = .ok (.invokevirtual 27, 3) := by decide +kernel
theorem dX10_readInto_60 : decode cX10_readInto 60 = .ok (.goto (-45), 3) := by decide +kernel
theorem dX10_readInto_63 : decode cX10_readInto 63 = .ok (.aload_n 1, 1) := by decide +kernel
theorem dX10_readInto_64 : decode cX10_readInto 64 = .ok (.invokevirtual 44, 3) := by decide +kernel
theorem dX10_readInto_67 : decode cX10_readInto 67 = .ok (.iload_n 2, 1) := by decide +kernel
theorem dX10_readInto_68 : decode cX10_readInto 68 = .ok (.ireturn, 1) := by decide +kernel
theorem dX10_readItem_0 : decode cX10_readItem 0 = .ok (.aload_n 0, 1) := by decide +kernel
theorem dX10_readItem_1 : decode cX10_readItem 1 = .ok (.getfield 30, 3) := by decide +kernel
theorem dX10_readItem_4 : decode cX10_readItem 4 = .ok (.lookupswitch 102 #[(99, 59), (112, 36), (119, 81)], 36) := by decide +kernel
theorem dX10_readItem_40 : decode cX10_readItem 40 = .ok (.aload_n 1, 1) := by decide +kernel
theorem dX10_readItem_41 : decode cX10_readItem 41 = .ok (.getfield 47, 3) := by decide +kernel
theorem dX10_readItem_44 : decode cX10_readItem 44 = .ok (.bipush 6, 2) := by decide +kernel
theorem dX10_readItem_46 : decode cX10_readItem 46 = .ok (.if_icmp .ge 15, 3) := by decide +kernel
theorem dX10_readItem_49 : decode cX10_readItem 49 = .ok (.aload_n 0, 1) := by decide +kernel
theorem dX10_readItem_50 : decode cX10_readItem 50 = .ok (.aload_n 1, 1) := by decide +kernel
theorem dX10_readItem_51 : decode cX10_readItem 51 = .ok (.invokevirtual 50, 3) := by decide +kernel
theorem dX10_readItem_54 : decode cX10_readItem 54 = .ok (.ifCond .eq 7, 3) := by decide +kernel
theorem dX10_readItem_57 : decode cX10_readItem 57 = .ok (.iconst 1, 1) := by decide +kernel
theorem dX10_readItem_58 : decode cX10_readItem 58 = .ok (.goto 4, 3) := by decide +kernel
theorem dX10_readItem_61 : decode cX10_readItem 61 = .ok (.iconst 0, 1) := by decide +kernel
theorem dX10_readItem_62 : decode cX10_readItem 62 = .ok (.ireturn, 1) := by decide +kernel
theorem dX10_readItem_63 : decode cX10_readItem 63 = .ok (.aload_n 1, 1) := by decide +kernel
theorem dX10_readItem_64 : decode cX10_readItem 64 = .ok (.getfield 53, 3) := by decide +kernel
theorem dX10_readItem_67 : decode cX10_readItem 67 = .ok (.iconst 4, 1) := by decide +kernel
theorem dX10_readItem_68 : decode cX10_readItem 68 = .ok (.if_icmp .ge 15, 3) := by decide +kernel
theorem dX10_readItem_71 : decode cX10_readItem 71 = .ok (.aload_n 0, 1) := by decide +kernel
theorem dX10_readItem_72 : decode cX10_readItem 72 = .ok (.aload_n 1, 1) := by decide +kernel
theorem dX10_readItem_73 : decode cX10_readItem 73 = .ok (.invokevirtual 56, 3) := by decide +kernel
theorem dX10_readItem_76 : decode cX10_readItem 76 = .ok (.ifCond .eq 7, 3) := by decide +kernel
theorem dX10_readItem_79 : decode cX10_readItem 79 = .ok (.iconst 1, 1) := by decide +kernel
theorem dX10_readItem_80 : decode cX10_readItem 80 = .ok (.goto 4, 3) := by decide +kernel
theorem dX10_readItem_83 : decode cX10_readItem 83 = .ok (.iconst 0, 1) := by decide +kernel
theorem dX10_readItem_84 : decode cX10_readItem 84 = .ok (.ireturn, 1) := by decide +kernel
theorem dX10_readItem_85 : decode cX10_readItem 85 = .ok (.aload_n 1, 1) := by decide +kernel
theorem dX10_readItem_86 : decode cX10_readItem 86 = .ok (.getfield 59, 3) := by decide +kernel
theorem dX10_readItem_89 : decode cX10_readItem 89 = .ok (.ifCond .ne 15, 3) := by decide +kernel
theorem dX10_readItem_92 : decode cX10_readItem 92 = .ok (.aload_n 0, 1) := by decide +kernel
theorem dX10_readItem_93 : decode cX10_readItem 93 = .ok (.aload_n 1, 1) := by decide +kernel
theorem dX10_readItem_94 : decode cX10_readItem 94 = .ok (.invokevirtual 63, 3) := by decide +kernel
theorem dX10_readItem_97 : decode cX10_readItem 97 = .ok (.ifCond .eq 7, 3) := by decide +kernel
theorem dX10_readItem_100 : decode cX10_readItem 100 = .ok (.iconst 1, 1) := by decide +kernel
theorem dX10_readItem_101 : decode cX10_readItem 101 = .ok (.goto 4, 3) := by decide +kernel
theorem dX10_readItem_104 : decode cX10_readItem 104 = .ok (.iconst 0, 1) := by decide +kernel
theorem dX10_readItem_105 : decode cX10_readItem 105 = .ok (.ireturn, 1) := by decide +kernel
theorem dX10_readItem_106 : decode cX10_readItem 106 = .ok (.iconst 0, 1) := by decide +kernel
theorem dX10_readItem_107 : decode cX10_readItem 107 = .ok (.ireturn, 1) := by decide +kernel
theorem dX10_readPassenger_0 : decode cX10_readPassenger 0 = .ok (.aload_n 0, 1) := by decide +kernel
theorem dX10_readPassenger_1 : decode cX10_readPassenger 1 = .ok (.iconst 1, 1) := by decide +kernel
theorem dX10_readPassenger_2 : decode cX10_readPassenger 2 = .ok (.bipush 9, 2) := by decide +kernel
theorem dX10_readPassenger_4 : decode cX10_readPassenger 4 = .ok (.invokevirtual 66, 3) := by decide +kernel
theorem dX10_readPassenger_7 : decode cX10_readPassenger 7 = .ok (.ifCond .ne 5, 3) := by decide +kernel
theorem dX10_readPassenger_10 : decode cX10_readPassenger 10 = .ok (.iconst 0, 1) := by decide +kernel
theorem dX10_readPassenger_11 : decode cX10_readPassenger 11 = .ok (.ireturn, 1) := by decide +kernel
theorem dX10_readPassenger_12 : decode cX10_readPassenger 12 = .ok (.aload_n 0, 1) := by decide +kernel
theorem dX10_readPassenger_13 : decode cX10_readPassenger 13 = .ok (.getfield 70, 3) := by decide +kernel
theorem dX10_readPassenger_16 : decode cX10_readPassenger 16 = .ok (.istore_n 2, 1) := by decide +kernel
theorem dX10_readPassenger_17 : decode cX10_readPassenger 17 = .ok (.aload_n 0, 1) := by decide +kernel
theorem dX10_readPassenger_18 : decode cX10_readPassenger 18 = .ok (.iconst 1, 1) := by decide +kernel
theorem dX10_readPassenger_19 : decode cX10_readPassenger 19 = .ok (.bipush 30, 2) := by decide +kernel
theorem dX10_readPassenger_21 : decode cX10_readPassenger 21 = .ok (.invokevirtual 66, 3) := by decide +kernel
theorem dX10_readPassenger_24 : decode cX10_readPassenger 24 = .ok (.ifCond .ne 5, 3) := by decide +kernel
theorem dX10_readPassenger_27 : decode cX10_readPassenger 27 = .ok (.iconst 0, 1) := by decide +kernel
theorem dX10_readPassenger_28 : decode cX10_readPassenger 28 = .ok (.ireturn, 1) := by decide +kernel
theorem dX10_readPassenger_29 : decode cX10_readPassenger 29 = .ok (.aload_n 0, 1) := by decide +kernel
theorem dX10_readPassenger_30 : decode cX10_readPassenger 30 = .ok (.getfield 70, 3) := by decide +kernel
theorem dX10_readPassenger_33 : decode cX10_readPassenger 33 = .ok (.istore_n 3, 1) := by decide +kernel
theorem dX10_readPassenger_34 : decode cX10_readPassenger 34 = .ok (.aload_n 0, 1) := by decide +kernel
theorem dX10_readPassenger_35 : decode cX10_readPassenger 35 = .ok (.iconst 0, 1) := by decide +kernel
theorem dX10_readPassenger_36 : decode cX10_readPassenger 36 = .ok (.iconst 3, 1) := by decide +kernel
theorem dX10_readPassenger_37 : decode cX10_readPassenger 37 = .ok (.invokevirtual 66, 3) := by decide +kernel
theorem dX10_readPassenger_40 : decode cX10_readPassenger 40 = .ok (.ifCond .ne 5, 3) := by decide +kernel
theorem dX10_readPassenger_43 : decode cX10_readPassenger 43 = .ok (.iconst 0, 1) := by decide +kernel
theorem dX10_readPassenger_44 : decode cX10_readPassenger 44 = .ok (.ireturn, 1) := by decide +kernel
theorem dX10_readPassenger_45 : decode cX10_readPassenger 45 = .ok (.aload_n 1, 1) := by decide +kernel
theorem dX10_readPassenger_46 : decode cX10_readPassenger 46 = .ok (.iload_n 2, 1) := by decide +kernel
theorem dX10_readPassenger_47 : decode cX10_readPassenger 47 = .ok (.iload_n 3, 1) := by decide +kernel
theorem dX10_readPassenger_48 : decode cX10_readPassenger 48 = .ok (.aload_n 0, 1) := by decide +kernel
theorem dX10_readPassenger_49 : decode cX10_readPassenger 49 = .ok (.getfield 70, 3) := by decide +kernel
theorem dX10_readPassenger_52 : decode cX10_readPassenger 52 = .ok (.invokevirtual 73, 3) := by decide +kernel
theorem dX10_readPassenger_55 : decode cX10_readPassenger 55 = .ok (.iconst 1, 1) := by decide +kernel
theorem dX10_readPassenger_56 : decode cX10_readPassenger 56 = .ok (.ireturn, 1) := by decide +kernel
theorem dX10_readCurrent_0 : decode cX10_readCurrent 0 = .ok (.aload_n 0, 1) := by decide +kernel
theorem dX10_readCurrent_1 : decode cX10_readCurrent 1 = .ok (.iconst 0, 1) := by decide +kernel
theorem dX10_readCurrent_2 : decode cX10_readCurrent 2 = .ok (.sipush 199, 3) := by decide +kernel
theorem dX10_readCurrent_5 : decode cX10_readCurrent 5 = .ok (.invokevirtual 66, 3) := by decide +kernel
theorem dX10_readCurrent_8 : decode cX10_readCurrent 8 = .ok (.ifCond .eq 14, 3) := by decide +kernel
theorem dX10_readCurrent_11 : decode cX10_readCurrent 11 = .ok (.aload_n 1, 1) := by decide +kernel
theorem dX10_readCurrent_12 : decode cX10_readCurrent 12 = .ok (.aload_n 0, 1) := by decide +kernel
theorem dX10_readCurrent_13 : decode cX10_readCurrent 13 = .ok (.getfield 70, 3) := by decide +kernel
theorem dX10_readCurrent_16 : decode cX10_readCurrent 16 = .ok (.invokevirtual 77, 3) := by decide +kernel
theorem dX10_readCurrent_19 : decode cX10_readCurrent 19 = .ok (.ifCond .eq 5, 3) := by decide +kernel
theorem dX10_readCurrent_22 : decode cX10_readCurrent 22 = .ok (.iconst 0, 1) := by decide +kernel
theorem dX10_readCurrent_23 : decode cX10_readCurrent 23 = .ok (.ireturn, 1) := by decide +kernel
theorem dX10_readCurrent_24 : decode cX10_readCurrent 24 = .ok (.aload_n 0, 1) := by decide +kernel
theorem dX10_readCurrent_25 : decode cX10_readCurrent 25 = .ok (.getfield 70, 3) := by decide +kernel
theorem dX10_readCurrent_28 : decode cX10_readCurrent 28 = .ok (.istore_n 2, 1) := by decide +kernel
theorem dX10_readCurrent_29 : decode cX10_readCurrent 29 = .ok (.aload_n 0, 1) := by decide +kernel
theorem dX10_readCurrent_30 : decode cX10_readCurrent 30 = .ok (.iconst 0, 1) := by decide +kernel
theorem dX10_readCurrent_31 : decode cX10_readCurrent 31 = .ok (.bipush 8, 2) := by decide +kernel
theorem dX10_readCurrent_33 : decode cX10_readCurrent 33 = .ok (.invokevirtual 66, 3) := by decide +kernel
theorem dX10_readCurrent_36 : decode cX10_readCurrent 36 = .ok (.ifCond .ne 5, 3) := by decide +kernel
theorem dX10_readCurrent_39 : decode cX10_readCurrent 39 = .ok (.iconst 0, 1) := by decide +kernel
theorem dX10_readCurrent_40 : decode cX10_readCurrent 40 = .ok (.ireturn, 1) := by decide +kernel
theorem dX10_readCurrent_41 : decode cX10_readCurrent 41 = .ok (.aload_n 1, 1) := by decide +kernel
theorem dX10_readCurrent_42 : decode cX10_readCurrent 42 = .ok (.iload_n 2, 1) := by decide +kernel
theorem dX10_readCurrent_43 : decode cX10_readCurrent 43 = .ok (.aload_n 0, 1) := by decide +kernel
theorem dX10_readCurrent_44 : decode cX10_readCurrent 44 = .ok (.getfield 70, 3) := by decide +kernel
theorem dX10_readCurrent_47 : decode cX10_readCurrent 47 = .ok (.invokevirtual 81, 3) := by decide +kernel
theorem dX10_readCurrent_50 : decode cX10_readCurrent 50 = .ok (.iconst 1, 1) := by decide +kernel
theorem dX10_readCurrent_51 : decode cX10_readCurrent 51 = .ok (.ireturn, 1) := by decide +kernel
theorem dX10_readWide_0 : decode cX10_readWide 0 = .ok (.aload_n 0, 1) := by decide +kernel
theorem dX10_readWide_1 : decode cX10_readWide 1 = .ok (.bipush 10, 2) := by decide +kernel
theorem dX10_readWide_3 : decode cX10_readWide 3 = .ok (.sipush 200, 3) := by decide +kernel
theorem dX10_readWide_6 : decode cX10_readWide 6 = .ok (.invokevirtual 66, 3) := by decide +kernel
theorem dX10_readWide_9 : decode cX10_readWide 9 = .ok (.ifCond .ne 5, 3) := by decide +kernel
theorem dX10_readWide_12 : decode cX10_readWide 12 = .ok (.iconst 0, 1) := by decide +kernel
theorem dX10_readWide_13 : decode cX10_readWide 13 = .ok (.ireturn, 1) := by decide +kernel
theorem dX10_readWide_14 : decode cX10_readWide 14 = .ok (.aload_n 1, 1) := by decide +kernel
theorem dX10_readWide_15 : decode cX10_readWide 15 = .ok (.aload_n 0, 1) := by decide +kernel
theorem dX10_readWide_16 : decode cX10_readWide 16 = .ok (.getfield 70, 3) := by decide +kernel
theorem dX10_readWide_19 : decode cX10_readWide 19 = .ok (.putfield 85, 3) := by decide +kernel
theorem dX10_readWide_22 : decode cX10_readWide 22 = .ok (.aload_n 1, 1) := by decide +kernel
theorem dX10_readWide_23 : decode cX10_readWide 23 = .ok (.iconst 1, 1) := by decide +kernel
theorem dX10_readWide_24 : decode cX10_readWide 24 = .ok (.putfield 59, 3) := by decide +kernel
theorem dX10_readWide_27 : decode cX10_readWide 27 = .ok (.iconst 1, 1) := by decide +kernel
theorem dX10_readWide_28 : decode cX10_readWide 28 = .ok (.ireturn, 1) := by decide +kernel
theorem dX10_readSemicolon_0 : decode cX10_readSemicolon 0 = .ok (.aload_n 0, 1) := by decide +kernel
theorem dX10_readSemicolon_1 : decode cX10_readSemicolon 1 = .ok (.invokevirtual 27, 3) := by decide +kernel
theorem dX10_readSemicolon_4 : decode cX10_readSemicolon 4 = .ok (.aload_n 0, 1) := by decide +kernel
theorem dX10_readSemicolon_5 : decode cX10_readSemicolon 5 = .ok (.getfield 30, 3) := by decide +kernel
theorem dX10_readSemicolon_8 : decode cX10_readSemicolon 8 = .ok (.bipush 59, 2) := by decide +kernel
theorem dX10_readSemicolon_10 : decode cX10_readSemicolon 10 = .ok (.if_icmp .ne 7, 3) := by decide +kernel
theorem dX10_readSemicolon_13 : decode cX10_readSemicolon 13 = .ok (.iconst 1, 1) := by decide +kernel
theorem dX10_readSemicolon_14 : decode cX10_readSemicolon 14 = .ok (.goto 4, 3) := by decide +kernel
theorem dX10_readSemicolon_17 : decode cX10_readSemicolon 17 = .ok (.iconst 0, 1) := by decide +kernel
theorem dX10_readSemicolon_18 : decode cX10_readSemicolon 18 = .ok (.ireturn, 1) := by decide +kernel
theorem dX10_readNumber_0 : decode cX10_readNumber 0 = .ok (.aload_n 0, 1) := by decide +kernel
theorem dX10_readNumber_1 : decode cX10_readNumber 1 = .ok (.invokevirtual 27, 3) := by decide +kernel
theorem dX10_readNumber_4 : decode cX10_readNumber 4 = .ok (.aload_n 0, 1) := by decide +kernel
theorem dX10_readNumber_5 : decode cX10_readNumber 5 = .ok (.getfield 30, 3) := by decide +kernel
theorem dX10_readNumber_8 : decode cX10_readNumber 8 = .ok (.bipush (-2), 2) := by decide +kernel
theorem dX10_readNumber_10 : decode cX10_readNumber 10 = .ok (.if_icmp .ne 23, 3) := by decide +kernel
theorem dX10_readNumber_13 : decode cX10_readNumber 13 = .ok (.aload_n 0, 1) := by decide +kernel
theorem dX10_readNumber_14 : decode cX10_readNumber 14 = .ok (.getfield 70, 3) := by decide +kernel
theorem dX10_readNumber_17 : decode cX10_readNumber 17 = .ok (.iload_n 1, 1) := by decide +kernel
theorem dX10_readNumber_18 : decode cX10_readNumber 18 = .ok (.if_icmp .lt 15, 3) := by decide +kernel
theorem dX10_readNumber_21 : decode cX10_readNumber 21 = .ok (.aload_n 0, 1) := by decide +kernel
theorem dX10_readNumber_22 : decode cX10_readNumber 22 = .ok (.getfield 70, 3) := by decide +kernel
theorem dX10_readNumber_25 : decode cX10_readNumber 25 = .ok (.iload_n 2, 1) := by decide +kernel
theorem dX10_readNumber_26 : decode cX10_readNumber 26 = .ok (.if_icmp .gt 7, 3) := by decide +kernel
theorem dX10_readNumber_29 : decode cX10_readNumber 29 = .ok (.iconst 1, 1) := by decide +kernel
theorem dX10_readNumber_30 : decode cX10_readNumber 30 = .ok (.goto 4, 3) := by decide +kernel
theorem dX10_readNumber_33 : decode cX10_readNumber 33 = .ok (.iconst 0, 1) := by decide +kernel
theorem dX10_readNumber_34 : decode cX10_readNumber 34 = .ok (.ireturn, 1) := by decide +kernel
theorem dX10_readToken_0 : decode cX10_readToken 0 = .ok (.aload_n 0, 1) := by decide +kernel
theorem dX10_readToken_1 : decode cX10_readToken 1 = .ok (.getfield 24, 3) := by decide +kernel
theorem dX10_readToken_4 : decode cX10_readToken 4 = .ok (.aload_n 0, 1) := by decide +kernel
theorem dX10_readToken_5 : decode cX10_readToken 5 = .ok (.getfield 15, 3) := by decide +kernel
theorem dX10_readToken_8 : decode cX10_readToken 8 = .ok (.if_icmp .ge 30, 3) := by decide +kernel
theorem dX10_readToken_11 : decode cX10_readToken 11 = .ok (.aload_n 0, 1) := by decide +kernel
theorem dX10_readToken_12 : decode cX10_readToken 12 = .ok (.getfield 9, 3) := by decide +kernel
theorem dX10_readToken_15 : decode cX10_readToken 15 = .ok (.aload_n 0, 1) := by decide +kernel
theorem dX10_readToken_16 : decode cX10_readToken 16 = .ok (.getfield 24, 3) := by decide +kernel
theorem dX10_readToken_19 : decode cX10_readToken 19 = .ok (.iaload, 1) := by decide +kernel
theorem dX10_readToken_20 : decode cX10_readToken 20 = .ok (.bipush 32, 2) := by decide +kernel
theorem dX10_readToken_22 : decode cX10_readToken 22 = .ok (.if_icmp .ne 16, 3) := by decide +kernel
theorem dX10_readToken_25 : decode cX10_readToken 25 = .ok (.aload_n 0, 1) := by decide +kernel
theorem dX10_readToken_26 : decode cX10_readToken 26 = .ok (.dup, 1) := by decide +kernel
theorem dX10_readToken_27 : decode cX10_readToken 27 = .ok (.getfield 24, 3) := by decide +kernel
theorem dX10_readToken_30 : decode cX10_readToken 30 = .ok (.iconst 1, 1) := by decide +kernel
theorem dX10_readToken_31 : decode cX10_readToken 31 = .ok (.iadd, 1) := by decide +kernel
theorem dX10_readToken_32 : decode cX10_readToken 32 = .ok (.putfield 24, 3) := by decide +kernel
theorem dX10_readToken_35 : decode cX10_readToken 35 = .ok (.goto (-35), 3) := by decide +kernel
theorem dX10_readToken_38 : decode cX10_readToken 38 = .ok (.aload_n 0, 1) := by decide +kernel
theorem dX10_readToken_39 : decode cX10_readToken 39 = .ok (.aload_n 0, 1) := by decide +kernel
theorem dX10_readToken_40 : decode cX10_readToken 40 = .ok (.getfield 24, 3) := by decide +kernel
theorem dX10_readToken_43 : decode cX10_readToken 43 = .ok (.putfield 41, 3) := by decide +kernel
theorem dX10_readToken_46 : decode cX10_readToken 46 = .ok (.aload_n 0, 1) := by decide +kernel
theorem dX10_readToken_47 : decode cX10_readToken 47 = .ok (.getfield 24, 3) := by decide +kernel
theorem dX10_readToken_50 : decode cX10_readToken 50 = .ok (.aload_n 0, 1) := by decide +kernel
theorem dX10_readToken_51 : decode cX10_readToken 51 = .ok (.getfield 15, 3) := by decide +kernel
theorem dX10_readToken_54 : decode cX10_readToken 54 = .ok (.if_icmp .lt 11, 3) := by decide +kernel
theorem dX10_readToken_57 : decode cX10_readToken 57 = .ok (.aload_n 0, 1) := by decide +kernel
theorem dX10_readToken_58 : decode cX10_readToken 58 = .ok (.iconst (-1), 1) := by decide +kernel
theorem dX10_readToken_59 : decode cX10_readToken 59 = .ok (.putfield 30, 3) := by decide +kernel
theorem dX10_readToken_62 : decode cX10_readToken 62 = .ok (.goto 48, 3) := by decide +kernel
theorem dX10_readToken_65 : decode cX10_readToken 65 = .ok (.aload_n 0, 1) := by decide +kernel
theorem dX10_readToken_66 : decode cX10_readToken 66 = .ok (.getfield 9, 3) := by decide +kernel
theorem dX10_readToken_69 : decode cX10_readToken 69 = .ok (.aload_n 0, 1) := by decide +kernel
theorem dX10_readToken_70 : decode cX10_readToken 70 = .ok (.getfield 24, 3) := by decide +kernel
theorem dX10_readToken_73 : decode cX10_readToken 73 = .ok (.iaload, 1) := by decide +kernel
theorem dX10_readToken_74 : decode cX10_readToken 74 = .ok (.invokestatic 88, 3) := by decide +kernel
theorem dX10_readToken_77 : decode cX10_readToken 77 = .ok (.ifCond .eq 10, 3) := by decide +kernel
theorem dX10_readToken_80 : decode cX10_readToken 80 = .ok (.aload_n 0, 1) := by decide +kernel
theorem dX10_readToken_81 : decode cX10_readToken 81 = .ok (.invokevirtual 91, 3) := by decide +kernel
theorem dX10_readToken_84 : decode cX10_readToken 84 = .ok (.goto 26, 3) := by decide +kernel
theorem dX10_readToken_87 : decode cX10_readToken 87 = .ok (.aload_n 0, 1) := by decide +kernel
theorem dX10_readToken_88 : decode cX10_readToken 88 = .ok (.aload_n 0, 1) := by decide +kernel
theorem dX10_readToken_89 : decode cX10_readToken 89 = .ok (.getfield 9, 3) := by decide +kernel
theorem dX10_readToken_92 : decode cX10_readToken 92 = .ok (.aload_n 0, 1) := by decide +kernel
theorem dX10_readToken_93 : decode cX10_readToken 93 = .ok (.getfield 24, 3) := by decide +kernel
theorem dX10_readToken_96 : decode cX10_readToken 96 = .ok (.iaload, 1) := by decide +kernel
theorem dX10_readToken_97 : decode cX10_readToken 97 = .ok (.putfield 30, 3) := by decide +kernel
theorem dX10_readToken_100 : decode cX10_readToken 100 = .ok (.aload_n 0, 1) := by decide +kernel
theorem dX10_readToken_101 : decode cX10_readToken 101 = .ok (.dup, 1) := by decide +kernel
theorem dX10_readToken_102 : decode cX10_readToken 102 = .ok (.getfield 24, 3) := by decide +kernel
theorem dX10_readToken_105 : decode cX10_readToken 105 = .ok (.iconst 1, 1) := by decide +kernel
theorem dX10_readToken_106 : decode cX10_readToken 106 = .ok (.iadd, 1) := by decide +kernel
theorem dX10_readToken_107 : decode cX10_readToken 107 = .ok (.putfield 24, 3) := by decide +kernel
theorem dX10_readToken_110 : decode cX10_readToken 110 = .ok (.return_, 1) := by decide +kernel
theorem dX10_readDigits_0 : decode cX10_readDigits 0 = .ok (.aload_n 0, 1) := by decide +kernel
theorem dX10_readDigits_1 : decode cX10_readDigits 1 = .ok (.iconst 0, 1) := by decide +kernel
theorem dX10_readDigits_2 : decode cX10_readDigits 2 = .ok (.putfield 70, 3) := by decide +kernel
theorem dX10_readDigits_5 : decode cX10_readDigits 5 = .ok (.aload_n 0, 1) := by decide +kernel
theorem dX10_readDigits_6 : decode cX10_readDigits 6 = .ok (.getfield 24, 3) := by decide +kernel
theorem dX10_readDigits_9 : decode cX10_readDigits 9 = .ok (.aload_n 0, 1) := by decide +kernel
theorem dX10_readDigits_10 : decode cX10_readDigits 10 = .ok (.getfield 15, 3) := by decide +kernel
theorem dX10_readDigits_13 : decode cX10_readDigits 13 = .ok (.if_icmp .ge 61, 3) := by decide +kernel
theorem dX10_readDigits_16 : decode cX10_readDigits 16 = .ok (.aload_n 0, 1) := by decide +kernel
theorem dX10_readDigits_17 : decode cX10_readDigits 17 = .ok (.getfield 9, 3) := by decide +kernel
theorem dX10_readDigits_20 : decode cX10_readDigits 20 = .ok (.aload_n 0, 1) := by decide +kernel
theorem dX10_readDigits_21 : decode cX10_readDigits 21 = .ok (.getfield 24, 3) := by decide +kernel
theorem dX10_readDigits_24 : decode cX10_readDigits 24 = .ok (.iaload, 1) := by decide +kernel
theorem dX10_readDigits_25 : decode cX10_readDigits 25 = .ok (.invokestatic 88, 3) := by decide +kernel
theorem dX10_readDigits_28 : decode cX10_readDigits 28 = .ok (.ifCond .eq 46, 3) := by decide +kernel
theorem dX10_readDigits_31 : decode cX10_readDigits 31 = .ok (.aload_n 0, 1) := by decide +kernel
theorem dX10_readDigits_32 : decode cX10_readDigits 32 = .ok (.aload_n 0, 1) := by decide +kernel
theorem dX10_readDigits_33 : decode cX10_readDigits 33 = .ok (.getfield 70, 3) := by decide +kernel
theorem dX10_readDigits_36 : decode cX10_readDigits 36 = .ok (.bipush 10, 2) := by decide +kernel
theorem dX10_readDigits_38 : decode cX10_readDigits 38 = .ok (.imul, 1) := by decide +kernel
theorem dX10_readDigits_39 : decode cX10_readDigits 39 = .ok (.aload_n 0, 1) := by decide +kernel
theorem dX10_readDigits_40 : decode cX10_readDigits 40 = .ok (.getfield 9, 3) := by decide +kernel
theorem dX10_readDigits_43 : decode cX10_readDigits 43 = .ok (.aload_n 0, 1) := by decide +kernel
theorem dX10_readDigits_44 : decode cX10_readDigits 44 = .ok (.getfield 24, 3) := by decide +kernel
theorem dX10_readDigits_47 : decode cX10_readDigits 47 = .ok (.iaload, 1) := by decide +kernel
theorem dX10_readDigits_48 : decode cX10_readDigits 48 = .ok (.iadd, 1) := by decide +kernel
theorem dX10_readDigits_49 : decode cX10_readDigits 49 = .ok (.bipush 48, 2) := by decide +kernel
theorem dX10_readDigits_51 : decode cX10_readDigits 51 = .ok (.isub, 1) := by decide +kernel
theorem dX10_readDigits_52 : decode cX10_readDigits 52 = .ok (.sipush 201, 3) := by decide +kernel
theorem dX10_readDigits_55 : decode cX10_readDigits 55 = .ok (.invokestatic 94, 3) := by decide +kernel
theorem dX10_readDigits_58 : decode cX10_readDigits 58 = .ok (.putfield 70, 3) := by decide +kernel
theorem dX10_readDigits_61 : decode cX10_readDigits 61 = .ok (.aload_n 0, 1) := by decide +kernel
theorem dX10_readDigits_62 : decode cX10_readDigits 62 = .ok (.dup, 1) := by decide +kernel
theorem dX10_readDigits_63 : decode cX10_readDigits 63 = .ok (.getfield 24, 3) := by decide +kernel
theorem dX10_readDigits_66 : decode cX10_readDigits 66 = .ok (.iconst 1, 1) := by decide +kernel
theorem dX10_readDigits_67 : decode cX10_readDigits 67 = .ok (.iadd, 1) := by decide +kernel
theorem dX10_readDigits_68 : decode cX10_readDigits 68 = .ok (.putfield 24, 3) := by decide +kernel
theorem dX10_readDigits_71 : decode cX10_readDigits 71 = .ok (.goto (-66), 3) := by decide +kernel
theorem dX10_readDigits_74 : decode cX10_readDigits 74 = .ok (.aload_n 0, 1) := by decide +kernel
theorem dX10_readDigits_75 : decode cX10_readDigits 75 = .ok (.getfield 9, 3) := by decide +kernel
theorem dX10_readDigits_78 : decode cX10_readDigits 78 = .ok (.aload_n 0, 1) := by decide +kernel
theorem dX10_readDigits_79 : decode cX10_readDigits 79 = .ok (.getfield 41, 3) := by decide +kernel
theorem dX10_readDigits_82 : decode cX10_readDigits 82 = .ok (.iaload, 1) := by decide +kernel
theorem dX10_readDigits_83 : decode cX10_readDigits 83 = .ok (.bipush 48, 2) := by decide +kernel
theorem dX10_readDigits_85 : decode cX10_readDigits 85 = .ok (.if_icmp .ne 20, 3) := by decide +kernel
theorem dX10_readDigits_88 : decode cX10_readDigits 88 = .ok (.aload_n 0, 1) := by decide +kernel
theorem dX10_readDigits_89 : decode cX10_readDigits 89 = .ok (.getfield 24, 3) := by decide +kernel
theorem dX10_readDigits_92 : decode cX10_readDigits 92 = .ok (.aload_n 0, 1) := by decide +kernel
theorem dX10_readDigits_93 : decode cX10_readDigits 93 = .ok (.getfield 41, 3) := by decide +kernel
theorem dX10_readDigits_96 : decode cX10_readDigits 96 = .ok (.isub, 1) := by decide +kernel
theorem dX10_readDigits_97 : decode cX10_readDigits 97 = .ok (.iconst 1, 1) := by decide +kernel
theorem dX10_readDigits_98 : decode cX10_readDigits 98 = .ok (.if_icmp .le 7, 3) := by decide +kernel
theorem dX10_readDigits_101 : decode cX10_readDigits 101 = .ok (.iconst 1, 1) := by decide +kernel
theorem dX10_readDigits_102 : decode cX10_readDigits 102 = .ok (.goto 4, 3) := by decide +kernel
theorem dX10_readDigits_105 : decode cX10_readDigits 105 = .ok (.iconst 0, 1) := by decide +kernel
theorem dX10_readDigits_106 : decode cX10_readDigits 106 = .ok (.istore_n 1, 1) := by decide +kernel
theorem dX10_readDigits_107 : decode cX10_readDigits 107 = .ok (.aload_n 0, 1) := by decide +kernel
theorem dX10_readDigits_108 : decode cX10_readDigits 108 = .ok (.iload_n 1, 1) := by decide +kernel
theorem dX10_readDigits_109 : decode cX10_readDigits 109 = .ok (.ifCond .ne 13, 3) := by decide +kernel
theorem dX10_readDigits_112 : decode cX10_readDigits 112 = .ok (.aload_n 0, 1) := by decide +kernel
theorem dX10_readDigits_113 : decode cX10_readDigits 113 = .ok (.getfield 70, 3) := by decide +kernel
theorem dX10_readDigits_116 : decode cX10_readDigits 116 = .ok (.sipush 200, 3) := by decide +kernel
theorem dX10_readDigits_119 : decode cX10_readDigits 119 = .ok (.if_icmp .le 8, 3) := by decide +kernel
theorem dX10_readDigits_122 : decode cX10_readDigits 122 = .ok (.bipush (-3), 2) := by decide +kernel
theorem dX10_readDigits_124 : decode cX10_readDigits 124 = .ok (.goto 5, 3) := by decide +kernel
theorem dX10_readDigits_127 : decode cX10_readDigits 127 = .ok (.bipush (-2), 2) := by decide +kernel
theorem dX10_readDigits_129 : decode cX10_readDigits 129 = .ok (.putfield 30, 3) := by decide +kernel
theorem dX10_readDigits_132 : decode cX10_readDigits 132 = .ok (.return_, 1) := by decide +kernel
theorem dX10_isDigit_0 : decode cX10_isDigit 0 = .ok (.iload_n 0, 1) := by decide +kernel
theorem dX10_isDigit_1 : decode cX10_isDigit 1 = .ok (.bipush 48, 2) := by decide +kernel
theorem dX10_isDigit_3 : decode cX10_isDigit 3 = .ok (.if_icmp .lt 13, 3) := by decide +kernel
theorem dX10_isDigit_6 : decode cX10_isDigit 6 = .ok (.iload_n 0, 1) := by decide +kernel
theorem dX10_isDigit_7 : decode cX10_isDigit 7 = .ok (.bipush 57, 2) := by decide +kernel
theorem dX10_isDigit_9 : decode cX10_isDigit 9 = .ok (.if_icmp .gt 7, 3) := by decide +kernel
theorem dX10_isDigit_12 : decode cX10_isDigit 12 = .ok (.iconst 1, 1) := by decide +kernel
theorem dX10_isDigit_13 : decode cX10_isDigit 13 = .ok (.goto 4, 3) := by decide +kernel
theorem dX10_isDigit_16 : decode cX10_isDigit 16 = .ok (.iconst 0, 1) := by decide +kernel
theorem dX10_isDigit_17 : decode cX10_isDigit 17 = .ok (.ireturn, 1) := by decide +kernel
theorem dX11_init_0 : decode cX11_init 0 = .ok (.aload_n 0, 1) := by decide +kernel
theorem dX11_init_1 : decode cX11_init 1 = .ok (.invokespecial 1, 3) := by decide +kernel
theorem dX11_init_4 : decode cX11_init 4 = .ok (.aload_n 0, 1) := by decide +kernel
theorem dX11_init_5 : decode cX11_init 5 = .ok (.new 7, 3) := by decide +kernel
theorem dX11_init_8 : decode cX11_init 8 = .ok (.dup, 1) := by decide +kernel
theorem dX11_init_9 : decode cX11_init 9 = .ok (.invokespecial 9, 3) := by decide +kernel
theorem dX11_init_12 : decode cX11_init 12 = .ok (.putfield 10, 3) := by decide +kernel
theorem dX11_init_15 : decode cX11_init 15 = .ok (.aload_n 0, 1) := by decide +kernel
theorem dX11_init_16 : decode cX11_init 16 = .ok (.new 16, 3) := by decide +kernel
theorem dX11_init_19 : decode cX11_init 19 = .ok (.dup, 1) := by decide +kernel
theorem dX11_init_20 : decode cX11_init 20 = .ok (.invokespecial 18, 3) := by decide +kernel
theorem dX11_init_23 : decode cX11_init 23 = .ok (.putfield 19, 3) := by decide +kernel
theorem dX11_init_26 : decode cX11_init 26 = .ok (.aload_n 0, 1) := by decide +kernel
theorem dX11_init_27 : decode cX11_init 27 = .ok (.new 16, 3) := by decide +kernel
theorem dX11_init_30 : decode cX11_init 30 = .ok (.dup, 1) := by decide +kernel
theorem dX11_init_31 : decode cX11_init 31 = .ok (.invokespecial 18, 3) := by decide +kernel
theorem dX11_init_34 : decode cX11_init 34 = .ok (.putfield 23, 3) := by decide +kernel
theorem dX11_init_37 : decode cX11_init 37 = .ok (.aload_n 0, 1) := by decide +kernel
theorem dX11_init_38 : decode cX11_init 38 = .ok (.new 26, 3) := by decide +kernel
theorem dX11_init_41 : decode cX11_init 41 = .ok (.dup, 1) := by decide +kernel
theorem dX11_init_42 : decode cX11_init 42 = .ok (.invokespecial 28, 3) := by decide +kernel
theorem dX11_init_45 : decode cX11_init 45 = .ok (.putfield 29, 3) := by decide +kernel
theorem dX11_init_48 : decode cX11_init 48 = .ok (.aload_n 0, 1) := by decide +kernel
theorem dX11_init_49 : decode cX11_init 49 = .ok (.new 33, 3) := by decide +kernel
theorem dX11_init_52 : decode cX11_init 52 = .ok (.dup, 1) := by decide +kernel
theorem dX11_init_53 : decode cX11_init 53 = .ok (.invokespecial 35, 3) := by decide +kernel
theorem dX11_init_56 : decode cX11_init 56 = .ok (.putfield 36, 3) := by decide +kernel
theorem dX11_init_59 : decode cX11_init 59 = .ok (.aload_n 0, 1) := by decide +kernel
theorem dX11_init_60 : decode cX11_init 60 = .ok (.iconst 2, 1) := by decide +kernel
theorem dX11_init_61 : decode cX11_init 61 = .ok (.anewarray 26, 3) := by decide +kernel
theorem dX11_init_64 : decode cX11_init 64 = .ok (.putfield 40, 3) := by decide +kernel
theorem dX11_init_67 : decode cX11_init 67 = .ok (.aload_n 0, 1) := by decide +kernel
theorem dX11_init_68 : decode cX11_init 68 = .ok (.iconst 5, 1) := by decide +kernel
theorem dX11_init_69 : decode cX11_init 69 = .ok (.newarray .int, 2) := by decide +kernel
theorem dX11_init_71 : decode cX11_init 71 = .ok (.putfield 44, 3) := by decide +kernel
theorem dX11_init_74 : decode cX11_init 74 = .ok (.aload_n 0, 1) := by decide +kernel
theorem dX11_init_75 : decode cX11_init 75 = .ok (.iconst 5, 1) := by decide +kernel
theorem dX11_init_76 : decode cX11_init 76 = .ok (.newarray .int, 2) := by decide +kernel
theorem dX11_init_78 : decode cX11_init 78 = .ok (.putfield 48, 3) := by decide +kernel
theorem dX11_init_81 : decode cX11_init 81 = .ok (.aload_n 0, 1) := by decide +kernel
theorem dX11_init_82 : decode cX11_init 82 = .ok (.bipush 7, 2) := by decide +kernel
end
section
theorem dX11_init_84 : decode cX11_init 84 = .ok (.anewarray 26, 3) := by decide +kernel
theorem dX11_init_87 : decode cX11_init 87 = .ok (.putfield 51, 3) := by decide +kernel
theorem dX11_init_90 : decode cX11_init 90 = .ok (.aload_n 0, 1) := by decide +kernel
theorem dX11_init_91 : decode cX11_init 91 = .ok (.new 54, 3) := by decide +kernel
theorem dX11_init_94 : decode cX11_init 94 = .ok (.dup, 1) := by decide +kernel
theorem dX11_init_95 : decode cX11_init 95 = .ok (.invokespecial 56, 3) := by decide +kernel
theorem dX11_init_98 : decode cX11_init 98 = .ok (.putfield 57, 3) := by decide +kernel
theorem dX11_init_101 : decode cX11_init 101 = .ok (.aload_n 0, 1) := by decide +kernel
theorem dX11_init_102 : decode cX11_init 102 = .ok (.bipush 6, 2) := by decide +kernel
theorem dX11_init_104 : decode cX11_init 104 = .ok (.anewarray 61, 3) := by decide +kernel
theorem dX11_init_107 : decode cX11_init 107 = .ok (.putfield 63, 3) := by decide +kernel
theorem dX11_init_110 : decode cX11_init 110 = .ok (.aload_n 0, 1) := by decide +kernel
theorem dX11_init_111 : decode cX11_init 111 = .ok (.iconst 1, 1) := by decide +kernel
theorem dX11_init_112 : decode cX11_init 112 = .ok (.newarray .long, 2) := by decide +kernel
theorem dX11_init_114 : decode cX11_init 114 = .ok (.putfield 67, 3) := by decide +kernel
theorem dX11_init_117 : decode cX11_init 117 = .ok (.iconst 0, 1) := by decide +kernel
theorem dX11_init_118 : decode cX11_init 118 = .ok (.istore_n 1, 1) := by decide +kernel
theorem dX11_init_119 : decode cX11_init 119 = .ok (.iload_n 1, 1) := by decide +kernel
theorem dX11_init_120 : decode cX11_init 120 = .ok (.aload_n 0, 1) := by decide +kernel
theorem dX11_init_121 : decode cX11_init 121 = .ok (.getfield 40, 3) := by decide +kernel
theorem dX11_init_124 : decode cX11_init 124 = .ok (.arraylength, 1) := by decide +kernel
theorem dX11_init_125 : decode cX11_init 125 = .ok (.if_icmp .ge 22, 3) := by decide +kernel
theorem dX11_init_128 : decode cX11_init 128 = .ok (.aload_n 0, 1) := by decide +kernel
theorem dX11_init_129 : decode cX11_init 129 = .ok (.getfield 40, 3) := by decide +kernel
theorem dX11_init_132 : decode cX11_init 132 = .ok (.iload_n 1, 1) := by decide +kernel
theorem dX11_init_133 : decode cX11_init 133 = .ok (.new 26, 3) := by decide +kernel
theorem dX11_init_136 : decode cX11_init 136 = .ok (.dup, 1) := by decide +kernel
theorem dX11_init_137 : decode cX11_init 137 = .ok (.invokespecial 28, 3) := by decide +kernel
theorem dX11_init_140 : decode cX11_init 140 = .ok (.aastore, 1) := by decide +kernel
theorem dX11_init_141 : decode cX11_init 141 = .ok (.iinc 1 1, 3) := by decide +kernel
theorem dX11_init_144 : decode cX11_init 144 = .ok (.goto (-25), 3) := by decide +kernel
theorem dX11_init_147 : decode cX11_init 147 = .ok (.iconst 0, 1) := by decide +kernel
theorem dX11_init_148 : decode cX11_init 148 = .ok (.istore_n 1, 1) := by decide +kernel
theorem dX11_init_149 : decode cX11_init 149 = .ok (.iload_n 1, 1) := by decide +kernel
theorem dX11_init_150 : decode cX11_init 150 = .ok (.aload_n 0, 1) := by decide +kernel
theorem dX11_init_151 : decode cX11_init 151 = .ok (.getfield 51, 3) := by decide +kernel
theorem dX11_init_154 : decode cX11_init 154 = .ok (.arraylength, 1) := by decide +kernel
theorem dX11_init_155 : decode cX11_init 155 = .ok (.if_icmp .ge 22, 3) := by decide +kernel
theorem dX11_init_158 : decode cX11_init 158 = .ok (.aload_n 0, 1) := by decide +kernel
theorem dX11_init_159 : decode cX11_init 159 = .ok (.getfield 51, 3) := by decide +kernel
theorem dX11_init_162 : decode cX11_init 162 = .ok (.iload_n 1, 1) := by decide +kernel
theorem dX11_init_163 : decode cX11_init 163 = .ok (.new 26, 3) := by decide +kernel
theorem dX11_init_166 : decode cX11_init 166 = .ok (.dup, 1) := by decide +kernel
theorem dX11_init_167 : decode cX11_init 167 = .ok (.invokespecial 28, 3) := by decide +kernel
theorem dX11_init_170 : decode cX11_init 170 = .ok (.aastore, 1) := by decide +kernel
theorem dX11_init_171 : decode cX11_init 171 = .ok (.iinc 1 1, 3) := by decide +kernel
theorem dX11_init_174 : decode cX11_init 174 = .ok (.goto (-25), 3) := by decide +kernel
theorem dX11_init_177 : decode cX11_init 177 = .ok (.aload_n 0, 1) := by decide +kernel
theorem dX11_init_178 : decode cX11_init 178 = .ok (.getfield 63, 3) := by decide +kernel
theorem dX11_init_181 : decode cX11_init 181 = .ok (.iconst 0, 1) := by decide +kernel
theorem dX11_init_182 : decode cX11_init 182 = .ok (.new 61, 3) := by decide +kernel
theorem dX11_init_185 : decode cX11_init 185 = .ok (.dup, 1) := by decide +kernel
theorem dX11_init_186 : decode cX11_init 186 = .ok (.invokespecial 71, 3) := by decide +kernel
theorem dX11_init_189 : decode cX11_init 189 = .ok (.aastore, 1) := by decide +kernel
theorem dX11_init_190 : decode cX11_init 190 = .ok (.aload_n 0, 1) := by decide +kernel
theorem dX11_init_191 : decode cX11_init 191 = .ok (.getfield 63, 3) := by decide +kernel
theorem dX11_init_194 : decode cX11_init 194 = .ok (.iconst 1, 1) := by decide +kernel
theorem dX11_init_195 : decode cX11_init 195 = .ok (.new 72, 3) := by decide +kernel
theorem dX11_init_198 : decode cX11_init 198 = .ok (.dup, 1) := by decide +kernel
theorem dX11_init_199 : decode cX11_init 199 = .ok (.invokespecial 74, 3) := by decide +kernel
theorem dX11_init_202 : decode cX11_init 202 = .ok (.aastore, 1) := by decide +kernel
theorem dX11_init_203 : decode cX11_init 203 = .ok (.aload_n 0, 1) := by decide +kernel
theorem dX11_init_204 : decode cX11_init 204 = .ok (.getfield 63, 3) := by decide +kernel
theorem dX11_init_207 : decode cX11_init 207 = .ok (.iconst 2, 1) := by decide +kernel
theorem dX11_init_208 : decode cX11_init 208 = .ok (.new 75, 3) := by decide +kernel
theorem dX11_init_211 : decode cX11_init 211 = .ok (.dup, 1) := by decide +kernel
theorem dX11_init_212 : decode cX11_init 212 = .ok (.invokespecial 77, 3) := by decide +kernel
theorem dX11_init_215 : decode cX11_init 215 = .ok (.aastore, 1) := by decide +kernel
theorem dX11_init_216 : decode cX11_init 216 = .ok (.aload_n 0, 1) := by decide +kernel
theorem dX11_init_217 : decode cX11_init 217 = .ok (.getfield 63, 3) := by decide +kernel
theorem dX11_init_220 : decode cX11_init 220 = .ok (.iconst 3, 1) := by decide +kernel
theorem dX11_init_221 : decode cX11_init 221 = .ok (.new 78, 3) := by decide +kernel
theorem dX11_init_224 : decode cX11_init 224 = .ok (.dup, 1) := by decide +kernel
theorem dX11_init_225 : decode cX11_init 225 = .ok (.invokespecial 80, 3) := by decide +kernel
theorem dX11_init_228 : decode cX11_init 228 = .ok (.aastore, 1) := by decide +kernel
theorem dX11_init_229 : decode cX11_init 229 = .ok (.aload_n 0, 1) := by decide +kernel
theorem dX11_init_230 : decode cX11_init 230 = .ok (.getfield 63, 3) := by decide +kernel
theorem dX11_init_233 : decode cX11_init 233 = .ok (.iconst 4, 1) := by decide +kernel
theorem dX11_init_234 : decode cX11_init 234 = .ok (.new 81, 3) := by decide +kernel
theorem dX11_init_237 : decode cX11_init 237 = .ok (.dup, 1) := by decide +kernel
theorem dX11_init_238 : decode cX11_init 238 = .ok (.invokespecial 83, 3) := by decide +kernel
theorem dX11_init_241 : decode cX11_init 241 = .ok (.aastore, 1) := by decide +kernel
theorem dX11_init_242 : decode cX11_init 242 = .ok (.aload_n 0, 1) := by decide +kernel
theorem dX11_init_243 : decode cX11_init 243 = .ok (.getfield 63, 3) := by decide +kernel
theorem dX11_init_246 : decode cX11_init 246 = .ok (.iconst 5, 1) := by decide +kernel
theorem dX11_init_247 : decode cX11_init 247 = .ok (.new 84, 3) := by decide +kernel
theorem dX11_init_250 : decode cX11_init 250 = .ok (.dup, 1) := by decide +kernel
theorem dX11_init_251 : decode cX11_init 251 = .ok (.invokespecial 86, 3) := by decide +kernel
theorem dX11_init_254 : decode cX11_init 254 = .ok (.aastore, 1) := by decide +kernel
theorem dX11_init_255 : decode cX11_init 255 = .ok (.return_, 1) := by decide +kernel
theorem dX11_type_0 : decode cX11_type 0 = .ok (.iload_n 1, 1) := by decide +kernel
theorem dX11_type_1 : decode cX11_type 1 = .ok (.ifCond .lt 10, 3) := by decide +kernel
theorem dX11_type_4 : decode cX11_type 4 = .ok (.iload_n 1, 1) := by decide +kernel
theorem dX11_type_5 : decode cX11_type 5 = .ok (.sipush 255, 3) := by decide +kernel
theorem dX11_type_8 : decode cX11_type 8 = .ok (.if_icmp .le 5, 3) := by decide +kernel
theorem dX11_type_11 : decode cX11_type 11 = .ok (.iconst (-1), 1) := by decide +kernel
theorem dX11_type_12 : decode cX11_type 12 = .ok (.ireturn, 1) := by decide +kernel
theorem dX11_type_13 : decode cX11_type 13 = .ok (.aload_n 0, 1) := by decide +kernel
theorem dX11_type_14 : decode cX11_type 14 = .ok (.getfield 10, 3) := by decide +kernel
theorem dX11_type_17 : decode cX11_type 17 = .ok (.iload_n 1, 1) := by decide +kernel
theorem dX11_type_18 : decode cX11_type 18 = .ok (.invokevirtual 87, 3) := by decide +kernel
theorem dX11_type_21 : decode cX11_type 21 = .ok (.ifCond .eq 13, 3) := by decide +kernel
theorem dX11_type_24 : decode cX11_type 24 = .ok (.aload_n 0, 1) := by decide +kernel
theorem dX11_type_25 : decode cX11_type 25 = .ok (.getfield 10, 3) := by decide +kernel
theorem dX11_type_28 : decode cX11_type 28 = .ok (.getfield 91, 3) := by decide +kernel
theorem dX11_type_31 : decode cX11_type 31 = .ok (.goto 5, 3) := by decide +kernel
theorem dX11_type_34 : decode cX11_type 34 = .ok (.bipush (-3), 2) := by decide +kernel
theorem dX11_type_36 : decode cX11_type 36 = .ok (.ireturn, 1) := by decide +kernel
theorem dX11_clear_0 : decode cX11_clear 0 = .ok (.aload_n 0, 1) := by decide +kernel
theorem dX11_clear_1 : decode cX11_clear 1 = .ok (.getfield 10, 3) := by decide +kernel
theorem dX11_clear_4 : decode cX11_clear 4 = .ok (.getfield 91, 3) := by decide +kernel
theorem dX11_clear_7 : decode cX11_clear 7 = .ok (.istore_n 1, 1) := by decide +kernel
theorem dX11_clear_8 : decode cX11_clear 8 = .ok (.aload_n 0, 1) := by decide +kernel
theorem dX11_clear_9 : decode cX11_clear 9 = .ok (.getfield 10, 3) := by decide +kernel
theorem dX11_clear_12 : decode cX11_clear 12 = .ok (.iconst 0, 1) := by decide +kernel
theorem dX11_clear_13 : decode cX11_clear 13 = .ok (.putfield 91, 3) := by decide +kernel
theorem dX11_clear_16 : decode cX11_clear 16 = .ok (.iload_n 1, 1) := by decide +kernel
theorem dX11_clear_17 : decode cX11_clear 17 = .ok (.ireturn, 1) := by decide +kernel
theorem dX11_ferry_0 : decode cX11_ferry 0 = .ok (.aload_n 0, 1) := by decide +kernel
theorem dX11_ferry_1 : decode cX11_ferry 1 = .ok (.getfield 10, 3) := by decide +kernel
theorem dX11_ferry_4 : decode cX11_ferry 4 = .ok (.aload_n 0, 1) := by decide +kernel
theorem dX11_ferry_5 : decode cX11_ferry 5 = .ok (.getfield 23, 3) := by decide +kernel
theorem dX11_ferry_8 : decode cX11_ferry 8 = .ok (.invokevirtual 95, 3) := by decide +kernel
theorem dX11_ferry_11 : decode cX11_ferry 11 = .ok (.istore_n 1, 1) := by decide +kernel
theorem dX11_ferry_12 : decode cX11_ferry 12 = .ok (.iload_n 1, 1) := by decide +kernel
theorem dX11_ferry_13 : decode cX11_ferry 13 = .ok (.ifCond .ge 5, 3) := by decide +kernel
theorem dX11_ferry_16 : decode cX11_ferry 16 = .ok (.iload_n 1, 1) := by decide +kernel
theorem dX11_ferry_17 : decode cX11_ferry 17 = .ok (.ireturn, 1) := by decide +kernel
theorem dX11_ferry_18 : decode cX11_ferry 18 = .ok (.aload_n 0, 1) := by decide +kernel
theorem dX11_ferry_19 : decode cX11_ferry 19 = .ok (.getfield 19, 3) := by decide +kernel
theorem dX11_ferry_22 : decode cX11_ferry 22 = .ok (.astore_n 2, 1) := by decide +kernel
theorem dX11_ferry_23 : decode cX11_ferry 23 = .ok (.aload_n 0, 1) := by decide +kernel
theorem dX11_ferry_24 : decode cX11_ferry 24 = .ok (.aload_n 0, 1) := by decide +kernel
theorem dX11_ferry_25 : decode cX11_ferry 25 = .ok (.getfield 23, 3) := by decide +kernel
theorem dX11_ferry_28 : decode cX11_ferry 28 = .ok (.putfield 19, 3) := by decide +kernel
theorem dX11_ferry_31 : decode cX11_ferry 31 = .ok (.aload_n 0, 1) := by decide +kernel
theorem dX11_ferry_32 : decode cX11_ferry 32 = .ok (.aload_n 2, 1) := by decide +kernel
theorem dX11_ferry_33 : decode cX11_ferry 33 = .ok (.putfield 23, 3) := by decide +kernel
theorem dX11_ferry_36 : decode cX11_ferry 36 = .ok (.aload_n 0, 1) := by decide +kernel
theorem dX11_ferry_37 : decode cX11_ferry 37 = .ok (.getfield 10, 3) := by decide +kernel
theorem dX11_ferry_40 : decode cX11_ferry 40 = .ok (.iconst 0, 1) := by decide +kernel
theorem dX11_ferry_41 : decode cX11_ferry 41 = .ok (.putfield 91, 3) := by decide +kernel
theorem dX11_ferry_44 : decode cX11_ferry 44 = .ok (.aload_n 0, 1) := by decide +kernel
theorem dX11_ferry_45 : decode cX11_ferry 45 = .ok (.getfield 29, 3) := by decide +kernel
theorem dX11_ferry_48 : decode cX11_ferry 48 = .ok (.aload_n 0, 1) := by decide +kernel
theorem dX11_ferry_49 : decode cX11_ferry 49 = .ok (.getfield 19, 3) := by decide +kernel
theorem dX11_ferry_52 : decode cX11_ferry 52 = .ok (.invokevirtual 99, 3) := by decide +kernel
theorem dX11_ferry_55 : decode cX11_ferry 55 = .ok (.aload_n 0, 1) := by decide +kernel
theorem dX11_ferry_56 : decode cX11_ferry 56 = .ok (.getfield 36, 3) := by decide +kernel
theorem dX11_ferry_59 : decode cX11_ferry 59 = .ok (.invokevirtual 103, 3) := by decide +kernel
theorem dX11_ferry_62 : decode cX11_ferry 62 = .ok (.aload_n 0, 1) := by decide +kernel
theorem dX11_ferry_63 : decode cX11_ferry 63 = .ok (.iconst 0, 1) := by decide +kernel
theorem dX11_ferry_64 : decode cX11_ferry 64 = .ok (.putfield 106, 3) := by decide +kernel
theorem dX11_ferry_67 : decode cX11_ferry 67 = .ok (.aload_n 0, 1) := by decide +kernel
theorem dX11_ferry_68 : decode cX11_ferry 68 = .ok (.iconst 0, 1) := by decide +kernel
theorem dX11_ferry_69 : decode cX11_ferry 69 = .ok (.putfield 109, 3) := by decide +kernel
theorem dX11_ferry_72 : decode cX11_ferry 72 = .ok (.iload_n 1, 1) := by decide +kernel
theorem dX11_ferry_73 : decode cX11_ferry 73 = .ok (.ireturn, 1) := by decide +kernel
theorem dX11_passenger_0 : decode cX11_passenger 0 = .ok (.aload_n 0, 1) := by decide +kernel
theorem dX11_passenger_1 : decode cX11_passenger 1 = .ok (.getfield 19, 3) := by decide +kernel
theorem dX11_passenger_4 : decode cX11_passenger 4 = .ok (.iload_n 1, 1) := by decide +kernel
theorem dX11_passenger_5 : decode cX11_passenger 5 = .ok (.invokevirtual 112, 3) := by decide +kernel
theorem dX11_passenger_8 : decode cX11_passenger 8 = .ok (.ifCond .ne 5, 3) := by decide +kernel
theorem dX11_passenger_11 : decode cX11_passenger 11 = .ok (.iconst (-1), 1) := by decide +kernel
theorem dX11_passenger_12 : decode cX11_passenger 12 = .ok (.ireturn, 1) := by decide +kernel
theorem dX11_passenger_13 : decode cX11_passenger 13 = .ok (.iload_n 2, 1) := by decide +kernel
theorem dX11_passenger_14 : decode cX11_passenger 14 = .ok (.tableswitch 99 0 5 #[38, 48, 58, 68, 77, 87], 38) := by decide +kernel
theorem dX11_passenger_52 : decode cX11_passenger 52 = .ok (.aload_n 0, 1) := by decide +kernel
theorem dX11_passenger_53 : decode cX11_passenger 53 = .ok (.getfield 19, 3) := by decide +kernel
theorem dX11_passenger_56 : decode cX11_passenger 56 = .ok (.getfield 115, 3) := by decide +kernel
theorem dX11_passenger_59 : decode cX11_passenger 59 = .ok (.iload_n 1, 1) := by decide +kernel
theorem dX11_passenger_60 : decode cX11_passenger 60 = .ok (.iaload, 1) := by decide +kernel
theorem dX11_passenger_61 : decode cX11_passenger 61 = .ok (.ireturn, 1) := by decide +kernel
theorem dX11_passenger_62 : decode cX11_passenger 62 = .ok (.aload_n 0, 1) := by decide +kernel
theorem dX11_passenger_63 : decode cX11_passenger 63 = .ok (.getfield 19, 3) := by decide +kernel
theorem dX11_passenger_66 : decode cX11_passenger 66 = .ok (.getfield 118, 3) := by decide +kernel
theorem dX11_passenger_69 : decode cX11_passenger 69 = .ok (.iload_n 1, 1) := by decide +kernel
theorem dX11_passenger_70 : decode cX11_passenger 70 = .ok (.iaload, 1) := by decide +kernel
theorem dX11_passenger_71 : decode cX11_passenger 71 = .ok (.ireturn, 1) := by decide +kernel
theorem dX11_passenger_72 : decode cX11_passenger 72 = .ok (.aload_n 0, 1) := by decide +kernel
theorem dX11_passenger_73 : decode cX11_passenger 73 = .ok (.getfield 19, 3) := by decide +kernel
theorem dX11_passenger_76 : decode cX11_passenger 76 = .ok (.getfield 121, 3) := by decide +kernel
theorem dX11_passenger_79 : decode cX11_passenger 79 = .ok (.iload_n 1, 1) := by decide +kernel
theorem dX11_passenger_80 : decode cX11_passenger 80 = .ok (.iaload, 1) := by decide +kernel
theorem dX11_passenger_81 : decode cX11_passenger 81 = .ok (.ireturn, 1) := by decide +kernel
theorem dX11_passenger_82 : decode cX11_passenger 82 = .ok (.aload_n 0, 1) := by decide +kernel
theorem dX11_passenger_83 : decode cX11_passenger 83 = .ok (.getfield 29, 3) := by decide +kernel
theorem dX11_passenger_86 : decode cX11_passenger 86 = .ok (.iload_n 1, 1) := by decide +kernel
theorem dX11_passenger_87 : decode cX11_passenger 87 = .ok (.invokevirtual 124, 3) := by decide +kernel
theorem dX11_passenger_90 : decode cX11_passenger 90 = .ok (.ireturn, 1) := by decide +kernel
theorem dX11_passenger_91 : decode cX11_passenger 91 = .ok (.aload_n 0, 1) := by decide +kernel
theorem dX11_passenger_92 : decode cX11_passenger 92 = .ok (.getfield 29, 3) := by decide +kernel
theorem dX11_passenger_95 : decode cX11_passenger 95 = .ok (.getfield 128, 3) := by decide +kernel
theorem dX11_passenger_98 : decode cX11_passenger 98 = .ok (.iload_n 1, 1) := by decide +kernel
theorem dX11_passenger_99 : decode cX11_passenger 99 = .ok (.iaload, 1) := by decide +kernel
theorem dX11_passenger_100 : decode cX11_passenger 100 = .ok (.ireturn, 1) := by decide +kernel
theorem dX11_passenger_101 : decode cX11_passenger 101 = .ok (.aload_n 0, 1) := by decide +kernel
theorem dX11_passenger_102 : decode cX11_passenger 102 = .ok (.getfield 29, 3) := by decide +kernel
theorem dX11_passenger_105 : decode cX11_passenger 105 = .ok (.getfield 131, 3) := by decide +kernel
theorem dX11_passenger_108 : decode cX11_passenger 108 = .ok (.iload_n 1, 1) := by decide +kernel
theorem dX11_passenger_109 : decode cX11_passenger 109 = .ok (.ishr, 1) := by decide +kernel
theorem dX11_passenger_110 : decode cX11_passenger 110 = .ok (.iconst 1, 1) := by decide +kernel
theorem dX11_passenger_111 : decode cX11_passenger 111 = .ok (.iand, 1) := by decide +kernel
theorem dX11_passenger_112 : decode cX11_passenger 112 = .ok (.ireturn, 1) := by decide +kernel
theorem dX11_passenger_113 : decode cX11_passenger 113 = .ok (.iconst (-1), 1) := by decide +kernel
theorem dX11_passenger_114 : decode cX11_passenger 114 = .ok (.ireturn, 1) := by decide +kernel
theorem dX11_current_0 : decode cX11_current 0 = .ok (.iload_n 1, 1) := by decide +kernel
theorem dX11_current_1 : decode cX11_current 1 = .ok (.ifCond .lt 10, 3) := by decide +kernel
theorem dX11_current_4 : decode cX11_current 4 = .ok (.iload_n 1, 1) := by decide +kernel
theorem dX11_current_5 : decode cX11_current 5 = .ok (.sipush 400, 3) := by decide +kernel
theorem dX11_current_8 : decode cX11_current 8 = .ok (.if_icmp .le 7, 3) := by decide +kernel
theorem dX11_current_11 : decode cX11_current 11 = .ok (.iconst (-1), 1) := by decide +kernel
theorem dX11_current_12 : decode cX11_current 12 = .ok (.goto 11, 3) := by decide +kernel
theorem dX11_current_15 : decode cX11_current 15 = .ok (.aload_n 0, 1) := by decide +kernel
theorem dX11_current_16 : decode cX11_current 16 = .ok (.getfield 19, 3) := by decide +kernel
theorem dX11_current_19 : decode cX11_current 19 = .ok (.iload_n 1, 1) := by decide +kernel
theorem dX11_current_20 : decode cX11_current 20 = .ok (.invokevirtual 134, 3) := by decide +kernel
theorem dX11_current_23 : decode cX11_current 23 = .ok (.ireturn, 1) := by decide +kernel
theorem dX11_now_0 : decode cX11_now 0 = .ok (.iload_n 1, 1) := by decide +kernel
theorem dX11_now_1 : decode cX11_now 1 = .ok (.tableswitch 111 0 6 #[43, 51, 59, 67, 82, 95, 103], 43) := by decide +kernel
theorem dX11_now_44 : decode cX11_now 44 = .ok (.aload_n 0, 1) := by decide +kernel
theorem dX11_now_45 : decode cX11_now 45 = .ok (.getfield 29, 3) := by decide +kernel
theorem dX11_now_48 : decode cX11_now 48 = .ok (.getfield 137, 3) := by decide +kernel
theorem dX11_now_51 : decode cX11_now 51 = .ok (.ireturn, 1) := by decide +kernel
theorem dX11_now_52 : decode cX11_now 52 = .ok (.aload_n 0, 1) := by decide +kernel
theorem dX11_now_53 : decode cX11_now 53 = .ok (.getfield 29, 3) := by decide +kernel
theorem dX11_now_56 : decode cX11_now 56 = .ok (.getfield 140, 3) := by decide +kernel
theorem dX11_now_59 : decode cX11_now 59 = .ok (.ireturn, 1) := by decide +kernel
theorem dX11_now_60 : decode cX11_now 60 = .ok (.aload_n 0, 1) := by decide +kernel
theorem dX11_now_61 : decode cX11_now 61 = .ok (.getfield 29, 3) := by decide +kernel
theorem dX11_now_64 : decode cX11_now 64 = .ok (.getfield 131, 3) := by decide +kernel
theorem dX11_now_67 : decode cX11_now 67 = .ok (.ireturn, 1) := by decide +kernel
theorem dX11_now_68 : decode cX11_now 68 = .ok (.aload_n 0, 1) := by decide +kernel
theorem dX11_now_69 : decode cX11_now 69 = .ok (.getfield 19, 3) := by decide +kernel
theorem dX11_now_72 : decode cX11_now 72 = .ok (.aload_n 0, 1) := by decide +kernel
theorem dX11_now_73 : decode cX11_now 73 = .ok (.getfield 29, 3) := by decide +kernel
theorem dX11_now_76 : decode cX11_now 76 = .ok (.getfield 131, 3) := by decide +kernel
theorem dX11_now_79 : decode cX11_now 79 = .ok (.invokevirtual 143, 3) := by decide +kernel
theorem dX11_now_82 : decode cX11_now 82 = .ok (.ireturn, 1) := by decide +kernel
theorem dX11_now_83 : decode cX11_now 83 = .ok (.aload_n 0, 1) := by decide +kernel
theorem dX11_now_84 : decode cX11_now 84 = .ok (.invokevirtual 146, 3) := by decide +kernel
theorem dX11_now_87 : decode cX11_now 87 = .ok (.ifCond .eq 7, 3) := by decide +kernel
theorem dX11_now_90 : decode cX11_now 90 = .ok (.iconst 1, 1) := by decide +kernel
theorem dX11_now_91 : decode cX11_now 91 = .ok (.goto 4, 3) := by decide +kernel
theorem dX11_now_94 : decode cX11_now 94 = .ok (.iconst 0, 1) := by decide +kernel
theorem dX11_now_95 : decode cX11_now 95 = .ok (.ireturn, 1) := by decide +kernel
theorem dX11_now_96 : decode cX11_now 96 = .ok (.aload_n 0, 1) := by decide +kernel
theorem dX11_now_97 : decode cX11_now 97 = .ok (.getfield 29, 3) := by decide +kernel
theorem dX11_now_100 : decode cX11_now 100 = .ok (.invokevirtual 150, 3) := by decide +kernel
theorem dX11_now_103 : decode cX11_now 103 = .ok (.ireturn, 1) := by decide +kernel
theorem dX11_now_104 : decode cX11_now 104 = .ok (.aload_n 0, 1) := by decide +kernel
theorem dX11_now_105 : decode cX11_now 105 = .ok (.getfield 36, 3) := by decide +kernel
theorem dX11_now_108 : decode cX11_now 108 = .ok (.getfield 154, 3) := by decide +kernel
theorem dX11_now_111 : decode cX11_now 111 = .ok (.ireturn, 1) := by decide +kernel
theorem dX11_now_112 : decode cX11_now 112 = .ok (.iconst (-1), 1) := by decide +kernel
theorem dX11_now_113 : decode cX11_now 113 = .ok (.ireturn, 1) := by decide +kernel
theorem dX11_beat_0 : decode cX11_beat 0 = .ok (.aload_n 0, 1) := by decide +kernel
theorem dX11_beat_1 : decode cX11_beat 1 = .ok (.invokevirtual 146, 3) := by decide +kernel
theorem dX11_beat_4 : decode cX11_beat 4 = .ok (.ifCond .ne 16, 3) := by decide +kernel
theorem dX11_beat_7 : decode cX11_beat 7 = .ok (.aload_n 0, 1) := by decide +kernel
theorem dX11_beat_8 : decode cX11_beat 8 = .ok (.getfield 29, 3) := by decide +kernel
theorem dX11_beat_11 : decode cX11_beat 11 = .ok (.getfield 137, 3) := by decide +kernel
theorem dX11_beat_14 : decode cX11_beat 14 = .ok (.sipush 9999, 3) := by decide +kernel
theorem dX11_beat_17 : decode cX11_beat 17 = .ok (.if_icmp .lt 6, 3) := by decide +kernel
theorem dX11_beat_20 : decode cX11_beat 20 = .ok (.bipush (-2), 2) := by decide +kernel
theorem dX11_beat_22 : decode cX11_beat 22 = .ok (.ireturn, 1) := by decide +kernel
theorem dX11_beat_23 : decode cX11_beat 23 = .ok (.aload_n 0, 1) := by decide +kernel
theorem dX11_beat_24 : decode cX11_beat 24 = .ok (.getfield 36, 3) := by decide +kernel
theorem dX11_beat_27 : decode cX11_beat 27 = .ok (.aload_n 0, 1) := by decide +kernel
theorem dX11_beat_28 : decode cX11_beat 28 = .ok (.getfield 29, 3) := by decide +kernel
theorem dX11_beat_31 : decode cX11_beat 31 = .ok (.invokevirtual 157, 3) := by decide +kernel
theorem dX11_beat_34 : decode cX11_beat 34 = .ok (.aload_n 0, 1) := by decide +kernel
theorem dX11_beat_35 : decode cX11_beat 35 = .ok (.getfield 29, 3) := by decide +kernel
theorem dX11_beat_38 : decode cX11_beat 38 = .ok (.aload_n 0, 1) := by decide +kernel
theorem dX11_beat_39 : decode cX11_beat 39 = .ok (.getfield 19, 3) := by decide +kernel
theorem dX11_beat_42 : decode cX11_beat 42 = .ok (.invokevirtual 161, 3) := by decide +kernel
theorem dX11_beat_45 : decode cX11_beat 45 = .ok (.aload_n 0, 1) := by decide +kernel
theorem dX11_beat_46 : decode cX11_beat 46 = .ok (.getfield 29, 3) := by decide +kernel
theorem dX11_beat_49 : decode cX11_beat 49 = .ok (.getfield 140, 3) := by decide +kernel
theorem dX11_beat_52 : decode cX11_beat 52 = .ok (.ireturn, 1) := by decide +kernel
theorem dX11_pinches_0 : decode cX11_pinches 0 = .ok (.aload_n 0, 1) := by decide +kernel
theorem dX11_pinches_1 : decode cX11_pinches 1 = .ok (.getfield 19, 3) := by decide +kernel
theorem dX11_pinches_4 : decode cX11_pinches 4 = .ok (.iload_n 1, 1) := by decide +kernel
theorem dX11_pinches_5 : decode cX11_pinches 5 = .ok (.invokevirtual 112, 3) := by decide +kernel
theorem dX11_pinches_8 : decode cX11_pinches 8 = .ok (.ifCond .ne 5, 3) := by decide +kernel
theorem dX11_pinches_11 : decode cX11_pinches 11 = .ok (.iconst (-1), 1) := by decide +kernel
theorem dX11_pinches_12 : decode cX11_pinches 12 = .ok (.ireturn, 1) := by decide +kernel
theorem dX11_pinches_13 : decode cX11_pinches 13 = .ok (.aload_n 0, 1) := by decide +kernel
theorem dX11_pinches_14 : decode cX11_pinches 14 = .ok (.invokevirtual 146, 3) := by decide +kernel
theorem dX11_pinches_17 : decode cX11_pinches 17 = .ok (.ifCond .eq 6, 3) := by decide +kernel
theorem dX11_pinches_20 : decode cX11_pinches 20 = .ok (.bipush (-2), 2) := by decide +kernel
theorem dX11_pinches_22 : decode cX11_pinches 22 = .ok (.ireturn, 1) := by decide +kernel
theorem dX11_pinches_23 : decode cX11_pinches 23 = .ok (.aload_n 0, 1) := by decide +kernel
theorem dX11_pinches_24 : decode cX11_pinches 24 = .ok (.iconst 1, 1) := by decide +kernel
theorem dX11_pinches_25 : decode cX11_pinches 25 = .ok (.iload_n 1, 1) := by decide +kernel
theorem dX11_pinches_26 : decode cX11_pinches 26 = .ok (.ishl, 1) := by decide +kernel
theorem dX11_pinches_27 : decode cX11_pinches 27 = .ok (.invokevirtual 164, 3) := by decide +kernel
theorem dX11_pinches_30 : decode cX11_pinches 30 = .ok (.aload_n 0, 1) := by decide +kernel
theorem dX11_pinches_31 : decode cX11_pinches 31 = .ok (.getfield 29, 3) := by decide +kernel
theorem dX11_pinches_34 : decode cX11_pinches 34 = .ok (.getfield 128, 3) := by decide +kernel
theorem dX11_pinches_37 : decode cX11_pinches 37 = .ok (.iload_n 1, 1) := by decide +kernel
theorem dX11_pinches_38 : decode cX11_pinches 38 = .ok (.iaload, 1) := by decide +kernel
theorem dX11_pinches_39 : decode cX11_pinches 39 = .ok (.ireturn, 1) := by decide +kernel
theorem dX11_quarrels_0 : decode cX11_quarrels 0 = .ok (.aload_n 0, 1) := by decide +kernel
theorem dX11_quarrels_1 : decode cX11_quarrels 1 = .ok (.getfield 19, 3) := by decide +kernel
theorem dX11_quarrels_4 : decode cX11_quarrels 4 = .ok (.iload_n 1, 1) := by decide +kernel
theorem dX11_quarrels_5 : decode cX11_quarrels 5 = .ok (.invokevirtual 112, 3) := by decide +kernel
theorem dX11_quarrels_8 : decode cX11_quarrels 8 = .ok (.ifCond .eq 19, 3) := by decide +kernel
theorem dX11_quarrels_11 : decode cX11_quarrels 11 = .ok (.aload_n 0, 1) := by decide +kernel
theorem dX11_quarrels_12 : decode cX11_quarrels 12 = .ok (.getfield 19, 3) := by decide +kernel
theorem dX11_quarrels_15 : decode cX11_quarrels 15 = .ok (.iload_n 2, 1) := by decide +kernel
theorem dX11_quarrels_16 : decode cX11_quarrels 16 = .ok (.invokevirtual 112, 3) := by decide +kernel
theorem dX11_quarrels_19 : decode cX11_quarrels 19 = .ok (.ifCond .eq 8, 3) := by decide +kernel
theorem dX11_quarrels_22 : decode cX11_quarrels 22 = .ok (.iload_n 1, 1) := by decide +kernel
theorem dX11_quarrels_23 : decode cX11_quarrels 23 = .ok (.iload_n 2, 1) := by decide +kernel
theorem dX11_quarrels_24 : decode cX11_quarrels 24 = .ok (.if_icmp .ne 5, 3) := by decide +kernel
theorem dX11_quarrels_27 : decode cX11_quarrels 27 = .ok (.iconst (-1), 1) := by decide +kernel
theorem dX11_quarrels_28 : decode cX11_quarrels 28 = .ok (.ireturn, 1) := by decide +kernel
theorem dX11_quarrels_29 : decode cX11_quarrels 29 = .ok (.aload_n 0, 1) := by decide +kernel
theorem dX11_quarrels_30 : decode cX11_quarrels 30 = .ok (.invokevirtual 146, 3) := by decide +kernel
theorem dX11_quarrels_33 : decode cX11_quarrels 33 = .ok (.ifCond .eq 6, 3) := by decide +kernel
theorem dX11_quarrels_36 : decode cX11_quarrels 36 = .ok (.bipush (-2), 2) := by decide +kernel
theorem dX11_quarrels_38 : decode cX11_quarrels 38 = .ok (.ireturn, 1) := by decide +kernel
theorem dX11_quarrels_39 : decode cX11_quarrels 39 = .ok (.aload_n 0, 1) := by decide +kernel
theorem dX11_quarrels_40 : decode cX11_quarrels 40 = .ok (.iconst 1, 1) := by decide +kernel
theorem dX11_quarrels_41 : decode cX11_quarrels 41 = .ok (.iload_n 1, 1) := by decide +kernel
theorem dX11_quarrels_42 : decode cX11_quarrels 42 = .ok (.ishl, 1) := by decide +kernel
theorem dX11_quarrels_43 : decode cX11_quarrels 43 = .ok (.iconst 1, 1) := by decide +kernel
theorem dX11_quarrels_44 : decode cX11_quarrels 44 = .ok (.iload_n 2, 1) := by decide +kernel
theorem dX11_quarrels_45 : decode cX11_quarrels 45 = .ok (.ishl, 1) := by decide +kernel
theorem dX11_quarrels_46 : decode cX11_quarrels 46 = .ok (.ior, 1) := by decide +kernel
theorem dX11_quarrels_47 : decode cX11_quarrels 47 = .ok (.invokevirtual 164, 3) := by decide +kernel
theorem dX11_quarrels_50 : decode cX11_quarrels 50 = .ok (.aload_n 0, 1) := by decide +kernel
theorem dX11_quarrels_51 : decode cX11_quarrels 51 = .ok (.getfield 19, 3) := by decide +kernel
theorem dX11_quarrels_54 : decode cX11_quarrels 54 = .ok (.aload_n 0, 1) := by decide +kernel
theorem dX11_quarrels_55 : decode cX11_quarrels 55 = .ok (.getfield 29, 3) := by decide +kernel
theorem dX11_quarrels_58 : decode cX11_quarrels 58 = .ok (.getfield 131, 3) := by decide +kernel
theorem dX11_quarrels_61 : decode cX11_quarrels 61 = .ok (.invokevirtual 143, 3) := by decide +kernel
theorem dX11_quarrels_64 : decode cX11_quarrels 64 = .ok (.ireturn, 1) := by decide +kernel
theorem dX11_sings_0 : decode cX11_sings 0 = .ok (.iload_n 1, 1) := by decide +kernel
theorem dX11_sings_1 : decode cX11_sings 1 = .ok (.iconst 1, 1) := by decide +kernel
theorem dX11_sings_2 : decode cX11_sings 2 = .ok (.if_icmp .lt 8, 3) := by decide +kernel
theorem dX11_sings_5 : decode cX11_sings 5 = .ok (.iload_n 1, 1) := by decide +kernel
theorem dX11_sings_6 : decode cX11_sings 6 = .ok (.iconst 3, 1) := by decide +kernel
theorem dX11_sings_7 : decode cX11_sings 7 = .ok (.if_icmp .le 5, 3) := by decide +kernel
theorem dX11_sings_10 : decode cX11_sings 10 = .ok (.iconst (-1), 1) := by decide +kernel
theorem dX11_sings_11 : decode cX11_sings 11 = .ok (.ireturn, 1) := by decide +kernel
theorem dX11_sings_12 : decode cX11_sings 12 = .ok (.aload_n 0, 1) := by decide +kernel
theorem dX11_sings_13 : decode cX11_sings 13 = .ok (.getfield 19, 3) := by decide +kernel
theorem dX11_sings_16 : decode cX11_sings 16 = .ok (.iload_n 1, 1) := by decide +kernel
theorem dX11_sings_17 : decode cX11_sings 17 = .ok (.invokevirtual 168, 3) := by decide +kernel
theorem dX11_sings_20 : decode cX11_sings 20 = .ok (.istore_n 2, 1) := by decide +kernel
theorem dX11_sings_21 : decode cX11_sings 21 = .ok (.aload_n 0, 1) := by decide +kernel
theorem dX11_sings_22 : decode cX11_sings 22 = .ok (.invokevirtual 146, 3) := by decide +kernel
theorem dX11_sings_25 : decode cX11_sings 25 = .ok (.ifCond .ne 7, 3) := by decide +kernel
theorem dX11_sings_28 : decode cX11_sings 28 = .ok (.iload_n 2, 1) := by decide +kernel
theorem dX11_sings_29 : decode cX11_sings 29 = .ok (.ifCond .ne 6, 3) := by decide +kernel
theorem dX11_sings_32 : decode cX11_sings 32 = .ok (.bipush (-2), 2) := by decide +kernel
theorem dX11_sings_34 : decode cX11_sings 34 = .ok (.ireturn, 1) := by decide +kernel
theorem dX11_sings_35 : decode cX11_sings 35 = .ok (.aload_n 0, 1) := by decide +kernel
theorem dX11_sings_36 : decode cX11_sings 36 = .ok (.iload_n 2, 1) := by decide +kernel
theorem dX11_sings_37 : decode cX11_sings 37 = .ok (.invokevirtual 164, 3) := by decide +kernel
theorem dX11_sings_40 : decode cX11_sings 40 = .ok (.aload_n 0, 1) := by decide +kernel
theorem dX11_sings_41 : decode cX11_sings 41 = .ok (.getfield 19, 3) := by decide +kernel
theorem dX11_sings_44 : decode cX11_sings 44 = .ok (.aload_n 0, 1) := by decide +kernel
theorem dX11_sings_45 : decode cX11_sings 45 = .ok (.getfield 29, 3) := by decide +kernel
theorem dX11_sings_48 : decode cX11_sings 48 = .ok (.getfield 131, 3) := by decide +kernel
theorem dX11_sings_51 : decode cX11_sings 51 = .ok (.invokevirtual 143, 3) := by decide +kernel
theorem dX11_sings_54 : decode cX11_sings 54 = .ok (.ireturn, 1) := by decide +kernel
theorem dX11_undo_0 : decode cX11_undo 0 = .ok (.aload_n 0, 1) := by decide +kernel
theorem dX11_undo_1 : decode cX11_undo 1 = .ok (.getfield 36, 3) := by decide +kernel
theorem dX11_undo_4 : decode cX11_undo 4 = .ok (.aload_n 0, 1) := by decide +kernel
theorem dX11_undo_5 : decode cX11_undo 5 = .ok (.getfield 29, 3) := by decide +kernel
theorem dX11_undo_8 : decode cX11_undo 8 = .ok (.invokevirtual 171, 3) := by decide +kernel
theorem dX11_undo_11 : decode cX11_undo 11 = .ok (.ifCond .eq 13, 3) := by decide +kernel
theorem dX11_undo_14 : decode cX11_undo 14 = .ok (.aload_n 0, 1) := by decide +kernel
theorem dX11_undo_15 : decode cX11_undo 15 = .ok (.getfield 36, 3) := by decide +kernel
theorem dX11_undo_18 : decode cX11_undo 18 = .ok (.getfield 154, 3) := by decide +kernel
theorem dX11_undo_21 : decode cX11_undo 21 = .ok (.goto 5, 3) := by decide +kernel
theorem dX11_undo_24 : decode cX11_undo 24 = .ok (.bipush (-2), 2) := by decide +kernel
theorem dX11_undo_26 : decode cX11_undo 26 = .ok (.ireturn, 1) := by decide +kernel
theorem dX11_isOver_0 : decode cX11_isOver 0 = .ok (.aload_n 0, 1) := by decide +kernel
theorem dX11_isOver_1 : decode cX11_isOver 1 = .ok (.getfield 19, 3) := by decide +kernel
theorem dX11_isOver_4 : decode cX11_isOver 4 = .ok (.aload_n 0, 1) := by decide +kernel
theorem dX11_isOver_5 : decode cX11_isOver 5 = .ok (.getfield 29, 3) := by decide +kernel
theorem dX11_isOver_8 : decode cX11_isOver 8 = .ok (.getfield 140, 3) := by decide +kernel
theorem dX11_isOver_11 : decode cX11_isOver 11 = .ok (.invokevirtual 175, 3) := by decide +kernel
theorem dX11_isOver_14 : decode cX11_isOver 14 = .ok (.ireturn, 1) := by decide +kernel
theorem dX11_utter_0 : decode cX11_utter 0 = .ok (.aload_n 0, 1) := by decide +kernel
theorem dX11_utter_1 : decode cX11_utter 1 = .ok (.getfield 36, 3) := by decide +kernel
theorem dX11_utter_4 : decode cX11_utter 4 = .ok (.aload_n 0, 1) := by decide +kernel
theorem dX11_utter_5 : decode cX11_utter 5 = .ok (.getfield 29, 3) := by decide +kernel
theorem dX11_utter_8 : decode cX11_utter 8 = .ok (.invokevirtual 157, 3) := by decide +kernel
theorem dX11_utter_11 : decode cX11_utter 11 = .ok (.aload_n 0, 1) := by decide +kernel
theorem dX11_utter_12 : decode cX11_utter 12 = .ok (.getfield 29, 3) := by decide +kernel
theorem dX11_utter_15 : decode cX11_utter 15 = .ok (.aload_n 0, 1) := by decide +kernel
theorem dX11_utter_16 : decode cX11_utter 16 = .ok (.getfield 19, 3) := by decide +kernel
theorem dX11_utter_19 : decode cX11_utter 19 = .ok (.iload_n 1, 1) := by decide +kernel
theorem dX11_utter_20 : decode cX11_utter 20 = .ok (.invokevirtual 177, 3) := by decide +kernel
theorem dX11_utter_23 : decode cX11_utter 23 = .ok (.return_, 1) := by decide +kernel
theorem dX11_inBeats_0 : decode cX11_inBeats 0 = .ok (.iload_n 1, 1) := by decide +kernel
theorem dX11_inBeats_1 : decode cX11_inBeats 1 = .ok (.ifCond .lt 19, 3) := by decide +kernel
theorem dX11_inBeats_4 : decode cX11_inBeats 4 = .ok (.iload_n 1, 1) := by decide +kernel
theorem dX11_inBeats_5 : decode cX11_inBeats 5 = .ok (.sipush 200, 3) := by decide +kernel
theorem dX11_inBeats_8 : decode cX11_inBeats 8 = .ok (.if_icmp .gt 12, 3) := by decide +kernel
theorem dX11_inBeats_11 : decode cX11_inBeats 11 = .ok (.iload_n 2, 1) := by decide +kernel
theorem dX11_inBeats_12 : decode cX11_inBeats 12 = .ok (.ifCond .lt 8, 3) := by decide +kernel
theorem dX11_inBeats_15 : decode cX11_inBeats 15 = .ok (.iload_n 2, 1) := by decide +kernel
theorem dX11_inBeats_16 : decode cX11_inBeats 16 = .ok (.iconst 2, 1) := by decide +kernel
theorem dX11_inBeats_17 : decode cX11_inBeats 17 = .ok (.if_icmp .le 5, 3) := by decide +kernel
theorem dX11_inBeats_20 : decode cX11_inBeats 20 = .ok (.iconst (-1), 1) := by decide +kernel
theorem dX11_inBeats_21 : decode cX11_inBeats 21 = .ok (.ireturn, 1) := by decide +kernel
theorem dX11_inBeats_22 : decode cX11_inBeats 22 = .ok (.aload_n 0, 1) := by decide +kernel
theorem dX11_inBeats_23 : decode cX11_inBeats 23 = .ok (.invokevirtual 181, 3) := by decide +kernel
theorem dX11_inBeats_26 : decode cX11_inBeats 26 = .ok (.astore_n 3, 1) := by decide +kernel
theorem dX11_inBeats_27 : decode cX11_inBeats 27 = .ok (.iconst 0, 1) := by decide +kernel
theorem dX11_inBeats_28 : decode cX11_inBeats 28 = .ok (.istore 4, 2) := by decide +kernel
theorem dX11_inBeats_30 : decode cX11_inBeats 30 = .ok (.iload 4, 2) := by decide +kernel
theorem dX11_inBeats_32 : decode cX11_inBeats 32 = .ok (.iload_n 1, 1) := by decide +kernel
theorem dX11_inBeats_33 : decode cX11_inBeats 33 = .ok (.if_icmp .ge 17, 3) := by decide +kernel
theorem dX11_inBeats_36 : decode cX11_inBeats 36 = .ok (.aload_n 3, 1) := by decide +kernel
theorem dX11_inBeats_37 : decode cX11_inBeats 37 = .ok (.aload_n 0, 1) := by decide +kernel
theorem dX11_inBeats_38 : decode cX11_inBeats 38 = .ok (.getfield 19, 3) := by decide +kernel
theorem dX11_inBeats_41 : decode cX11_inBeats 41 = .ok (.invokevirtual 161, 3) := by decide +kernel
theorem dX11_inBeats_44 : decode cX11_inBeats 44 = .ok (.iinc 4 1, 3) := by decide +kernel
theorem dX11_inBeats_47 : decode cX11_inBeats 47 = .ok (.goto (-17), 3) := by decide +kernel
theorem dX11_inBeats_50 : decode cX11_inBeats 50 = .ok (.iload_n 2, 1) := by decide +kernel
theorem dX11_inBeats_51 : decode cX11_inBeats 51 = .ok (.ifCond .ne 8, 3) := by decide +kernel
theorem dX11_inBeats_54 : decode cX11_inBeats 54 = .ok (.aload_n 3, 1) := by decide +kernel
theorem dX11_inBeats_55 : decode cX11_inBeats 55 = .ok (.getfield 140, 3) := by decide +kernel
theorem dX11_inBeats_58 : decode cX11_inBeats 58 = .ok (.ireturn, 1) := by decide +kernel
theorem dX11_inBeats_59 : decode cX11_inBeats 59 = .ok (.iload_n 2, 1) := by decide +kernel
theorem dX11_inBeats_60 : decode cX11_inBeats 60 = .ok (.iconst 1, 1) := by decide +kernel
theorem dX11_inBeats_61 : decode cX11_inBeats 61 = .ok (.if_icmp .ne 10, 3) := by decide +kernel
theorem dX11_inBeats_64 : decode cX11_inBeats 64 = .ok (.aload_n 3, 1) := by decide +kernel
theorem dX11_inBeats_65 : decode cX11_inBeats 65 = .ok (.getfield 131, 3) := by decide +kernel
theorem dX11_inBeats_68 : decode cX11_inBeats 68 = .ok (.goto 15, 3) := by decide +kernel
theorem dX11_inBeats_71 : decode cX11_inBeats 71 = .ok (.aload_n 3, 1) := by decide +kernel
theorem dX11_inBeats_72 : decode cX11_inBeats 72 = .ok (.invokevirtual 150, 3) := by decide +kernel
theorem dX11_inBeats_75 : decode cX11_inBeats 75 = .ok (.aload_n 0, 1) := by decide +kernel
theorem dX11_inBeats_76 : decode cX11_inBeats 76 = .ok (.getfield 29, 3) := by decide +kernel
theorem dX11_inBeats_79 : decode cX11_inBeats 79 = .ok (.invokevirtual 150, 3) := by decide +kernel
theorem dX11_inBeats_82 : decode cX11_inBeats 82 = .ok (.isub, 1) := by decide +kernel
theorem dX11_inBeats_83 : decode cX11_inBeats 83 = .ok (.ireturn, 1) := by decide +kernel
theorem dX11_ends_0 : decode cX11_ends 0 = .ok (.aload_n 0, 1) := by decide +kernel
theorem dX11_ends_1 : decode cX11_ends 1 = .ok (.invokevirtual 181, 3) := by decide +kernel
theorem dX11_ends_4 : decode cX11_ends 4 = .ok (.aload_n 0, 1) := by decide +kernel
theorem dX11_ends_5 : decode cX11_ends 5 = .ok (.getfield 19, 3) := by decide +kernel
theorem dX11_ends_8 : decode cX11_ends 8 = .ok (.sipush 400, 3) := by decide +kernel
theorem dX11_ends_11 : decode cX11_ends 11 = .ok (.invokevirtual 185, 3) := by decide +kernel
theorem dX11_ends_14 : decode cX11_ends 14 = .ok (.ireturn, 1) := by decide +kernel
theorem dX11_last_0 : decode cX11_last 0 = .ok (.aload_n 0, 1) := by decide +kernel
theorem dX11_last_1 : decode cX11_last 1 = .ok (.invokevirtual 181, 3) := by decide +kernel
theorem dX11_last_4 : decode cX11_last 4 = .ok (.astore_n 1, 1) := by decide +kernel
theorem dX11_last_5 : decode cX11_last 5 = .ok (.aload_n 1, 1) := by decide +kernel
theorem dX11_last_6 : decode cX11_last 6 = .ok (.aload_n 0, 1) := by decide +kernel
theorem dX11_last_7 : decode cX11_last 7 = .ok (.getfield 19, 3) := by decide +kernel
theorem dX11_last_10 : decode cX11_last 10 = .ok (.sipush 400, 3) := by decide +kernel
theorem dX11_last_13 : decode cX11_last 13 = .ok (.invokevirtual 185, 3) := by decide +kernel
theorem dX11_last_16 : decode cX11_last 16 = .ok (.bipush (-9), 2) := by decide +kernel
theorem dX11_last_18 : decode cX11_last 18 = .ok (.if_icmp .ne 8, 3) := by decide +kernel
theorem dX11_last_21 : decode cX11_last 21 = .ok (.bipush (-9), 2) := by decide +kernel
theorem dX11_last_23 : decode cX11_last 23 = .ok (.goto 7, 3) := by decide +kernel
theorem dX11_last_26 : decode cX11_last 26 = .ok (.aload_n 1, 1) := by decide +kernel
theorem dX11_last_27 : decode cX11_last 27 = .ok (.getfield 131, 3) := by decide +kernel
theorem dX11_last_30 : decode cX11_last 30 = .ok (.ireturn, 1) := by decide +kernel
theorem dX11_first_0 : decode cX11_first 0 = .ok (.iload_n 1, 1) := by decide +kernel
theorem dX11_first_1 : decode cX11_first 1 = .ok (.ifCond .lt 8, 3) := by decide +kernel
theorem dX11_first_4 : decode cX11_first 4 = .ok (.iload_n 1, 1) := by decide +kernel
theorem dX11_first_5 : decode cX11_first 5 = .ok (.iconst 1, 1) := by decide +kernel
theorem dX11_first_6 : decode cX11_first 6 = .ok (.if_icmp .le 5, 3) := by decide +kernel
theorem dX11_first_9 : decode cX11_first 9 = .ok (.iconst (-1), 1) := by decide +kernel
theorem dX11_first_10 : decode cX11_first 10 = .ok (.ireturn, 1) := by decide +kernel
theorem dX11_first_11 : decode cX11_first 11 = .ok (.aload_n 0, 1) := by decide +kernel
theorem dX11_first_12 : decode cX11_first 12 = .ok (.getfield 19, 3) := by decide +kernel
theorem dX11_first_15 : decode cX11_first 15 = .ok (.getfield 189, 3) := by decide +kernel
theorem dX11_first_18 : decode cX11_first 18 = .ok (.ifCond .ne 6, 3) := by decide +kernel
theorem dX11_first_21 : decode cX11_first 21 = .ok (.bipush (-9), 2) := by decide +kernel
theorem dX11_first_23 : decode cX11_first 23 = .ok (.ireturn, 1) := by decide +kernel
theorem dX11_first_24 : decode cX11_first 24 = .ok (.iload_n 1, 1) := by decide +kernel
theorem dX11_first_25 : decode cX11_first 25 = .ok (.ifCond .ne 21, 3) := by decide +kernel
theorem dX11_first_28 : decode cX11_first 28 = .ok (.aload_n 0, 1) := by decide +kernel
theorem dX11_first_29 : decode cX11_first 29 = .ok (.getfield 29, 3) := by decide +kernel
theorem dX11_first_32 : decode cX11_first 32 = .ok (.getfield 192, 3) := by decide +kernel
theorem dX11_first_35 : decode cX11_first 35 = .ok (.aload_n 0, 1) := by decide +kernel
theorem dX11_first_36 : decode cX11_first 36 = .ok (.getfield 29, 3) := by decide +kernel
theorem dX11_first_39 : decode cX11_first 39 = .ok (.getfield 137, 3) := by decide +kernel
theorem dX11_first_42 : decode cX11_first 42 = .ok (.isub, 1) := by decide +kernel
theorem dX11_first_43 : decode cX11_first 43 = .ok (.goto 21, 3) := by decide +kernel
theorem dX11_first_46 : decode cX11_first 46 = .ok (.aload_n 0, 1) := by decide +kernel
theorem dX11_first_47 : decode cX11_first 47 = .ok (.getfield 29, 3) := by decide +kernel
theorem dX11_first_50 : decode cX11_first 50 = .ok (.aload_n 0, 1) := by decide +kernel
theorem dX11_first_51 : decode cX11_first 51 = .ok (.getfield 19, 3) := by decide +kernel
theorem dX11_first_54 : decode cX11_first 54 = .ok (.aload_n 0, 1) := by decide +kernel
theorem dX11_first_55 : decode cX11_first 55 = .ok (.getfield 29, 3) := by decide +kernel
theorem dX11_first_58 : decode cX11_first 58 = .ok (.getfield 192, 3) := by decide +kernel
theorem dX11_first_61 : decode cX11_first 61 = .ok (.invokevirtual 195, 3) := by decide +kernel
theorem dX11_first_64 : decode cX11_first 64 = .ok (.ireturn, 1) := by decide +kernel
theorem dX11_ring_0 : decode cX11_ring 0 = .ok (.aload_n 0, 1) := by decide +kernel
theorem dX11_ring_1 : decode cX11_ring 1 = .ok (.invokevirtual 181, 3) := by decide +kernel
theorem dX11_ring_4 : decode cX11_ring 4 = .ok (.astore_n 1, 1) := by decide +kernel
theorem dX11_ring_5 : decode cX11_ring 5 = .ok (.iconst 1, 1) := by decide +kernel
theorem dX11_ring_6 : decode cX11_ring 6 = .ok (.istore_n 2, 1) := by decide +kernel
theorem dX11_ring_7 : decode cX11_ring 7 = .ok (.iload_n 2, 1) := by decide +kernel
theorem dX11_ring_8 : decode cX11_ring 8 = .ok (.sipush 400, 3) := by decide +kernel
theorem dX11_ring_11 : decode cX11_ring 11 = .ok (.if_icmp .gt 34, 3) := by decide +kernel
theorem dX11_ring_14 : decode cX11_ring 14 = .ok (.aload_n 1, 1) := by decide +kernel
theorem dX11_ring_15 : decode cX11_ring 15 = .ok (.aload_n 0, 1) := by decide +kernel
theorem dX11_ring_16 : decode cX11_ring 16 = .ok (.getfield 19, 3) := by decide +kernel
theorem dX11_ring_19 : decode cX11_ring 19 = .ok (.invokevirtual 198, 3) := by decide +kernel
theorem dX11_ring_22 : decode cX11_ring 22 = .ok (.aload_n 1, 1) := by decide +kernel
theorem dX11_ring_23 : decode cX11_ring 23 = .ok (.aload_n 0, 1) := by decide +kernel
theorem dX11_ring_24 : decode cX11_ring 24 = .ok (.getfield 19, 3) := by decide +kernel
theorem dX11_ring_27 : decode cX11_ring 27 = .ok (.aload_n 0, 1) := by decide +kernel
theorem dX11_ring_28 : decode cX11_ring 28 = .ok (.getfield 29, 3) := by decide +kernel
theorem dX11_ring_31 : decode cX11_ring 31 = .ok (.invokevirtual 201, 3) := by decide +kernel
theorem dX11_ring_34 : decode cX11_ring 34 = .ok (.ifCond .eq 5, 3) := by decide +kernel
theorem dX11_ring_37 : decode cX11_ring 37 = .ok (.iload_n 2, 1) := by decide +kernel
theorem dX11_ring_38 : decode cX11_ring 38 = .ok (.ireturn, 1) := by decide +kernel
theorem dX11_ring_39 : decode cX11_ring 39 = .ok (.iinc 2 1, 3) := by decide +kernel
theorem dX11_ring_42 : decode cX11_ring 42 = .ok (.goto (-35), 3) := by decide +kernel
theorem dX11_ring_45 : decode cX11_ring 45 = .ok (.bipush (-9), 2) := by decide +kernel
theorem dX11_ring_47 : decode cX11_ring 47 = .ok (.ireturn, 1) := by decide +kernel
theorem dX11_drift_0 : decode cX11_drift 0 = .ok (.aload_n 0, 1) := by decide +kernel
theorem dX11_drift_1 : decode cX11_drift 1 = .ok (.invokevirtual 181, 3) := by decide +kernel
theorem dX11_drift_4 : decode cX11_drift 4 = .ok (.astore_n 1, 1) := by decide +kernel
theorem dX11_drift_5 : decode cX11_drift 5 = .ok (.iconst 1, 1) := by decide +kernel
theorem dX11_drift_6 : decode cX11_drift 6 = .ok (.istore_n 2, 1) := by decide +kernel
theorem dX11_drift_7 : decode cX11_drift 7 = .ok (.iload_n 2, 1) := by decide +kernel
theorem dX11_drift_8 : decode cX11_drift 8 = .ok (.sipush 400, 3) := by decide +kernel
theorem dX11_drift_11 : decode cX11_drift 11 = .ok (.if_icmp .gt 47, 3) := by decide +kernel
theorem dX11_drift_14 : decode cX11_drift 14 = .ok (.aload_n 0, 1) := by decide +kernel
theorem dX11_drift_15 : decode cX11_drift 15 = .ok (.getfield 19, 3) := by decide +kernel
theorem dX11_drift_18 : decode cX11_drift 18 = .ok (.aload_n 1, 1) := by decide +kernel
theorem dX11_drift_19 : decode cX11_drift 19 = .ok (.getfield 140, 3) := by decide +kernel
theorem dX11_drift_22 : decode cX11_drift 22 = .ok (.invokevirtual 175, 3) := by decide +kernel
theorem dX11_drift_25 : decode cX11_drift 25 = .ok (.ifCond .ne 33, 3) := by decide +kernel
theorem dX11_drift_28 : decode cX11_drift 28 = .ok (.aload_n 1, 1) := by decide +kernel
theorem dX11_drift_29 : decode cX11_drift 29 = .ok (.aload_n 0, 1) := by decide +kernel
theorem dX11_drift_30 : decode cX11_drift 30 = .ok (.getfield 19, 3) := by decide +kernel
theorem dX11_drift_33 : decode cX11_drift 33 = .ok (.invokevirtual 161, 3) := by decide +kernel
theorem dX11_drift_36 : decode cX11_drift 36 = .ok (.aload_n 1, 1) := by decide +kernel
theorem dX11_drift_37 : decode cX11_drift 37 = .ok (.getfield 140, 3) := by decide +kernel
theorem dX11_drift_40 : decode cX11_drift 40 = .ok (.aload_n 0, 1) := by decide +kernel
theorem dX11_drift_41 : decode cX11_drift 41 = .ok (.getfield 29, 3) := by decide +kernel
theorem dX11_drift_44 : decode cX11_drift 44 = .ok (.getfield 140, 3) := by decide +kernel
theorem dX11_drift_47 : decode cX11_drift 47 = .ok (.if_icmp .ge 5, 3) := by decide +kernel
theorem dX11_drift_50 : decode cX11_drift 50 = .ok (.iload_n 2, 1) := by decide +kernel
theorem dX11_drift_51 : decode cX11_drift 51 = .ok (.ireturn, 1) := by decide +kernel
theorem dX11_drift_52 : decode cX11_drift 52 = .ok (.iinc 2 1, 3) := by decide +kernel
theorem dX11_drift_55 : decode cX11_drift 55 = .ok (.goto (-48), 3) := by decide +kernel
theorem dX11_drift_58 : decode cX11_drift 58 = .ok (.bipush (-9), 2) := by decide +kernel
theorem dX11_drift_60 : decode cX11_drift 60 = .ok (.ireturn, 1) := by decide +kernel
theorem dX11_copyOfNow_0 : decode cX11_copyOfNow 0 = .ok (.aload_n 0, 1) := by decide +kernel
theorem dX11_copyOfNow_1 : decode cX11_copyOfNow 1 = .ok (.getfield 51, 3) := by decide +kernel
theorem dX11_copyOfNow_4 : decode cX11_copyOfNow 4 = .ok (.iconst 0, 1) := by decide +kernel
theorem dX11_copyOfNow_5 : decode cX11_copyOfNow 5 = .ok (.aaload, 1) := by decide +kernel
theorem dX11_copyOfNow_6 : decode cX11_copyOfNow 6 = .ok (.aload_n 0, 1) := by decide +kernel
theorem dX11_copyOfNow_7 : decode cX11_copyOfNow 7 = .ok (.getfield 29, 3) := by decide +kernel
theorem dX11_copyOfNow_10 : decode cX11_copyOfNow 10 = .ok (.invokevirtual 205, 3) := by decide +kernel
theorem dX11_copyOfNow_13 : decode cX11_copyOfNow 13 = .ok (.aload_n 0, 1) := by decide +kernel
theorem dX11_copyOfNow_14 : decode cX11_copyOfNow 14 = .ok (.getfield 51, 3) := by decide +kernel
theorem dX11_copyOfNow_17 : decode cX11_copyOfNow 17 = .ok (.iconst 0, 1) := by decide +kernel
theorem dX11_copyOfNow_18 : decode cX11_copyOfNow 18 = .ok (.aaload, 1) := by decide +kernel
theorem dX11_copyOfNow_19 : decode cX11_copyOfNow 19 = .ok (.areturn, 1) := by decide +kernel
theorem dX11_countPinchable_0 : decode cX11_countPinchable 0 = .ok (.aload_n 0, 1) := by decide +kernel
theorem dX11_countPinchable_1 : decode cX11_countPinchable 1 = .ok (.invokevirtual 146, 3) := by decide +kernel
theorem dX11_countPinchable_4 : decode cX11_countPinchable 4 = .ok (.ifCond .eq 7, 3) := by decide +kernel
theorem dX11_countPinchable_7 : decode cX11_countPinchable 7 = .ok (.iconst 0, 1) := by decide +kernel
theorem dX11_countPinchable_8 : decode cX11_countPinchable 8 = .ok (.goto 10, 3) := by decide +kernel
theorem dX11_countPinchable_11 : decode cX11_countPinchable 11 = .ok (.aload_n 0, 1) := by decide +kernel
theorem dX11_countPinchable_12 : decode cX11_countPinchable 12 = .ok (.getfield 19, 3) := by decide +kernel
theorem dX11_countPinchable_15 : decode cX11_countPinchable 15 = .ok (.getfield 189, 3) := by decide +kernel
theorem dX11_countPinchable_18 : decode cX11_countPinchable 18 = .ok (.ireturn, 1) := by decide +kernel
theorem dX11_copyWherePinched_0 : decode cX11_copyWherePinched 0 = .ok (.aload_n 0, 1) := by decide +kernel
theorem dX11_copyWherePinched_1 : decode cX11_copyWherePinched 1 = .ok (.invokevirtual 181, 3) := by decide +kernel
theorem dX11_copyWherePinched_4 : decode cX11_copyWherePinched 4 = .ok (.astore_n 2, 1) := by decide +kernel
theorem dX11_copyWherePinched_5 : decode cX11_copyWherePinched 5 = .ok (.aload_n 2, 1) := by decide +kernel
theorem dX11_copyWherePinched_6 : decode cX11_copyWherePinched 6 = .ok (.aload_n 0, 1) := by decide +kernel
theorem dX11_copyWherePinched_7 : decode cX11_copyWherePinched 7 = .ok (.getfield 19, 3) := by decide +kernel
theorem dX11_copyWherePinched_10 : decode cX11_copyWherePinched 10 = .ok (.iconst 1, 1) := by decide +kernel
theorem dX11_copyWherePinched_11 : decode cX11_copyWherePinched 11 = .ok (.iload_n 1, 1) := by decide +kernel
theorem dX11_copyWherePinched_12 : decode cX11_copyWherePinched 12 = .ok (.ishl, 1) := by decide +kernel
theorem dX11_copyWherePinched_13 : decode cX11_copyWherePinched 13 = .ok (.invokevirtual 177, 3) := by decide +kernel
theorem dX11_copyWherePinched_16 : decode cX11_copyWherePinched 16 = .ok (.aload_n 2, 1) := by decide +kernel
theorem dX11_copyWherePinched_17 : decode cX11_copyWherePinched 17 = .ok (.areturn, 1) := by decide +kernel
theorem dX11_plan_0 : decode cX11_plan 0 = .ok (.iload_n 1, 1) := by decide +kernel
theorem dX11_plan_1 : decode cX11_plan 1 = .ok (.iconst 1, 1) := by decide +kernel
theorem dX11_plan_2 : decode cX11_plan 2 = .ok (.if_icmp .lt 28, 3) := by decide +kernel
theorem dX11_plan_5 : decode cX11_plan 5 = .ok (.iload_n 1, 1) := by decide +kernel
theorem dX11_plan_6 : decode cX11_plan 6 = .ok (.iconst 3, 1) := by decide +kernel
theorem dX11_plan_7 : decode cX11_plan 7 = .ok (.if_icmp .gt 23, 3) := by decide +kernel
theorem dX11_plan_10 : decode cX11_plan 10 = .ok (.iload_n 2, 1) := by decide +kernel
theorem dX11_plan_11 : decode cX11_plan 11 = .ok (.ifCond .lt 19, 3) := by decide +kernel
theorem dX11_plan_14 : decode cX11_plan 14 = .ok (.iload_n 2, 1) := by decide +kernel
theorem dX11_plan_15 : decode cX11_plan 15 = .ok (.bipush 60, 2) := by decide +kernel
theorem dX11_plan_17 : decode cX11_plan 17 = .ok (.if_icmp .gt 13, 3) := by decide +kernel
theorem dX11_plan_20 : decode cX11_plan 20 = .ok (.iload_n 3, 1) := by decide +kernel
theorem dX11_plan_21 : decode cX11_plan 21 = .ok (.iconst (-1), 1) := by decide +kernel
theorem dX11_plan_22 : decode cX11_plan 22 = .ok (.if_icmp .lt 8, 3) := by decide +kernel
theorem dX11_plan_25 : decode cX11_plan 25 = .ok (.iload_n 3, 1) := by decide +kernel
theorem dX11_plan_26 : decode cX11_plan 26 = .ok (.iconst 3, 1) := by decide +kernel
theorem dX11_plan_27 : decode cX11_plan 27 = .ok (.if_icmp .lt 5, 3) := by decide +kernel
theorem dX11_plan_30 : decode cX11_plan 30 = .ok (.iconst (-1), 1) := by decide +kernel
theorem dX11_plan_31 : decode cX11_plan 31 = .ok (.ireturn, 1) := by decide +kernel
theorem dX11_plan_32 : decode cX11_plan 32 = .ok (.iload_n 3, 1) := by decide +kernel
theorem dX11_plan_33 : decode cX11_plan 33 = .ok (.iload_n 1, 1) := by decide +kernel
theorem dX11_plan_34 : decode cX11_plan 34 = .ok (.if_icmp .lt 6, 3) := by decide +kernel
theorem dX11_plan_37 : decode cX11_plan 37 = .ok (.bipush (-9), 2) := by decide +kernel
theorem dX11_plan_39 : decode cX11_plan 39 = .ok (.ireturn, 1) := by decide +kernel
theorem dX11_plan_40 : decode cX11_plan 40 = .ok (.aload_n 0, 1) := by decide +kernel
theorem dX11_plan_41 : decode cX11_plan 41 = .ok (.getfield 57, 3) := by decide +kernel
theorem dX11_plan_44 : decode cX11_plan 44 = .ok (.aload_n 0, 1) := by decide +kernel
theorem dX11_plan_45 : decode cX11_plan 45 = .ok (.getfield 19, 3) := by decide +kernel
theorem dX11_plan_48 : decode cX11_plan 48 = .ok (.aload_n 0, 1) := by decide +kernel
theorem dX11_plan_49 : decode cX11_plan 49 = .ok (.getfield 29, 3) := by decide +kernel
theorem dX11_plan_52 : decode cX11_plan 52 = .ok (.iload_n 1, 1) := by decide +kernel
theorem dX11_plan_53 : decode cX11_plan 53 = .ok (.iload_n 2, 1) := by decide +kernel
theorem dX11_plan_54 : decode cX11_plan 54 = .ok (.invokevirtual 208, 3) := by decide +kernel
theorem dX11_plan_57 : decode cX11_plan 57 = .ok (.aload_n 0, 1) := by decide +kernel
theorem dX11_plan_58 : decode cX11_plan 58 = .ok (.getfield 57, 3) := by decide +kernel
theorem dX11_plan_61 : decode cX11_plan 61 = .ok (.getfield 212, 3) := by decide +kernel
theorem dX11_plan_64 : decode cX11_plan 64 = .ok (.sipush 400, 3) := by decide +kernel
theorem dX11_plan_67 : decode cX11_plan 67 = .ok (.if_icmp .le 6, 3) := by decide +kernel
theorem dX11_plan_70 : decode cX11_plan 70 = .ok (.bipush (-9), 2) := by decide +kernel
theorem dX11_plan_72 : decode cX11_plan 72 = .ok (.ireturn, 1) := by decide +kernel
theorem dX11_plan_73 : decode cX11_plan 73 = .ok (.iload_n 3, 1) := by decide +kernel
theorem dX11_plan_74 : decode cX11_plan 74 = .ok (.ifCond .ge 13, 3) := by decide +kernel
theorem dX11_plan_77 : decode cX11_plan 77 = .ok (.aload_n 0, 1) := by decide +kernel
theorem dX11_plan_78 : decode cX11_plan 78 = .ok (.getfield 57, 3) := by decide +kernel
theorem dX11_plan_81 : decode cX11_plan 81 = .ok (.getfield 212, 3) := by decide +kernel
theorem dX11_plan_84 : decode cX11_plan 84 = .ok (.goto 12, 3) := by decide +kernel
theorem dX11_plan_87 : decode cX11_plan 87 = .ok (.aload_n 0, 1) := by decide +kernel
theorem dX11_plan_88 : decode cX11_plan 88 = .ok (.getfield 57, 3) := by decide +kernel
theorem dX11_plan_91 : decode cX11_plan 91 = .ok (.getfield 215, 3) := by decide +kernel
theorem dX11_plan_94 : decode cX11_plan 94 = .ok (.iload_n 3, 1) := by decide +kernel
theorem dX11_plan_95 : decode cX11_plan 95 = .ok (.iaload, 1) := by decide +kernel
theorem dX11_plan_96 : decode cX11_plan 96 = .ok (.ireturn, 1) := by decide +kernel
theorem dX11_best_0 : decode cX11_best 0 = .ok (.bipush (-9), 2) := by decide +kernel
theorem dX11_best_2 : decode cX11_best 2 = .ok (.istore_n 1, 1) := by decide +kernel
theorem dX11_best_3 : decode cX11_best 3 = .ok (.sipush 401, 3) := by decide +kernel
theorem dX11_best_6 : decode cX11_best 6 = .ok (.istore_n 2, 1) := by decide +kernel
theorem dX11_best_7 : decode cX11_best 7 = .ok (.aload_n 0, 1) := by decide +kernel
theorem dX11_best_8 : decode cX11_best 8 = .ok (.invokevirtual 218, 3) := by decide +kernel
theorem dX11_best_11 : decode cX11_best 11 = .ok (.istore_n 3, 1) := by decide +kernel
theorem dX11_best_12 : decode cX11_best 12 = .ok (.iconst 0, 1) := by decide +kernel
theorem dX11_best_13 : decode cX11_best 13 = .ok (.istore 4, 2) := by decide +kernel
theorem dX11_best_15 : decode cX11_best 15 = .ok (.iload 4, 2) := by decide +kernel
theorem dX11_best_17 : decode cX11_best 17 = .ok (.iload_n 3, 1) := by decide +kernel
theorem dX11_best_18 : decode cX11_best 18 = .ok (.if_icmp .ge 40, 3) := by decide +kernel
theorem dX11_best_21 : decode cX11_best 21 = .ok (.aload_n 0, 1) := by decide +kernel
theorem dX11_best_22 : decode cX11_best 22 = .ok (.iload 4, 2) := by decide +kernel
theorem dX11_best_24 : decode cX11_best 24 = .ok (.invokevirtual 221, 3) := by decide +kernel
theorem dX11_best_27 : decode cX11_best 27 = .ok (.aload_n 0, 1) := by decide +kernel
theorem dX11_best_28 : decode cX11_best 28 = .ok (.getfield 19, 3) := by decide +kernel
theorem dX11_best_31 : decode cX11_best 31 = .ok (.iload_n 2, 1) := by decide +kernel
theorem dX11_best_32 : decode cX11_best 32 = .ok (.iconst 1, 1) := by decide +kernel
theorem dX11_best_33 : decode cX11_best 33 = .ok (.isub, 1) := by decide +kernel
theorem dX11_best_34 : decode cX11_best 34 = .ok (.invokevirtual 185, 3) := by decide +kernel
theorem dX11_best_37 : decode cX11_best 37 = .ok (.istore 5, 2) := by decide +kernel
theorem dX11_best_39 : decode cX11_best 39 = .ok (.iload 5, 2) := by decide +kernel
theorem dX11_best_41 : decode cX11_best 41 = .ok (.bipush (-9), 2) := by decide +kernel
theorem dX11_best_43 : decode cX11_best 43 = .ok (.if_icmp .eq 9, 3) := by decide +kernel
theorem dX11_best_46 : decode cX11_best 46 = .ok (.iload 5, 2) := by decide +kernel
theorem dX11_best_48 : decode cX11_best 48 = .ok (.istore_n 2, 1) := by decide +kernel
theorem dX11_best_49 : decode cX11_best 49 = .ok (.iload 4, 2) := by decide +kernel
theorem dX11_best_51 : decode cX11_best 51 = .ok (.istore_n 1, 1) := by decide +kernel
theorem dX11_best_52 : decode cX11_best 52 = .ok (.iinc 4 1, 3) := by decide +kernel
theorem dX11_best_55 : decode cX11_best 55 = .ok (.goto (-40), 3) := by decide +kernel
theorem dX11_best_58 : decode cX11_best 58 = .ok (.iload_n 1, 1) := by decide +kernel
theorem dX11_best_59 : decode cX11_best 59 = .ok (.ireturn, 1) := by decide +kernel
theorem dX11_mute_0 : decode cX11_mute 0 = .ok (.iload_n 1, 1) := by decide +kernel
theorem dX11_mute_1 : decode cX11_mute 1 = .ok (.ifCond .lt 10, 3) := by decide +kernel
theorem dX11_mute_4 : decode cX11_mute 4 = .ok (.iload_n 1, 1) := by decide +kernel
theorem dX11_mute_5 : decode cX11_mute 5 = .ok (.sipush 200, 3) := by decide +kernel
theorem dX11_mute_8 : decode cX11_mute 8 = .ok (.if_icmp .le 5, 3) := by decide +kernel
theorem dX11_mute_11 : decode cX11_mute 11 = .ok (.iconst (-1), 1) := by decide +kernel
theorem dX11_mute_12 : decode cX11_mute 12 = .ok (.ireturn, 1) := by decide +kernel
theorem dX11_mute_13 : decode cX11_mute 13 = .ok (.aload_n 0, 1) := by decide +kernel
theorem dX11_mute_14 : decode cX11_mute 14 = .ok (.invokevirtual 181, 3) := by decide +kernel
theorem dX11_mute_17 : decode cX11_mute 17 = .ok (.astore_n 2, 1) := by decide +kernel
theorem dX11_mute_18 : decode cX11_mute 18 = .ok (.aload_n 2, 1) := by decide +kernel
theorem dX11_mute_19 : decode cX11_mute 19 = .ok (.getfield 131, 3) := by decide +kernel
theorem dX11_mute_22 : decode cX11_mute 22 = .ok (.istore_n 3, 1) := by decide +kernel
theorem dX11_mute_23 : decode cX11_mute 23 = .ok (.iconst 0, 1) := by decide +kernel
theorem dX11_mute_24 : decode cX11_mute 24 = .ok (.istore 4, 2) := by decide +kernel
theorem dX11_mute_26 : decode cX11_mute 26 = .ok (.iload 4, 2) := by decide +kernel
theorem dX11_mute_28 : decode cX11_mute 28 = .ok (.iload_n 1, 1) := by decide +kernel
theorem dX11_mute_29 : decode cX11_mute 29 = .ok (.if_icmp .ge 24, 3) := by decide +kernel
theorem dX11_mute_32 : decode cX11_mute 32 = .ok (.aload_n 2, 1) := by decide +kernel
theorem dX11_mute_33 : decode cX11_mute 33 = .ok (.aload_n 0, 1) := by decide +kernel
theorem dX11_mute_34 : decode cX11_mute 34 = .ok (.getfield 19, 3) := by decide +kernel
theorem dX11_mute_37 : decode cX11_mute 37 = .ok (.invokevirtual 161, 3) := by decide +kernel
theorem dX11_mute_40 : decode cX11_mute 40 = .ok (.iload_n 3, 1) := by decide +kernel
theorem dX11_mute_41 : decode cX11_mute 41 = .ok (.aload_n 2, 1) := by decide +kernel
theorem dX11_mute_42 : decode cX11_mute 42 = .ok (.getfield 131, 3) := by decide +kernel
theorem dX11_mute_45 : decode cX11_mute 45 = .ok (.ior, 1) := by decide +kernel
theorem dX11_mute_46 : decode cX11_mute 46 = .ok (.istore_n 3, 1) := by decide +kernel
theorem dX11_mute_47 : decode cX11_mute 47 = .ok (.iinc 4 1, 3) := by decide +kernel
theorem dX11_mute_50 : decode cX11_mute 50 = .ok (.goto (-24), 3) := by decide +kernel
theorem dX11_mute_53 : decode cX11_mute 53 = .ok (.aload_n 0, 1) := by decide +kernel
theorem dX11_mute_54 : decode cX11_mute 54 = .ok (.getfield 19, 3) := by decide +kernel
theorem dX11_mute_57 : decode cX11_mute 57 = .ok (.invokevirtual 225, 3) := by decide +kernel
theorem dX11_mute_60 : decode cX11_mute 60 = .ok (.iload_n 3, 1) := by decide +kernel
theorem dX11_mute_61 : decode cX11_mute 61 = .ok (.iconst (-1), 1) := by decide +kernel
theorem dX11_mute_62 : decode cX11_mute 62 = .ok (.ixor, 1) := by decide +kernel
theorem dX11_mute_63 : decode cX11_mute 63 = .ok (.iand, 1) := by decide +kernel
theorem dX11_mute_64 : decode cX11_mute 64 = .ok (.ireturn, 1) := by decide +kernel
theorem dX11_seen_0 : decode cX11_seen 0 = .ok (.iload_n 1, 1) := by decide +kernel
theorem dX11_seen_1 : decode cX11_seen 1 = .ok (.ifCond .lt 24, 3) := by decide +kernel
theorem dX11_seen_4 : decode cX11_seen 4 = .ok (.iload_n 1, 1) := by decide +kernel
theorem dX11_seen_5 : decode cX11_seen 5 = .ok (.bipush 60, 2) := by decide +kernel
theorem dX11_seen_7 : decode cX11_seen 7 = .ok (.if_icmp .gt 18, 3) := by decide +kernel
theorem dX11_seen_10 : decode cX11_seen 10 = .ok (.iload_n 2, 1) := by decide +kernel
theorem dX11_seen_11 : decode cX11_seen 11 = .ok (.ifCond .lt 14, 3) := by decide +kernel
theorem dX11_seen_14 : decode cX11_seen 14 = .ok (.iload_n 2, 1) := by decide +kernel
theorem dX11_seen_15 : decode cX11_seen 15 = .ok (.aload_n 0, 1) := by decide +kernel
theorem dX11_seen_16 : decode cX11_seen 16 = .ok (.getfield 19, 3) := by decide +kernel
theorem dX11_seen_19 : decode cX11_seen 19 = .ok (.invokevirtual 225, 3) := by decide +kernel
theorem dX11_seen_22 : decode cX11_seen 22 = .ok (.if_icmp .le 5, 3) := by decide +kernel
theorem dX11_seen_25 : decode cX11_seen 25 = .ok (.iconst (-1), 1) := by decide +kernel
theorem dX11_seen_26 : decode cX11_seen 26 = .ok (.ireturn, 1) := by decide +kernel
theorem dX11_seen_27 : decode cX11_seen 27 = .ok (.aload_n 0, 1) := by decide +kernel
theorem dX11_seen_28 : decode cX11_seen 28 = .ok (.getfield 109, 3) := by decide +kernel
theorem dX11_seen_31 : decode cX11_seen 31 = .ok (.iconst 5, 1) := by decide +kernel
theorem dX11_seen_32 : decode cX11_seen 32 = .ok (.if_icmp .lt 6, 3) := by decide +kernel
theorem dX11_seen_35 : decode cX11_seen 35 = .ok (.bipush (-3), 2) := by decide +kernel
theorem dX11_seen_37 : decode cX11_seen 37 = .ok (.ireturn, 1) := by decide +kernel
theorem dX11_seen_38 : decode cX11_seen 38 = .ok (.aload_n 0, 1) := by decide +kernel
theorem dX11_seen_39 : decode cX11_seen 39 = .ok (.getfield 44, 3) := by decide +kernel
theorem dX11_seen_42 : decode cX11_seen 42 = .ok (.aload_n 0, 1) := by decide +kernel
theorem dX11_seen_43 : decode cX11_seen 43 = .ok (.getfield 109, 3) := by decide +kernel
theorem dX11_seen_46 : decode cX11_seen 46 = .ok (.iload_n 1, 1) := by decide +kernel
theorem dX11_seen_47 : decode cX11_seen 47 = .ok (.iastore, 1) := by decide +kernel
theorem dX11_seen_48 : decode cX11_seen 48 = .ok (.aload_n 0, 1) := by decide +kernel
theorem dX11_seen_49 : decode cX11_seen 49 = .ok (.getfield 48, 3) := by decide +kernel
theorem dX11_seen_52 : decode cX11_seen 52 = .ok (.aload_n 0, 1) := by decide +kernel
theorem dX11_seen_53 : decode cX11_seen 53 = .ok (.getfield 109, 3) := by decide +kernel
theorem dX11_seen_56 : decode cX11_seen 56 = .ok (.iload_n 2, 1) := by decide +kernel
theorem dX11_seen_57 : decode cX11_seen 57 = .ok (.iastore, 1) := by decide +kernel
theorem dX11_seen_58 : decode cX11_seen 58 = .ok (.aload_n 0, 1) := by decide +kernel
theorem dX11_seen_59 : decode cX11_seen 59 = .ok (.dup, 1) := by decide +kernel
theorem dX11_seen_60 : decode cX11_seen 60 = .ok (.getfield 109, 3) := by decide +kernel
theorem dX11_seen_63 : decode cX11_seen 63 = .ok (.iconst 1, 1) := by decide +kernel
theorem dX11_seen_64 : decode cX11_seen 64 = .ok (.iadd, 1) := by decide +kernel
theorem dX11_seen_65 : decode cX11_seen 65 = .ok (.putfield 109, 3) := by decide +kernel
theorem dX11_seen_68 : decode cX11_seen 68 = .ok (.aload_n 0, 1) := by decide +kernel
theorem dX11_seen_69 : decode cX11_seen 69 = .ok (.getfield 109, 3) := by decide +kernel
theorem dX11_seen_72 : decode cX11_seen 72 = .ok (.ireturn, 1) := by decide +kernel
theorem dX11_forget_0 : decode cX11_forget 0 = .ok (.aload_n 0, 1) := by decide +kernel
theorem dX11_forget_1 : decode cX11_forget 1 = .ok (.getfield 109, 3) := by decide +kernel
theorem dX11_forget_4 : decode cX11_forget 4 = .ok (.istore_n 1, 1) := by decide +kernel
theorem dX11_forget_5 : decode cX11_forget 5 = .ok (.aload_n 0, 1) := by decide +kernel
theorem dX11_forget_6 : decode cX11_forget 6 = .ok (.iconst 0, 1) := by decide +kernel
theorem dX11_forget_7 : decode cX11_forget 7 = .ok (.putfield 109, 3) := by decide +kernel
theorem dX11_forget_10 : decode cX11_forget 10 = .ok (.iload_n 1, 1) := by decide +kernel
theorem dX11_forget_11 : decode cX11_forget 11 = .ok (.ireturn, 1) := by decide +kernel
theorem dX11_who_0 : decode cX11_who 0 = .ok (.aload_n 0, 1) := by decide +kernel
theorem dX11_who_1 : decode cX11_who 1 = .ok (.aload_n 0, 1) := by decide +kernel
theorem dX11_who_2 : decode cX11_who 2 = .ok (.invokevirtual 181, 3) := by decide +kernel
theorem dX11_who_5 : decode cX11_who 5 = .ok (.invokevirtual 228, 3) := by decide +kernel
theorem dX11_who_8 : decode cX11_who 8 = .ok (.ifCond .eq 8, 3) := by decide +kernel
theorem dX11_who_11 : decode cX11_who 11 = .ok (.bipush 64, 2) := by decide +kernel
theorem dX11_who_13 : decode cX11_who 13 = .ok (.goto 4, 3) := by decide +kernel
theorem dX11_who_16 : decode cX11_who 16 = .ok (.iconst 0, 1) := by decide +kernel
theorem dX11_who_17 : decode cX11_who 17 = .ok (.istore_n 1, 1) := by decide +kernel
theorem dX11_who_18 : decode cX11_who 18 = .ok (.aload_n 0, 1) := by decide +kernel
theorem dX11_who_19 : decode cX11_who 19 = .ok (.invokevirtual 218, 3) := by decide +kernel
theorem dX11_who_22 : decode cX11_who 22 = .ok (.istore_n 2, 1) := by decide +kernel
theorem dX11_who_23 : decode cX11_who 23 = .ok (.iconst 0, 1) := by decide +kernel
theorem dX11_who_24 : decode cX11_who 24 = .ok (.istore_n 3, 1) := by decide +kernel
theorem dX11_who_25 : decode cX11_who 25 = .ok (.iload_n 3, 1) := by decide +kernel
theorem dX11_who_26 : decode cX11_who 26 = .ok (.iload_n 2, 1) := by decide +kernel
theorem dX11_who_27 : decode cX11_who 27 = .ok (.if_icmp .ge 27, 3) := by decide +kernel
theorem dX11_who_30 : decode cX11_who 30 = .ok (.aload_n 0, 1) := by decide +kernel
theorem dX11_who_31 : decode cX11_who 31 = .ok (.aload_n 0, 1) := by decide +kernel
theorem dX11_who_32 : decode cX11_who 32 = .ok (.iload_n 3, 1) := by decide +kernel
theorem dX11_who_33 : decode cX11_who 33 = .ok (.invokevirtual 221, 3) := by decide +kernel
theorem dX11_who_36 : decode cX11_who 36 = .ok (.invokevirtual 228, 3) := by decide +kernel
theorem dX11_who_39 : decode cX11_who 39 = .ok (.ifCond .eq 9, 3) := by decide +kernel
theorem dX11_who_42 : decode cX11_who 42 = .ok (.iload_n 1, 1) := by decide +kernel
theorem dX11_who_43 : decode cX11_who 43 = .ok (.iconst 1, 1) := by decide +kernel
theorem dX11_who_44 : decode cX11_who 44 = .ok (.iload_n 3, 1) := by decide +kernel
theorem dX11_who_45 : decode cX11_who 45 = .ok (.ishl, 1) := by decide +kernel
theorem dX11_who_46 : decode cX11_who 46 = .ok (.ior, 1) := by decide +kernel
theorem dX11_who_47 : decode cX11_who 47 = .ok (.istore_n 1, 1) := by decide +kernel
theorem dX11_who_48 : decode cX11_who 48 = .ok (.iinc 3 1, 3) := by decide +kernel
theorem dX11_who_51 : decode cX11_who 51 = .ok (.goto (-26), 3) := by decide +kernel
theorem dX11_who_54 : decode cX11_who 54 = .ok (.iload_n 1, 1) := by decide +kernel
theorem dX11_who_55 : decode cX11_who 55 = .ok (.ireturn, 1) := by decide +kernel
theorem dX11_odds_0 : decode cX11_odds 0 = .ok (.aload_n 0, 1) := by decide +kernel
theorem dX11_odds_1 : decode cX11_odds 1 = .ok (.getfield 19, 3) := by decide +kernel
theorem dX11_odds_4 : decode cX11_odds 4 = .ok (.iload_n 1, 1) := by decide +kernel
theorem dX11_odds_5 : decode cX11_odds 5 = .ok (.invokevirtual 112, 3) := by decide +kernel
theorem dX11_odds_8 : decode cX11_odds 8 = .ok (.ifCond .eq 34, 3) := by decide +kernel
theorem dX11_odds_11 : decode cX11_odds 11 = .ok (.iload_n 2, 1) := by decide +kernel
theorem dX11_odds_12 : decode cX11_odds 12 = .ok (.ifCond .lt 30, 3) := by decide +kernel
theorem dX11_odds_15 : decode cX11_odds 15 = .ok (.iload_n 2, 1) := by decide +kernel
theorem dX11_odds_16 : decode cX11_odds 16 = .ok (.bipush 10, 2) := by decide +kernel
theorem dX11_odds_18 : decode cX11_odds 18 = .ok (.if_icmp .gt 24, 3) := by decide +kernel
theorem dX11_odds_21 : decode cX11_odds 21 = .ok (.iload_n 3, 1) := by decide +kernel
theorem dX11_odds_22 : decode cX11_odds 22 = .ok (.ifCond .lt 20, 3) := by decide +kernel
theorem dX11_odds_25 : decode cX11_odds 25 = .ok (.iload_n 3, 1) := by decide +kernel
theorem dX11_odds_26 : decode cX11_odds 26 = .ok (.bipush 6, 2) := by decide +kernel
theorem dX11_odds_28 : decode cX11_odds 28 = .ok (.if_icmp .gt 14, 3) := by decide +kernel
theorem dX11_odds_31 : decode cX11_odds 31 = .ok (.iload 4, 2) := by decide +kernel
theorem dX11_odds_33 : decode cX11_odds 33 = .ok (.ifCond .lt 9, 3) := by decide +kernel
theorem dX11_odds_36 : decode cX11_odds 36 = .ok (.iload 4, 2) := by decide +kernel
theorem dX11_odds_38 : decode cX11_odds 38 = .ok (.iconst 1, 1) := by decide +kernel
theorem dX11_odds_39 : decode cX11_odds 39 = .ok (.if_icmp .le 5, 3) := by decide +kernel
theorem dX11_odds_42 : decode cX11_odds 42 = .ok (.iconst (-1), 1) := by decide +kernel
theorem dX11_odds_43 : decode cX11_odds 43 = .ok (.ireturn, 1) := by decide +kernel
theorem dX11_odds_44 : decode cX11_odds 44 = .ok (.aload_n 0, 1) := by decide +kernel
theorem dX11_odds_45 : decode cX11_odds 45 = .ok (.invokevirtual 181, 3) := by decide +kernel
theorem dX11_odds_48 : decode cX11_odds 48 = .ok (.pop, 1) := by decide +kernel
theorem dX11_odds_49 : decode cX11_odds 49 = .ok (.aload_n 0, 1) := by decide +kernel
theorem dX11_odds_50 : decode cX11_odds 50 = .ok (.iload_n 1, 1) := by decide +kernel
theorem dX11_odds_51 : decode cX11_odds 51 = .ok (.iload_n 2, 1) := by decide +kernel
theorem dX11_odds_52 : decode cX11_odds 52 = .ok (.iconst 0, 1) := by decide +kernel
theorem dX11_odds_53 : decode cX11_odds 53 = .ok (.iload_n 3, 1) := by decide +kernel
theorem dX11_odds_54 : decode cX11_odds 54 = .ok (.invokevirtual 231, 3) := by decide +kernel
theorem dX11_odds_57 : decode cX11_odds 57 = .ok (.istore 5, 2) := by decide +kernel
theorem dX11_odds_59 : decode cX11_odds 59 = .ok (.iload_n 3, 1) := by decide +kernel
theorem dX11_odds_60 : decode cX11_odds 60 = .ok (.invokestatic 235, 3) := by decide +kernel
theorem dX11_odds_63 : decode cX11_odds 63 = .ok (.istore 6, 2) := by decide +kernel
theorem dX11_odds_65 : decode cX11_odds 65 = .ok (.iload 5, 2) := by decide +kernel
theorem dX11_odds_67 : decode cX11_odds 67 = .ok (.iload 6, 2) := by decide +kernel
theorem dX11_odds_69 : decode cX11_odds 69 = .ok (.invokestatic 238, 3) := by decide +kernel
theorem dX11_odds_72 : decode cX11_odds 72 = .ok (.istore 7, 2) := by decide +kernel
theorem dX11_odds_74 : decode cX11_odds 74 = .ok (.iload 4, 2) := by decide +kernel
theorem dX11_odds_76 : decode cX11_odds 76 = .ok (.ifCond .ne 8, 3) := by decide +kernel
theorem dX11_odds_79 : decode cX11_odds 79 = .ok (.iload 5, 2) := by decide +kernel
theorem dX11_odds_81 : decode cX11_odds 81 = .ok (.goto 5, 3) := by decide +kernel
theorem dX11_odds_84 : decode cX11_odds 84 = .ok (.iload 6, 2) := by decide +kernel
theorem dX11_odds_86 : decode cX11_odds 86 = .ok (.iload 7, 2) := by decide +kernel
theorem dX11_odds_88 : decode cX11_odds 88 = .ok (.iconst 1, 1) := by decide +kernel
theorem dX11_odds_89 : decode cX11_odds 89 = .ok (.invokestatic 242, 3) := by decide +kernel
theorem dX11_odds_92 : decode cX11_odds 92 = .ok (.idiv, 1) := by decide +kernel
theorem dX11_odds_93 : decode cX11_odds 93 = .ok (.ireturn, 1) := by decide +kernel
theorem dX11_agreesWithSeen_0 : decode cX11_agreesWithSeen 0 = .ok (.aload_n 0, 1) := by decide +kernel
theorem dX11_agreesWithSeen_1 : decode cX11_agreesWithSeen 1 = .ok (.invokevirtual 247, 3) := by decide +kernel
theorem dX11_agreesWithSeen_4 : decode cX11_agreesWithSeen 4 = .ok (.istore_n 2, 1) := by decide +kernel
theorem dX11_agreesWithSeen_5 : decode cX11_agreesWithSeen 5 = .ok (.iconst 0, 1) := by decide +kernel
theorem dX11_agreesWithSeen_6 : decode cX11_agreesWithSeen 6 = .ok (.istore_n 3, 1) := by decide +kernel
theorem dX11_agreesWithSeen_7 : decode cX11_agreesWithSeen 7 = .ok (.iload_n 3, 1) := by decide +kernel
theorem dX11_agreesWithSeen_8 : decode cX11_agreesWithSeen 8 = .ok (.iload_n 2, 1) := by decide +kernel
theorem dX11_agreesWithSeen_9 : decode cX11_agreesWithSeen 9 = .ok (.if_icmp .gt 31, 3) := by decide +kernel
theorem dX11_agreesWithSeen_12 : decode cX11_agreesWithSeen 12 = .ok (.aload_n 0, 1) := by decide +kernel
theorem dX11_agreesWithSeen_13 : decode cX11_agreesWithSeen 13 = .ok (.iload_n 3, 1) := by decide +kernel
theorem dX11_agreesWithSeen_14 : decode cX11_agreesWithSeen 14 = .ok (.aload_n 1, 1) := by decide +kernel
theorem dX11_agreesWithSeen_15 : decode cX11_agreesWithSeen 15 = .ok (.getfield 131, 3) := by decide +kernel
theorem dX11_agreesWithSeen_18 : decode cX11_agreesWithSeen 18 = .ok (.invokevirtual 250, 3) := by decide +kernel
theorem dX11_agreesWithSeen_21 : decode cX11_agreesWithSeen 21 = .ok (.ifCond .eq 5, 3) := by decide +kernel
theorem dX11_agreesWithSeen_24 : decode cX11_agreesWithSeen 24 = .ok (.iconst 0, 1) := by decide +kernel
theorem dX11_agreesWithSeen_25 : decode cX11_agreesWithSeen 25 = .ok (.ireturn, 1) := by decide +kernel
theorem dX11_agreesWithSeen_26 : decode cX11_agreesWithSeen 26 = .ok (.aload_n 1, 1) := by decide +kernel
theorem dX11_agreesWithSeen_27 : decode cX11_agreesWithSeen 27 = .ok (.aload_n 0, 1) := by decide +kernel
theorem dX11_agreesWithSeen_28 : decode cX11_agreesWithSeen 28 = .ok (.getfield 19, 3) := by decide +kernel
theorem dX11_agreesWithSeen_31 : decode cX11_agreesWithSeen 31 = .ok (.invokevirtual 161, 3) := by decide +kernel
theorem dX11_agreesWithSeen_34 : decode cX11_agreesWithSeen 34 = .ok (.iinc 3 1, 3) := by decide +kernel
theorem dX11_agreesWithSeen_37 : decode cX11_agreesWithSeen 37 = .ok (.goto (-30), 3) := by decide +kernel
theorem dX11_agreesWithSeen_40 : decode cX11_agreesWithSeen 40 = .ok (.iconst 1, 1) := by decide +kernel
theorem dX11_agreesWithSeen_41 : decode cX11_agreesWithSeen 41 = .ok (.ireturn, 1) := by decide +kernel
theorem dX11_latestSeen_0 : decode cX11_latestSeen 0 = .ok (.iconst (-1), 1) := by decide +kernel
theorem dX11_latestSeen_1 : decode cX11_latestSeen 1 = .ok (.istore_n 1, 1) := by decide +kernel
theorem dX11_latestSeen_2 : decode cX11_latestSeen 2 = .ok (.iconst 0, 1) := by decide +kernel
theorem dX11_latestSeen_3 : decode cX11_latestSeen 3 = .ok (.istore_n 2, 1) := by decide +kernel
theorem dX11_latestSeen_4 : decode cX11_latestSeen 4 = .ok (.iload_n 2, 1) := by decide +kernel
theorem dX11_latestSeen_5 : decode cX11_latestSeen 5 = .ok (.aload_n 0, 1) := by decide +kernel
theorem dX11_latestSeen_6 : decode cX11_latestSeen 6 = .ok (.getfield 109, 3) := by decide +kernel
theorem dX11_latestSeen_9 : decode cX11_latestSeen 9 = .ok (.if_icmp .ge 25, 3) := by decide +kernel
theorem dX11_latestSeen_12 : decode cX11_latestSeen 12 = .ok (.iload_n 2, 1) := by decide +kernel
theorem dX11_latestSeen_13 : decode cX11_latestSeen 13 = .ok (.iconst 5, 1) := by decide +kernel
theorem dX11_latestSeen_14 : decode cX11_latestSeen 14 = .ok (.if_icmp .ge 20, 3) := by decide +kernel
theorem dX11_latestSeen_17 : decode cX11_latestSeen 17 = .ok (.iload_n 1, 1) := by decide +kernel
theorem dX11_latestSeen_18 : decode cX11_latestSeen 18 = .ok (.aload_n 0, 1) := by decide +kernel
theorem dX11_latestSeen_19 : decode cX11_latestSeen 19 = .ok (.getfield 44, 3) := by decide +kernel
theorem dX11_latestSeen_22 : decode cX11_latestSeen 22 = .ok (.iload_n 2, 1) := by decide +kernel
theorem dX11_latestSeen_23 : decode cX11_latestSeen 23 = .ok (.iaload, 1) := by decide +kernel
theorem dX11_latestSeen_24 : decode cX11_latestSeen 24 = .ok (.invokestatic 242, 3) := by decide +kernel
theorem dX11_latestSeen_27 : decode cX11_latestSeen 27 = .ok (.istore_n 1, 1) := by decide +kernel
theorem dX11_latestSeen_28 : decode cX11_latestSeen 28 = .ok (.iinc 2 1, 3) := by decide +kernel
theorem dX11_latestSeen_31 : decode cX11_latestSeen 31 = .ok (.goto (-27), 3) := by decide +kernel
theorem dX11_latestSeen_34 : decode cX11_latestSeen 34 = .ok (.iload_n 1, 1) := by decide +kernel
theorem dX11_latestSeen_35 : decode cX11_latestSeen 35 = .ok (.ireturn, 1) := by decide +kernel
theorem dX11_contradictsSeen_0 : decode cX11_contradictsSeen 0 = .ok (.iconst 0, 1) := by decide +kernel
theorem dX11_contradictsSeen_1 : decode cX11_contradictsSeen 1 = .ok (.istore_n 3, 1) := by decide +kernel
theorem dX11_contradictsSeen_2 : decode cX11_contradictsSeen 2 = .ok (.iload_n 3, 1) := by decide +kernel
theorem dX11_contradictsSeen_3 : decode cX11_contradictsSeen 3 = .ok (.aload_n 0, 1) := by decide +kernel
theorem dX11_contradictsSeen_4 : decode cX11_contradictsSeen 4 = .ok (.getfield 109, 3) := by decide +kernel
theorem dX11_contradictsSeen_7 : decode cX11_contradictsSeen 7 = .ok (.if_icmp .ge 36, 3) := by decide +kernel
theorem dX11_contradictsSeen_10 : decode cX11_contradictsSeen 10 = .ok (.iload_n 3, 1) := by decide +kernel
theorem dX11_contradictsSeen_11 : decode cX11_contradictsSeen 11 = .ok (.iconst 5, 1) := by decide +kernel
theorem dX11_contradictsSeen_12 : decode cX11_contradictsSeen 12 = .ok (.if_icmp .ge 31, 3) := by decide +kernel
theorem dX11_contradictsSeen_15 : decode cX11_contradictsSeen 15 = .ok (.aload_n 0, 1) := by decide +kernel
theorem dX11_contradictsSeen_16 : decode cX11_contradictsSeen 16 = .ok (.getfield 44, 3) := by decide +kernel
theorem dX11_contradictsSeen_19 : decode cX11_contradictsSeen 19 = .ok (.iload_n 3, 1) := by decide +kernel
theorem dX11_contradictsSeen_20 : decode cX11_contradictsSeen 20 = .ok (.iaload, 1) := by decide +kernel
theorem dX11_contradictsSeen_21 : decode cX11_contradictsSeen 21 = .ok (.iload_n 1, 1) := by decide +kernel
theorem dX11_contradictsSeen_22 : decode cX11_contradictsSeen 22 = .ok (.if_icmp .ne 15, 3) := by decide +kernel
theorem dX11_contradictsSeen_25 : decode cX11_contradictsSeen 25 = .ok (.aload_n 0, 1) := by decide +kernel
theorem dX11_contradictsSeen_26 : decode cX11_contradictsSeen 26 = .ok (.getfield 48, 3) := by decide +kernel
theorem dX11_contradictsSeen_29 : decode cX11_contradictsSeen 29 = .ok (.iload_n 3, 1) := by decide +kernel
theorem dX11_contradictsSeen_30 : decode cX11_contradictsSeen 30 = .ok (.iaload, 1) := by decide +kernel
theorem dX11_contradictsSeen_31 : decode cX11_contradictsSeen 31 = .ok (.iload_n 2, 1) := by decide +kernel
theorem dX11_contradictsSeen_32 : decode cX11_contradictsSeen 32 = .ok (.if_icmp .eq 5, 3) := by decide +kernel
theorem dX11_contradictsSeen_35 : decode cX11_contradictsSeen 35 = .ok (.iconst 1, 1) := by decide +kernel
theorem dX11_contradictsSeen_36 : decode cX11_contradictsSeen 36 = .ok (.ireturn, 1) := by decide +kernel
theorem dX11_contradictsSeen_37 : decode cX11_contradictsSeen 37 = .ok (.iinc 3 1, 3) := by decide +kernel
theorem dX11_contradictsSeen_40 : decode cX11_contradictsSeen 40 = .ok (.goto (-38), 3) := by decide +kernel
theorem dX11_contradictsSeen_43 : decode cX11_contradictsSeen 43 = .ok (.iconst 0, 1) := by decide +kernel
theorem dX11_contradictsSeen_44 : decode cX11_contradictsSeen 44 = .ok (.ireturn, 1) := by decide +kernel
theorem dX11_waysOver_0 : decode cX11_waysOver 0 = .ok (.iload_n 3, 1) := by decide +kernel
theorem dX11_waysOver_1 : decode cX11_waysOver 1 = .ok (.ifCond .lt 12, 3) := by decide +kernel
theorem dX11_waysOver_4 : decode cX11_waysOver 4 = .ok (.iload_n 3, 1) := by decide +kernel
theorem dX11_waysOver_5 : decode cX11_waysOver 5 = .ok (.aload_n 0, 1) := by decide +kernel
theorem dX11_waysOver_6 : decode cX11_waysOver 6 = .ok (.getfield 51, 3) := by decide +kernel
theorem dX11_waysOver_9 : decode cX11_waysOver 9 = .ok (.arraylength, 1) := by decide +kernel
theorem dX11_waysOver_10 : decode cX11_waysOver 10 = .ok (.if_icmp .lt 5, 3) := by decide +kernel
theorem dX11_waysOver_13 : decode cX11_waysOver 13 = .ok (.iconst 0, 1) := by decide +kernel
theorem dX11_waysOver_14 : decode cX11_waysOver 14 = .ok (.ireturn, 1) := by decide +kernel
theorem dX11_waysOver_15 : decode cX11_waysOver 15 = .ok (.aload_n 0, 1) := by decide +kernel
theorem dX11_waysOver_16 : decode cX11_waysOver 16 = .ok (.getfield 19, 3) := by decide +kernel
theorem dX11_waysOver_19 : decode cX11_waysOver 19 = .ok (.aload_n 0, 1) := by decide +kernel
theorem dX11_waysOver_20 : decode cX11_waysOver 20 = .ok (.getfield 51, 3) := by decide +kernel
theorem dX11_waysOver_23 : decode cX11_waysOver 23 = .ok (.iload_n 3, 1) := by decide +kernel
theorem dX11_waysOver_24 : decode cX11_waysOver 24 = .ok (.aaload, 1) := by decide +kernel
theorem dX11_waysOver_25 : decode cX11_waysOver 25 = .ok (.getfield 140, 3) := by decide +kernel
theorem dX11_waysOver_28 : decode cX11_waysOver 28 = .ok (.invokevirtual 175, 3) := by decide +kernel
theorem dX11_waysOver_31 : decode cX11_waysOver 31 = .ok (.ifCond .eq 9, 3) := by decide +kernel
theorem dX11_waysOver_34 : decode cX11_waysOver 34 = .ok (.iload 4, 2) := by decide +kernel
theorem dX11_waysOver_36 : decode cX11_waysOver 36 = .ok (.invokestatic 235, 3) := by decide +kernel
theorem dX11_waysOver_39 : decode cX11_waysOver 39 = .ok (.ireturn, 1) := by decide +kernel
theorem dX11_waysOver_40 : decode cX11_waysOver 40 = .ok (.iload 4, 2) := by decide +kernel
theorem dX11_waysOver_42 : decode cX11_waysOver 42 = .ok (.ifCond .le 14, 3) := by decide +kernel
theorem dX11_waysOver_45 : decode cX11_waysOver 45 = .ok (.iload_n 3, 1) := by decide +kernel
theorem dX11_waysOver_46 : decode cX11_waysOver 46 = .ok (.iconst 1, 1) := by decide +kernel
theorem dX11_waysOver_47 : decode cX11_waysOver 47 = .ok (.iadd, 1) := by decide +kernel
theorem dX11_waysOver_48 : decode cX11_waysOver 48 = .ok (.aload_n 0, 1) := by decide +kernel
theorem dX11_waysOver_49 : decode cX11_waysOver 49 = .ok (.getfield 51, 3) := by decide +kernel
theorem dX11_waysOver_52 : decode cX11_waysOver 52 = .ok (.arraylength, 1) := by decide +kernel
theorem dX11_waysOver_53 : decode cX11_waysOver 53 = .ok (.if_icmp .lt 5, 3) := by decide +kernel
theorem dX11_waysOver_56 : decode cX11_waysOver 56 = .ok (.iconst 0, 1) := by decide +kernel
theorem dX11_waysOver_57 : decode cX11_waysOver 57 = .ok (.ireturn, 1) := by decide +kernel
theorem dX11_waysOver_58 : decode cX11_waysOver 58 = .ok (.aload_n 0, 1) := by decide +kernel
theorem dX11_waysOver_59 : decode cX11_waysOver 59 = .ok (.getfield 51, 3) := by decide +kernel
theorem dX11_waysOver_62 : decode cX11_waysOver 62 = .ok (.iload_n 3, 1) := by decide +kernel
theorem dX11_waysOver_63 : decode cX11_waysOver 63 = .ok (.iconst 1, 1) := by decide +kernel
theorem dX11_waysOver_64 : decode cX11_waysOver 64 = .ok (.iadd, 1) := by decide +kernel
theorem dX11_waysOver_65 : decode cX11_waysOver 65 = .ok (.aaload, 1) := by decide +kernel
theorem dX11_waysOver_66 : decode cX11_waysOver 66 = .ok (.astore 5, 2) := by decide +kernel
theorem dX11_waysOver_68 : decode cX11_waysOver 68 = .ok (.aload 5, 2) := by decide +kernel
theorem dX11_waysOver_70 : decode cX11_waysOver 70 = .ok (.aload_n 0, 1) := by decide +kernel
theorem dX11_waysOver_71 : decode cX11_waysOver 71 = .ok (.getfield 51, 3) := by decide +kernel
theorem dX11_waysOver_74 : decode cX11_waysOver 74 = .ok (.iload_n 3, 1) := by decide +kernel
theorem dX11_waysOver_75 : decode cX11_waysOver 75 = .ok (.aaload, 1) := by decide +kernel
theorem dX11_waysOver_76 : decode cX11_waysOver 76 = .ok (.invokevirtual 205, 3) := by decide +kernel
theorem dX11_waysOver_79 : decode cX11_waysOver 79 = .ok (.aload 5, 2) := by decide +kernel
theorem dX11_waysOver_81 : decode cX11_waysOver 81 = .ok (.aload_n 0, 1) := by decide +kernel
theorem dX11_waysOver_82 : decode cX11_waysOver 82 = .ok (.getfield 19, 3) := by decide +kernel
theorem dX11_waysOver_85 : decode cX11_waysOver 85 = .ok (.iconst 1, 1) := by decide +kernel
theorem dX11_waysOver_86 : decode cX11_waysOver 86 = .ok (.iload_n 1, 1) := by decide +kernel
theorem dX11_waysOver_87 : decode cX11_waysOver 87 = .ok (.ishl, 1) := by decide +kernel
theorem dX11_waysOver_88 : decode cX11_waysOver 88 = .ok (.invokevirtual 177, 3) := by decide +kernel
theorem dX11_waysOver_91 : decode cX11_waysOver 91 = .ok (.aload 5, 2) := by decide +kernel
theorem dX11_waysOver_93 : decode cX11_waysOver 93 = .ok (.aload_n 0, 1) := by decide +kernel
theorem dX11_waysOver_94 : decode cX11_waysOver 94 = .ok (.getfield 19, 3) := by decide +kernel
theorem dX11_waysOver_97 : decode cX11_waysOver 97 = .ok (.invokevirtual 161, 3) := by decide +kernel
theorem dX11_waysOver_100 : decode cX11_waysOver 100 = .ok (.iload_n 2, 1) := by decide +kernel
theorem dX11_waysOver_101 : decode cX11_waysOver 101 = .ok (.aload_n 0, 1) := by decide +kernel
theorem dX11_waysOver_102 : decode cX11_waysOver 102 = .ok (.iload_n 1, 1) := by decide +kernel
theorem dX11_waysOver_103 : decode cX11_waysOver 103 = .ok (.iload_n 2, 1) := by decide +kernel
theorem dX11_waysOver_104 : decode cX11_waysOver 104 = .ok (.iload_n 3, 1) := by decide +kernel
theorem dX11_waysOver_105 : decode cX11_waysOver 105 = .ok (.iconst 1, 1) := by decide +kernel
theorem dX11_waysOver_106 : decode cX11_waysOver 106 = .ok (.iadd, 1) := by decide +kernel
theorem dX11_waysOver_107 : decode cX11_waysOver 107 = .ok (.iload 4, 2) := by decide +kernel
theorem dX11_waysOver_109 : decode cX11_waysOver 109 = .ok (.iconst 1, 1) := by decide +kernel
theorem dX11_waysOver_110 : decode cX11_waysOver 110 = .ok (.isub, 1) := by decide +kernel
theorem dX11_waysOver_111 : decode cX11_waysOver 111 = .ok (.invokevirtual 231, 3) := by decide +kernel
theorem dX11_waysOver_114 : decode cX11_waysOver 114 = .ok (.imul, 1) := by decide +kernel
theorem dX11_waysOver_115 : decode cX11_waysOver 115 = .ok (.istore 6, 2) := by decide +kernel
theorem dX11_waysOver_117 : decode cX11_waysOver 117 = .ok (.aload 5, 2) := by decide +kernel
theorem dX11_waysOver_119 : decode cX11_waysOver 119 = .ok (.aload_n 0, 1) := by decide +kernel
theorem dX11_waysOver_120 : decode cX11_waysOver 120 = .ok (.getfield 51, 3) := by decide +kernel
theorem dX11_waysOver_123 : decode cX11_waysOver 123 = .ok (.iload_n 3, 1) := by decide +kernel
theorem dX11_waysOver_124 : decode cX11_waysOver 124 = .ok (.aaload, 1) := by decide +kernel
theorem dX11_waysOver_125 : decode cX11_waysOver 125 = .ok (.invokevirtual 205, 3) := by decide +kernel
theorem dX11_waysOver_128 : decode cX11_waysOver 128 = .ok (.aload 5, 2) := by decide +kernel
theorem dX11_waysOver_130 : decode cX11_waysOver 130 = .ok (.aload_n 0, 1) := by decide +kernel
theorem dX11_waysOver_131 : decode cX11_waysOver 131 = .ok (.getfield 19, 3) := by decide +kernel
theorem dX11_waysOver_134 : decode cX11_waysOver 134 = .ok (.invokevirtual 161, 3) := by decide +kernel
theorem dX11_waysOver_137 : decode cX11_waysOver 137 = .ok (.iload 6, 2) := by decide +kernel
theorem dX11_waysOver_139 : decode cX11_waysOver 139 = .ok (.bipush 10, 2) := by decide +kernel
theorem dX11_waysOver_141 : decode cX11_waysOver 141 = .ok (.iload_n 2, 1) := by decide +kernel
theorem dX11_waysOver_142 : decode cX11_waysOver 142 = .ok (.isub, 1) := by decide +kernel
theorem dX11_waysOver_143 : decode cX11_waysOver 143 = .ok (.aload_n 0, 1) := by decide +kernel
theorem dX11_waysOver_144 : decode cX11_waysOver 144 = .ok (.iload_n 1, 1) := by decide +kernel
theorem dX11_waysOver_145 : decode cX11_waysOver 145 = .ok (.iload_n 2, 1) := by decide +kernel
theorem dX11_waysOver_146 : decode cX11_waysOver 146 = .ok (.iload_n 3, 1) := by decide +kernel
theorem dX11_waysOver_147 : decode cX11_waysOver 147 = .ok (.iconst 1, 1) := by decide +kernel
theorem dX11_waysOver_148 : decode cX11_waysOver 148 = .ok (.iadd, 1) := by decide +kernel
theorem dX11_waysOver_149 : decode cX11_waysOver 149 = .ok (.iload 4, 2) := by decide +kernel
theorem dX11_waysOver_151 : decode cX11_waysOver 151 = .ok (.iconst 1, 1) := by decide +kernel
theorem dX11_waysOver_152 : decode cX11_waysOver 152 = .ok (.isub, 1) := by decide +kernel
theorem dX11_waysOver_153 : decode cX11_waysOver 153 = .ok (.invokevirtual 231, 3) := by decide +kernel
theorem dX11_waysOver_156 : decode cX11_waysOver 156 = .ok (.imul, 1) := by decide +kernel
theorem dX11_waysOver_157 : decode cX11_waysOver 157 = .ok (.iadd, 1) := by decide +kernel
theorem dX11_waysOver_158 : decode cX11_waysOver 158 = .ok (.ireturn, 1) := by decide +kernel
theorem dX11_powerOfTen_0 : decode cX11_powerOfTen 0 = .ok (.iconst 1, 1) := by decide +kernel
theorem dX11_powerOfTen_1 : decode cX11_powerOfTen 1 = .ok (.istore_n 1, 1) := by decide +kernel
theorem dX11_powerOfTen_2 : decode cX11_powerOfTen 2 = .ok (.iconst 0, 1) := by decide +kernel
theorem dX11_powerOfTen_3 : decode cX11_powerOfTen 3 = .ok (.istore_n 2, 1) := by decide +kernel
theorem dX11_powerOfTen_4 : decode cX11_powerOfTen 4 = .ok (.iload_n 2, 1) := by decide +kernel
theorem dX11_powerOfTen_5 : decode cX11_powerOfTen 5 = .ok (.iload_n 0, 1) := by decide +kernel
theorem dX11_powerOfTen_6 : decode cX11_powerOfTen 6 = .ok (.if_icmp .ge 14, 3) := by decide +kernel
theorem dX11_powerOfTen_9 : decode cX11_powerOfTen 9 = .ok (.iload_n 1, 1) := by decide +kernel
theorem dX11_powerOfTen_10 : decode cX11_powerOfTen 10 = .ok (.bipush 10, 2) := by decide +kernel
theorem dX11_powerOfTen_12 : decode cX11_powerOfTen 12 = .ok (.imul, 1) := by decide +kernel
theorem dX11_powerOfTen_13 : decode cX11_powerOfTen 13 = .ok (.istore_n 1, 1) := by decide +kernel
theorem dX11_powerOfTen_14 : decode cX11_powerOfTen 14 = .ok (.iinc 2 1, 3) := by decide +kernel
theorem dX11_powerOfTen_17 : decode cX11_powerOfTen 17 = .ok (.goto (-13), 3) := by decide +kernel
theorem dX11_powerOfTen_20 : decode cX11_powerOfTen 20 = .ok (.iload_n 1, 1) := by decide +kernel
theorem dX11_powerOfTen_21 : decode cX11_powerOfTen 21 = .ok (.ireturn, 1) := by decide +kernel
theorem dX11_greatestShared_0 : decode cX11_greatestShared 0 = .ok (.iload_n 0, 1) := by decide +kernel
theorem dX11_greatestShared_1 : decode cX11_greatestShared 1 = .ok (.istore_n 2, 1) := by decide +kernel
theorem dX11_greatestShared_2 : decode cX11_greatestShared 2 = .ok (.iload_n 1, 1) := by decide +kernel
theorem dX11_greatestShared_3 : decode cX11_greatestShared 3 = .ok (.istore_n 3, 1) := by decide +kernel
theorem dX11_greatestShared_4 : decode cX11_greatestShared 4 = .ok (.iconst 0, 1) := by decide +kernel
theorem dX11_greatestShared_5 : decode cX11_greatestShared 5 = .ok (.istore 4, 2) := by decide +kernel
theorem dX11_greatestShared_7 : decode cX11_greatestShared 7 = .ok (.iload 4, 2) := by decide +kernel
theorem dX11_greatestShared_9 : decode cX11_greatestShared 9 = .ok (.bipush 64, 2) := by decide +kernel
theorem dX11_greatestShared_11 : decode cX11_greatestShared 11 = .ok (.if_icmp .ge 23, 3) := by decide +kernel
theorem dX11_greatestShared_14 : decode cX11_greatestShared 14 = .ok (.iload_n 3, 1) := by decide +kernel
theorem dX11_greatestShared_15 : decode cX11_greatestShared 15 = .ok (.ifCond .eq 19, 3) := by decide +kernel
theorem dX11_greatestShared_18 : decode cX11_greatestShared 18 = .ok (.iload_n 2, 1) := by decide +kernel
theorem dX11_greatestShared_19 : decode cX11_greatestShared 19 = .ok (.iload_n 3, 1) := by decide +kernel
theorem dX11_greatestShared_20 : decode cX11_greatestShared 20 = .ok (.irem, 1) := by decide +kernel
theorem dX11_greatestShared_21 : decode cX11_greatestShared 21 = .ok (.istore 5, 2) := by decide +kernel
theorem dX11_greatestShared_23 : decode cX11_greatestShared 23 = .ok (.iload_n 3, 1) := by decide +kernel
theorem dX11_greatestShared_24 : decode cX11_greatestShared 24 = .ok (.istore_n 2, 1) := by decide +kernel
theorem dX11_greatestShared_25 : decode cX11_greatestShared 25 = .ok (.iload 5, 2) := by decide +kernel
theorem dX11_greatestShared_27 : decode cX11_greatestShared 27 = .ok (.istore_n 3, 1) := by decide +kernel
theorem dX11_greatestShared_28 : decode cX11_greatestShared 28 = .ok (.iinc 4 1, 3) := by decide +kernel
theorem dX11_greatestShared_31 : decode cX11_greatestShared 31 = .ok (.goto (-24), 3) := by decide +kernel
theorem dX11_greatestShared_34 : decode cX11_greatestShared 34 = .ok (.iload_n 2, 1) := by decide +kernel
theorem dX11_greatestShared_35 : decode cX11_greatestShared 35 = .ok (.ireturn, 1) := by decide +kernel
theorem dX11_rate_0 : decode cX11_rate 0 = .ok (.iload_n 1, 1) := by decide +kernel
theorem dX11_rate_1 : decode cX11_rate 1 = .ok (.ifCond .lt 23, 3) := by decide +kernel
theorem dX11_rate_4 : decode cX11_rate 4 = .ok (.iload_n 1, 1) := by decide +kernel
theorem dX11_rate_5 : decode cX11_rate 5 = .ok (.aload_n 0, 1) := by decide +kernel
theorem dX11_rate_6 : decode cX11_rate 6 = .ok (.getfield 63, 3) := by decide +kernel
theorem dX11_rate_9 : decode cX11_rate 9 = .ok (.arraylength, 1) := by decide +kernel
theorem dX11_rate_10 : decode cX11_rate 10 = .ok (.if_icmp .ge 14, 3) := by decide +kernel
theorem dX11_rate_13 : decode cX11_rate 13 = .ok (.aload_n 0, 1) := by decide +kernel
theorem dX11_rate_14 : decode cX11_rate 14 = .ok (.getfield 19, 3) := by decide +kernel
theorem dX11_rate_17 : decode cX11_rate 17 = .ok (.iload_n 2, 1) := by decide +kernel
theorem dX11_rate_18 : decode cX11_rate 18 = .ok (.invokevirtual 112, 3) := by decide +kernel
theorem dX11_rate_21 : decode cX11_rate 21 = .ok (.ifCond .ne 6, 3) := by decide +kernel
theorem dX11_rate_24 : decode cX11_rate 24 = .ok (.ldc 254, 2) := by decide +kernel
theorem dX11_rate_26 : decode cX11_rate 26 = .ok (.ireturn, 1) := by decide +kernel
theorem dX11_rate_27 : decode cX11_rate 27 = .ok (.aload_n 0, 1) := by decide +kernel
theorem dX11_rate_28 : decode cX11_rate 28 = .ok (.getfield 63, 3) := by decide +kernel
theorem dX11_rate_31 : decode cX11_rate 31 = .ok (.iload_n 1, 1) := by decide +kernel
theorem dX11_rate_32 : decode cX11_rate 32 = .ok (.aaload, 1) := by decide +kernel
theorem dX11_rate_33 : decode cX11_rate 33 = .ok (.aload_n 0, 1) := by decide +kernel
theorem dX11_rate_34 : decode cX11_rate 34 = .ok (.getfield 19, 3) := by decide +kernel
theorem dX11_rate_37 : decode cX11_rate 37 = .ok (.aload_n 0, 1) := by decide +kernel
theorem dX11_rate_38 : decode cX11_rate 38 = .ok (.getfield 29, 3) := by decide +kernel
theorem dX11_rate_41 : decode cX11_rate 41 = .ok (.iload_n 2, 1) := by decide +kernel
theorem dX11_rate_42 : decode cX11_rate 42 = .ok (.aload_n 0, 1) := by decide +kernel
theorem dX11_rate_43 : decode cX11_rate 43 = .ok (.getfield 67, 3) := by decide +kernel
theorem dX11_rate_46 : decode cX11_rate 46 = .ok (.invokevirtual 255, 3) := by decide +kernel
theorem dX11_rate_49 : decode cX11_rate 49 = .ok (.ireturn, 1) := by decide +kernel
theorem dX11_keep_0 : decode cX11_keep 0 = .ok (.iload_n 1, 1) := by decide +kernel
theorem dX11_keep_1 : decode cX11_keep 1 = .ok (.ifCond .lt 8, 3) := by decide +kernel
theorem dX11_keep_4 : decode cX11_keep 4 = .ok (.iload_n 1, 1) := by decide +kernel
theorem dX11_keep_5 : decode cX11_keep 5 = .ok (.iconst 2, 1) := by decide +kernel
theorem dX11_keep_6 : decode cX11_keep 6 = .ok (.if_icmp .lt 5, 3) := by decide +kernel
theorem dX11_keep_9 : decode cX11_keep 9 = .ok (.iconst (-1), 1) := by decide +kernel
theorem dX11_keep_10 : decode cX11_keep 10 = .ok (.ireturn, 1) := by decide +kernel
theorem dX11_keep_11 : decode cX11_keep 11 = .ok (.aload_n 0, 1) := by decide +kernel
theorem dX11_keep_12 : decode cX11_keep 12 = .ok (.getfield 40, 3) := by decide +kernel
theorem dX11_keep_15 : decode cX11_keep 15 = .ok (.iload_n 1, 1) := by decide +kernel
theorem dX11_keep_16 : decode cX11_keep 16 = .ok (.aaload, 1) := by decide +kernel
theorem dX11_keep_17 : decode cX11_keep 17 = .ok (.aload_n 0, 1) := by decide +kernel
theorem dX11_keep_18 : decode cX11_keep 18 = .ok (.getfield 29, 3) := by decide +kernel
theorem dX11_keep_21 : decode cX11_keep 21 = .ok (.invokevirtual 205, 3) := by decide +kernel
theorem dX11_keep_24 : decode cX11_keep 24 = .ok (.aload_n 0, 1) := by decide +kernel
theorem dX11_keep_25 : decode cX11_keep 25 = .ok (.dup, 1) := by decide +kernel
theorem dX11_keep_26 : decode cX11_keep 26 = .ok (.getfield 106, 3) := by decide +kernel
theorem dX11_keep_29 : decode cX11_keep 29 = .ok (.iconst 1, 1) := by decide +kernel
theorem dX11_keep_30 : decode cX11_keep 30 = .ok (.iload_n 1, 1) := by decide +kernel
theorem dX11_keep_31 : decode cX11_keep 31 = .ok (.ishl, 1) := by decide +kernel
theorem dX11_keep_32 : decode cX11_keep 32 = .ok (.ior, 1) := by decide +kernel
theorem dX11_keep_33 : decode cX11_keep 33 = .ok (.putfield 106, 3) := by decide +kernel
theorem dX11_keep_36 : decode cX11_keep 36 = .ok (.aload_n 0, 1) := by decide +kernel
theorem dX11_keep_37 : decode cX11_keep 37 = .ok (.getfield 29, 3) := by decide +kernel
theorem dX11_keep_40 : decode cX11_keep 40 = .ok (.getfield 137, 3) := by decide +kernel
theorem dX11_keep_43 : decode cX11_keep 43 = .ok (.ireturn, 1) := by decide +kernel
theorem dX11_back_0 : decode cX11_back 0 = .ok (.iload_n 1, 1) := by decide +kernel
theorem dX11_back_1 : decode cX11_back 1 = .ok (.ifCond .lt 8, 3) := by decide +kernel
theorem dX11_back_4 : decode cX11_back 4 = .ok (.iload_n 1, 1) := by decide +kernel
theorem dX11_back_5 : decode cX11_back 5 = .ok (.iconst 2, 1) := by decide +kernel
theorem dX11_back_6 : decode cX11_back 6 = .ok (.if_icmp .lt 5, 3) := by decide +kernel
theorem dX11_back_9 : decode cX11_back 9 = .ok (.iconst (-1), 1) := by decide +kernel
theorem dX11_back_10 : decode cX11_back 10 = .ok (.ireturn, 1) := by decide +kernel
theorem dX11_back_11 : decode cX11_back 11 = .ok (.aload_n 0, 1) := by decide +kernel
theorem dX11_back_12 : decode cX11_back 12 = .ok (.getfield 106, 3) := by decide +kernel
theorem dX11_back_15 : decode cX11_back 15 = .ok (.iload_n 1, 1) := by decide +kernel
theorem dX11_back_16 : decode cX11_back 16 = .ok (.ishr, 1) := by decide +kernel
theorem dX11_back_17 : decode cX11_back 17 = .ok (.iconst 1, 1) := by decide +kernel
theorem dX11_back_18 : decode cX11_back 18 = .ok (.iand, 1) := by decide +kernel
theorem dX11_back_19 : decode cX11_back 19 = .ok (.ifCond .ne 6, 3) := by decide +kernel
theorem dX11_back_22 : decode cX11_back 22 = .ok (.bipush (-2), 2) := by decide +kernel
theorem dX11_back_24 : decode cX11_back 24 = .ok (.ireturn, 1) := by decide +kernel
theorem dX11_back_25 : decode cX11_back 25 = .ok (.aload_n 0, 1) := by decide +kernel
theorem dX11_back_26 : decode cX11_back 26 = .ok (.getfield 29, 3) := by decide +kernel
theorem dX11_back_29 : decode cX11_back 29 = .ok (.aload_n 0, 1) := by decide +kernel
theorem dX11_back_30 : decode cX11_back 30 = .ok (.getfield 40, 3) := by decide +kernel
theorem dX11_back_33 : decode cX11_back 33 = .ok (.iload_n 1, 1) := by decide +kernel
theorem dX11_back_34 : decode cX11_back 34 = .ok (.aaload, 1) := by decide +kernel
theorem dX11_back_35 : decode cX11_back 35 = .ok (.invokevirtual 205, 3) := by decide +kernel
theorem dX11_back_38 : decode cX11_back 38 = .ok (.aload_n 0, 1) := by decide +kernel
theorem dX11_back_39 : decode cX11_back 39 = .ok (.getfield 36, 3) := by decide +kernel
theorem dX11_back_42 : decode cX11_back 42 = .ok (.invokevirtual 103, 3) := by decide +kernel
theorem dX11_back_45 : decode cX11_back 45 = .ok (.aload_n 0, 1) := by decide +kernel
theorem dX11_back_46 : decode cX11_back 46 = .ok (.getfield 29, 3) := by decide +kernel
theorem dX11_back_49 : decode cX11_back 49 = .ok (.getfield 137, 3) := by decide +kernel
theorem dX11_back_52 : decode cX11_back 52 = .ok (.ireturn, 1) := by decide +kernel
theorem dX11_count_0 : decode cX11_count 0 = .ok (.iload_n 1, 1) := by decide +kernel
theorem dX11_count_1 : decode cX11_count 1 = .ok (.tableswitch 72 0 4 #[35, 43, 51, 59, 64], 35) := by decide +kernel
theorem dX11_count_36 : decode cX11_count 36 = .ok (.aload_n 0, 1) := by decide +kernel
theorem dX11_count_37 : decode cX11_count 37 = .ok (.getfield 19, 3) := by decide +kernel
theorem dX11_count_40 : decode cX11_count 40 = .ok (.getfield 189, 3) := by decide +kernel
theorem dX11_count_43 : decode cX11_count 43 = .ok (.ireturn, 1) := by decide +kernel
theorem dX11_count_44 : decode cX11_count 44 = .ok (.aload_n 0, 1) := by decide +kernel
theorem dX11_count_45 : decode cX11_count 45 = .ok (.getfield 19, 3) := by decide +kernel
theorem dX11_count_48 : decode cX11_count 48 = .ok (.getfield 259, 3) := by decide +kernel
theorem dX11_count_51 : decode cX11_count 51 = .ok (.ireturn, 1) := by decide +kernel
theorem dX11_count_52 : decode cX11_count 52 = .ok (.aload_n 0, 1) := by decide +kernel
theorem dX11_count_53 : decode cX11_count 53 = .ok (.getfield 19, 3) := by decide +kernel
theorem dX11_count_56 : decode cX11_count 56 = .ok (.getfield 262, 3) := by decide +kernel
theorem dX11_count_59 : decode cX11_count 59 = .ok (.ireturn, 1) := by decide +kernel
theorem dX11_count_60 : decode cX11_count 60 = .ok (.aload_n 0, 1) := by decide +kernel
theorem dX11_count_61 : decode cX11_count 61 = .ok (.getfield 109, 3) := by decide +kernel
theorem dX11_count_64 : decode cX11_count 64 = .ok (.ireturn, 1) := by decide +kernel
theorem dX11_count_65 : decode cX11_count 65 = .ok (.aload_n 0, 1) := by decide +kernel
theorem dX11_count_66 : decode cX11_count 66 = .ok (.getfield 10, 3) := by decide +kernel
theorem dX11_count_69 : decode cX11_count 69 = .ok (.getfield 91, 3) := by decide +kernel
theorem dX11_count_72 : decode cX11_count 72 = .ok (.ireturn, 1) := by decide +kernel
theorem dX11_count_73 : decode cX11_count 73 = .ok (.iconst (-1), 1) := by decide +kernel
theorem dX11_count_74 : decode cX11_count 74 = .ok (.ireturn, 1) := by decide +kernel
theorem dX11_trace_0 : decode cX11_trace 0 = .ok (.aload_n 0, 1) := by decide +kernel
theorem dX11_trace_1 : decode cX11_trace 1 = .ok (.getfield 67, 3) := by decide +kernel
theorem dX11_trace_4 : decode cX11_trace 4 = .ok (.iconst 0, 1) := by decide +kernel
theorem dX11_trace_5 : decode cX11_trace 5 = .ok (.laload, 1) := by decide +kernel
theorem dX11_trace_6 : decode cX11_trace 6 = .ok (.lreturn, 1) := by decide +kernel
theorem dX12_init_0 : decode cX12_init 0 = .ok (.aload_n 0, 1) := by decide +kernel
theorem dX12_init_1 : decode cX12_init 1 = .ok (.invokespecial 1, 3) := by decide +kernel
theorem dX12_init_4 : decode cX12_init 4 = .ok (.aload_n 0, 1) := by decide +kernel
theorem dX12_init_5 : decode cX12_init 5 = .ok (.sipush 200, 3) := by decide +kernel
theorem dX12_init_8 : decode cX12_init 8 = .ok (.newarray .int, 2) := by decide +kernel
theorem dX12_init_10 : decode cX12_init 10 = .ok (.putfield 7, 3) := by decide +kernel
theorem dX12_init_13 : decode cX12_init 13 = .ok (.aload_n 0, 1) := by decide +kernel
theorem dX12_init_14 : decode cX12_init 14 = .ok (.bipush 6, 2) := by decide +kernel
theorem dX12_init_16 : decode cX12_init 16 = .ok (.newarray .int, 2) := by decide +kernel
theorem dX12_init_18 : decode cX12_init 18 = .ok (.putfield 13, 3) := by decide +kernel
theorem dX12_init_21 : decode cX12_init 21 = .ok (.aload_n 0, 1) := by decide +kernel
theorem dX12_init_22 : decode cX12_init 22 = .ok (.bipush 12, 2) := by decide +kernel
theorem dX12_init_24 : decode cX12_init 24 = .ok (.newarray .int, 2) := by decide +kernel
theorem dX12_init_26 : decode cX12_init 26 = .ok (.putfield 16, 3) := by decide +kernel
theorem dX12_init_29 : decode cX12_init 29 = .ok (.aload_n 0, 1) := by decide +kernel
theorem dX12_init_30 : decode cX12_init 30 = .ok (.bipush 12, 2) := by decide +kernel
theorem dX12_init_32 : decode cX12_init 32 = .ok (.newarray .int, 2) := by decide +kernel
theorem dX12_init_34 : decode cX12_init 34 = .ok (.putfield 19, 3) := by decide +kernel
theorem dX12_init_37 : decode cX12_init 37 = .ok (.aload_n 0, 1) := by decide +kernel
theorem dX12_init_38 : decode cX12_init 38 = .ok (.bipush 12, 2) := by decide +kernel
theorem dX12_init_40 : decode cX12_init 40 = .ok (.newarray .int, 2) := by decide +kernel
theorem dX12_init_42 : decode cX12_init 42 = .ok (.putfield 22, 3) := by decide +kernel
theorem dX12_init_45 : decode cX12_init 45 = .ok (.aload_n 0, 1) := by decide +kernel
theorem dX12_init_46 : decode cX12_init 46 = .ok (.bipush 8, 2) := by decide +kernel
theorem dX12_init_48 : decode cX12_init 48 = .ok (.newarray .int, 2) := by decide +kernel
theorem dX12_init_50 : decode cX12_init 50 = .ok (.putfield 25, 3) := by decide +kernel
theorem dX12_init_53 : decode cX12_init 53 = .ok (.aload_n 0, 1) := by decide +kernel
theorem dX12_init_54 : decode cX12_init 54 = .ok (.bipush 8, 2) := by decide +kernel
theorem dX12_init_56 : decode cX12_init 56 = .ok (.newarray .int, 2) := by decide +kernel
theorem dX12_init_58 : decode cX12_init 58 = .ok (.putfield 28, 3) := by decide +kernel
theorem dX12_init_61 : decode cX12_init 61 = .ok (.aload_n 0, 1) := by decide +kernel
theorem dX12_init_62 : decode cX12_init 62 = .ok (.bipush 15, 2) := by decide +kernel
theorem dX12_init_64 : decode cX12_init 64 = .ok (.newarray .int, 2) := by decide +kernel
theorem dX12_init_66 : decode cX12_init 66 = .ok (.putfield 31, 3) := by decide +kernel
theorem dX12_init_69 : decode cX12_init 69 = .ok (.aload_n 0, 1) := by decide +kernel
theorem dX12_init_70 : decode cX12_init 70 = .ok (.bipush 15, 2) := by decide +kernel
theorem dX12_init_72 : decode cX12_init 72 = .ok (.newarray .int, 2) := by decide +kernel
theorem dX12_init_74 : decode cX12_init 74 = .ok (.putfield 34, 3) := by decide +kernel
theorem dX12_init_77 : decode cX12_init 77 = .ok (.aload_n 0, 1) := by decide +kernel
theorem dX12_init_78 : decode cX12_init 78 = .ok (.bipush 30, 2) := by decide +kernel
theorem dX12_init_80 : decode cX12_init 80 = .ok (.newarray .int, 2) := by decide +kernel
theorem dX12_init_82 : decode cX12_init 82 = .ok (.putfield 37, 3) := by decide +kernel
theorem dX12_init_85 : decode cX12_init 85 = .ok (.aload_n 0, 1) := by decide +kernel
theorem dX12_init_86 : decode cX12_init 86 = .ok (.iconst 2, 1) := by decide +kernel
theorem dX12_init_87 : decode cX12_init 87 = .ok (.newarray .boolean, 2) := by decide +kernel
theorem dX12_init_89 : decode cX12_init 89 = .ok (.putfield 40, 3) := by decide +kernel
theorem dX12_init_92 : decode cX12_init 92 = .ok (.aload_n 0, 1) := by decide +kernel
theorem dX12_init_93 : decode cX12_init 93 = .ok (.sipush 150, 3) := by decide +kernel
theorem dX12_init_96 : decode cX12_init 96 = .ok (.newarray .int, 2) := by decide +kernel
theorem dX12_init_98 : decode cX12_init 98 = .ok (.putfield 44, 3) := by decide +kernel
theorem dX12_init_101 : decode cX12_init 101 = .ok (.aload_n 0, 1) := by decide +kernel
theorem dX12_init_102 : decode cX12_init 102 = .ok (.iconst 5, 1) := by decide +kernel
theorem dX12_init_103 : decode cX12_init 103 = .ok (.newarray .int, 2) := by decide +kernel
theorem dX12_init_105 : decode cX12_init 105 = .ok (.putfield 47, 3) := by decide +kernel
theorem dX12_init_108 : decode cX12_init 108 = .ok (.aload_n 0, 1) := by decide +kernel
theorem dX12_init_109 : decode cX12_init 109 = .ok (.iconst 5, 1) := by decide +kernel
theorem dX12_init_110 : decode cX12_init 110 = .ok (.newarray .int, 2) := by decide +kernel
theorem dX12_init_112 : decode cX12_init 112 = .ok (.putfield 50, 3) := by decide +kernel
theorem dX12_init_115 : decode cX12_init 115 = .ok (.aload_n 0, 1) := by decide +kernel
theorem dX12_init_116 : decode cX12_init 116 = .ok (.iconst 3, 1) := by decide +kernel
theorem dX12_init_117 : decode cX12_init 117 = .ok (.newarray .int, 2) := by decide +kernel
theorem dX12_init_119 : decode cX12_init 119 = .ok (.putfield 53, 3) := by decide +kernel
theorem dX12_init_122 : decode cX12_init 122 = .ok (.aload_n 0, 1) := by decide +kernel
theorem dX12_init_123 : decode cX12_init 123 = .ok (.iconst 3, 1) := by decide +kernel
theorem dX12_init_124 : decode cX12_init 124 = .ok (.newarray .int, 2) := by decide +kernel
theorem dX12_init_126 : decode cX12_init 126 = .ok (.putfield 56, 3) := by decide +kernel
theorem dX12_init_129 : decode cX12_init 129 = .ok (.aload_n 0, 1) := by decide +kernel
theorem dX12_init_130 : decode cX12_init 130 = .ok (.getfield 13, 3) := by decide +kernel
theorem dX12_init_133 : decode cX12_init 133 = .ok (.iconst 1, 1) := by decide +kernel
theorem dX12_init_134 : decode cX12_init 134 = .ok (.bipush 60, 2) := by decide +kernel
theorem dX12_init_136 : decode cX12_init 136 = .ok (.iastore, 1) := by decide +kernel
theorem dX12_init_137 : decode cX12_init 137 = .ok (.return_, 1) := by decide +kernel
theorem dX12_in_0 : decode cX12_in 0 = .ok (.iload_n 0, 1) := by decide +kernel
theorem dX12_in_1 : decode cX12_in 1 = .ok (.iload_n 1, 1) := by decide +kernel
theorem dX12_in_2 : decode cX12_in 2 = .ok (.if_icmp .lt 12, 3) := by decide +kernel
theorem dX12_in_5 : decode cX12_in 5 = .ok (.iload_n 0, 1) := by decide +kernel
theorem dX12_in_6 : decode cX12_in 6 = .ok (.iload_n 2, 1) := by decide +kernel
theorem dX12_in_7 : decode cX12_in 7 = .ok (.if_icmp .gt 7, 3) := by decide +kernel
theorem dX12_in_10 : decode cX12_in 10 = .ok (.iconst 1, 1) := by decide +kernel
theorem dX12_in_11 : decode cX12_in 11 = .ok (.goto 4, 3) := by decide +kernel
theorem dX12_in_14 : decode cX12_in 14 = .ok (.iconst 0, 1) := by decide +kernel
theorem dX12_in_15 : decode cX12_in 15 = .ok (.ireturn, 1) := by decide +kernel
theorem dX12_type_0 : decode cX12_type 0 = .ok (.aload_n 0, 1) := by decide +kernel
theorem dX12_type_1 : decode cX12_type 1 = .ok (.iconst 0, 1) := by decide +kernel
theorem dX12_type_2 : decode cX12_type 2 = .ok (.putfield 59, 3) := by decide +kernel
theorem dX12_type_5 : decode cX12_type 5 = .ok (.iload_n 1, 1) := by decide +kernel
theorem dX12_type_6 : decode cX12_type 6 = .ok (.iconst 0, 1) := by decide +kernel
theorem dX12_type_7 : decode cX12_type 7 = .ok (.sipush 255, 3) := by decide +kernel
theorem dX12_type_10 : decode cX12_type 10 = .ok (.invokestatic 63, 3) := by decide +kernel
theorem dX12_type_13 : decode cX12_type 13 = .ok (.ifCond .ne 5, 3) := by decide +kernel
theorem dX12_type_16 : decode cX12_type 16 = .ok (.iconst (-1), 1) := by decide +kernel
theorem dX12_type_17 : decode cX12_type 17 = .ok (.ireturn, 1) := by decide +kernel
theorem dX12_type_18 : decode cX12_type 18 = .ok (.aload_n 0, 1) := by decide +kernel
theorem dX12_type_19 : decode cX12_type 19 = .ok (.getfield 67, 3) := by decide +kernel
theorem dX12_type_22 : decode cX12_type 22 = .ok (.sipush 200, 3) := by decide +kernel
theorem dX12_type_25 : decode cX12_type 25 = .ok (.if_icmp .ne 6, 3) := by decide +kernel
theorem dX12_type_28 : decode cX12_type 28 = .ok (.bipush (-3), 2) := by decide +kernel
theorem dX12_type_30 : decode cX12_type 30 = .ok (.ireturn, 1) := by decide +kernel
theorem dX12_type_31 : decode cX12_type 31 = .ok (.aload_n 0, 1) := by decide +kernel
theorem dX12_type_32 : decode cX12_type 32 = .ok (.getfield 7, 3) := by decide +kernel
theorem dX12_type_35 : decode cX12_type 35 = .ok (.aload_n 0, 1) := by decide +kernel
theorem dX12_type_36 : decode cX12_type 36 = .ok (.getfield 67, 3) := by decide +kernel
theorem dX12_type_39 : decode cX12_type 39 = .ok (.iload_n 1, 1) := by decide +kernel
theorem dX12_type_40 : decode cX12_type 40 = .ok (.iastore, 1) := by decide +kernel
theorem dX12_type_41 : decode cX12_type 41 = .ok (.aload_n 0, 1) := by decide +kernel
theorem dX12_type_42 : decode cX12_type 42 = .ok (.dup, 1) := by decide +kernel
theorem dX12_type_43 : decode cX12_type 43 = .ok (.getfield 67, 3) := by decide +kernel
theorem dX12_type_46 : decode cX12_type 46 = .ok (.iconst 1, 1) := by decide +kernel
theorem dX12_type_47 : decode cX12_type 47 = .ok (.iadd, 1) := by decide +kernel
theorem dX12_type_48 : decode cX12_type 48 = .ok (.putfield 67, 3) := by decide +kernel
theorem dX12_type_51 : decode cX12_type 51 = .ok (.aload_n 0, 1) := by decide +kernel
theorem dX12_type_52 : decode cX12_type 52 = .ok (.getfield 67, 3) := by decide +kernel
theorem dX12_type_55 : decode cX12_type 55 = .ok (.ireturn, 1) := by decide +kernel
theorem dX12_clear_0 : decode cX12_clear 0 = .ok (.aload_n 0, 1) := by decide +kernel
theorem dX12_clear_1 : decode cX12_clear 1 = .ok (.iconst 0, 1) := by decide +kernel
theorem dX12_clear_2 : decode cX12_clear 2 = .ok (.putfield 59, 3) := by decide +kernel
theorem dX12_clear_5 : decode cX12_clear 5 = .ok (.aload_n 0, 1) := by decide +kernel
theorem dX12_clear_6 : decode cX12_clear 6 = .ok (.getfield 67, 3) := by decide +kernel
theorem dX12_clear_9 : decode cX12_clear 9 = .ok (.istore_n 1, 1) := by decide +kernel
theorem dX12_clear_10 : decode cX12_clear 10 = .ok (.aload_n 0, 1) := by decide +kernel
theorem dX12_clear_11 : decode cX12_clear 11 = .ok (.iconst 0, 1) := by decide +kernel
theorem dX12_clear_12 : decode cX12_clear 12 = .ok (.putfield 67, 3) := by decide +kernel
theorem dX12_clear_15 : decode cX12_clear 15 = .ok (.iload_n 1, 1) := by decide +kernel
theorem dX12_clear_16 : decode cX12_clear 16 = .ok (.ireturn, 1) := by decide +kernel
theorem dX12_letterAt_0 : decode cX12_letterAt 0 = .ok (.iload_n 1, 1) := by decide +kernel
theorem dX12_letterAt_1 : decode cX12_letterAt 1 = .ok (.aload_n 0, 1) := by decide +kernel
theorem dX12_letterAt_2 : decode cX12_letterAt 2 = .ok (.getfield 67, 3) := by decide +kernel
theorem dX12_letterAt_5 : decode cX12_letterAt 5 = .ok (.if_icmp .ge 12, 3) := by decide +kernel
theorem dX12_letterAt_8 : decode cX12_letterAt 8 = .ok (.aload_n 0, 1) := by decide +kernel
theorem dX12_letterAt_9 : decode cX12_letterAt 9 = .ok (.getfield 7, 3) := by decide +kernel
theorem dX12_letterAt_12 : decode cX12_letterAt 12 = .ok (.iload_n 1, 1) := by decide +kernel
theorem dX12_letterAt_13 : decode cX12_letterAt 13 = .ok (.iaload, 1) := by decide +kernel
theorem dX12_letterAt_14 : decode cX12_letterAt 14 = .ok (.goto 4, 3) := by decide +kernel
theorem dX12_letterAt_17 : decode cX12_letterAt 17 = .ok (.iconst (-1), 1) := by decide +kernel
theorem dX12_letterAt_18 : decode cX12_letterAt 18 = .ok (.ireturn, 1) := by decide +kernel
theorem dX12_advances_0 : decode cX12_advances 0 = .ok (.aload_n 0, 1) := by decide +kernel
theorem dX12_advances_1 : decode cX12_advances 1 = .ok (.aload_n 0, 1) := by decide +kernel
theorem dX12_advances_2 : decode cX12_advances 2 = .ok (.getfield 70, 3) := by decide +kernel
theorem dX12_advances_5 : decode cX12_advances 5 = .ok (.invokevirtual 73, 3) := by decide +kernel
theorem dX12_advances_8 : decode cX12_advances 8 = .ok (.bipush 32, 2) := by decide +kernel
theorem dX12_advances_10 : decode cX12_advances 10 = .ok (.if_icmp .ne 16, 3) := by decide +kernel
theorem dX12_advances_13 : decode cX12_advances 13 = .ok (.aload_n 0, 1) := by decide +kernel
theorem dX12_advances_14 : decode cX12_advances 14 = .ok (.dup, 1) := by decide +kernel
theorem dX12_advances_15 : decode cX12_advances 15 = .ok (.getfield 70, 3) := by decide +kernel
theorem dX12_advances_18 : decode cX12_advances 18 = .ok (.iconst 1, 1) := by decide +kernel
theorem dX12_advances_19 : decode cX12_advances 19 = .ok (.iadd, 1) := by decide +kernel
theorem dX12_advances_20 : decode cX12_advances 20 = .ok (.putfield 70, 3) := by decide +kernel
theorem dX12_advances_23 : decode cX12_advances 23 = .ok (.goto (-23), 3) := by decide +kernel
theorem dX12_advances_26 : decode cX12_advances 26 = .ok (.aload_n 0, 1) := by decide +kernel
theorem dX12_advances_27 : decode cX12_advances 27 = .ok (.aload_n 0, 1) := by decide +kernel
theorem dX12_advances_28 : decode cX12_advances 28 = .ok (.getfield 70, 3) := by decide +kernel
theorem dX12_advances_31 : decode cX12_advances 31 = .ok (.putfield 77, 3) := by decide +kernel
theorem dX12_advances_34 : decode cX12_advances 34 = .ok (.aload_n 0, 1) := by decide +kernel
theorem dX12_advances_35 : decode cX12_advances 35 = .ok (.aload_n 0, 1) := by decide +kernel
theorem dX12_advances_36 : decode cX12_advances 36 = .ok (.getfield 70, 3) := by decide +kernel
theorem dX12_advances_39 : decode cX12_advances 39 = .ok (.invokevirtual 73, 3) := by decide +kernel
theorem dX12_advances_42 : decode cX12_advances 42 = .ok (.istore_n 1, 1) := by decide +kernel
theorem dX12_advances_43 : decode cX12_advances 43 = .ok (.iload_n 1, 1) := by decide +kernel
theorem dX12_advances_44 : decode cX12_advances 44 = .ok (.ifCond .ge 11, 3) := by decide +kernel
theorem dX12_advances_47 : decode cX12_advances 47 = .ok (.aload_n 0, 1) := by decide +kernel
theorem dX12_advances_48 : decode cX12_advances 48 = .ok (.iconst 0, 1) := by decide +kernel
theorem dX12_advances_49 : decode cX12_advances 49 = .ok (.putfield 80, 3) := by decide +kernel
theorem dX12_advances_52 : decode cX12_advances 52 = .ok (.goto 183, 3) := by decide +kernel
theorem dX12_advances_55 : decode cX12_advances 55 = .ok (.iload_n 1, 1) := by decide +kernel
theorem dX12_advances_56 : decode cX12_advances 56 = .ok (.bipush 48, 2) := by decide +kernel
theorem dX12_advances_58 : decode cX12_advances 58 = .ok (.bipush 57, 2) := by decide +kernel
theorem dX12_advances_60 : decode cX12_advances 60 = .ok (.invokestatic 63, 3) := by decide +kernel
theorem dX12_advances_63 : decode cX12_advances 63 = .ok (.ifCond .eq 120, 3) := by decide +kernel
theorem dX12_advances_66 : decode cX12_advances 66 = .ok (.aload_n 0, 1) := by decide +kernel
theorem dX12_advances_67 : decode cX12_advances 67 = .ok (.iconst 0, 1) := by decide +kernel
theorem dX12_advances_68 : decode cX12_advances 68 = .ok (.putfield 83, 3) := by decide +kernel
theorem dX12_advances_71 : decode cX12_advances 71 = .ok (.aload_n 0, 1) := by decide +kernel
theorem dX12_advances_72 : decode cX12_advances 72 = .ok (.aload_n 0, 1) := by decide +kernel
theorem dX12_advances_73 : decode cX12_advances 73 = .ok (.getfield 70, 3) := by decide +kernel
theorem dX12_advances_76 : decode cX12_advances 76 = .ok (.invokevirtual 73, 3) := by decide +kernel
theorem dX12_advances_79 : decode cX12_advances 79 = .ok (.bipush 48, 2) := by decide +kernel
theorem dX12_advances_81 : decode cX12_advances 81 = .ok (.bipush 57, 2) := by decide +kernel
theorem dX12_advances_83 : decode cX12_advances 83 = .ok (.invokestatic 63, 3) := by decide +kernel
theorem dX12_advances_86 : decode cX12_advances 86 = .ok (.ifCond .eq 56, 3) := by decide +kernel
theorem dX12_advances_89 : decode cX12_advances 89 = .ok (.aload_n 0, 1) := by decide +kernel
theorem dX12_advances_90 : decode cX12_advances 90 = .ok (.aload_n 0, 1) := by decide +kernel
theorem dX12_advances_91 : decode cX12_advances 91 = .ok (.getfield 83, 3) := by decide +kernel
theorem dX12_advances_94 : decode cX12_advances 94 = .ok (.sipush 200, 3) := by decide +kernel
theorem dX12_advances_97 : decode cX12_advances 97 = .ok (.if_icmp .le 10, 3) := by decide +kernel
theorem dX12_advances_100 : decode cX12_advances 100 = .ok (.aload_n 0, 1) := by decide +kernel
theorem dX12_advances_101 : decode cX12_advances 101 = .ok (.getfield 83, 3) := by decide +kernel
theorem dX12_advances_104 : decode cX12_advances 104 = .ok (.goto 22, 3) := by decide +kernel
theorem dX12_advances_107 : decode cX12_advances 107 = .ok (.bipush 10, 2) := by decide +kernel
theorem dX12_advances_109 : decode cX12_advances 109 = .ok (.aload_n 0, 1) := by decide +kernel
theorem dX12_advances_110 : decode cX12_advances 110 = .ok (.getfield 83, 3) := by decide +kernel
theorem dX12_advances_113 : decode cX12_advances 113 = .ok (.imul, 1) := by decide +kernel
theorem dX12_advances_114 : decode cX12_advances 114 = .ok (.aload_n 0, 1) := by decide +kernel
theorem dX12_advances_115 : decode cX12_advances 115 = .ok (.aload_n 0, 1) := by decide +kernel
theorem dX12_advances_116 : decode cX12_advances 116 = .ok (.getfield 70, 3) := by decide +kernel
theorem dX12_advances_119 : decode cX12_advances 119 = .ok (.invokevirtual 73, 3) := by decide +kernel
theorem dX12_advances_122 : decode cX12_advances 122 = .ok (.iadd, 1) := by decide +kernel
theorem dX12_advances_123 : decode cX12_advances 123 = .ok (.bipush 48, 2) := by decide +kernel
theorem dX12_advances_125 : decode cX12_advances 125 = .ok (.isub, 1) := by decide +kernel
theorem dX12_advances_126 : decode cX12_advances 126 = .ok (.putfield 83, 3) := by decide +kernel
theorem dX12_advances_129 : decode cX12_advances 129 = .ok (.aload_n 0, 1) := by decide +kernel
theorem dX12_advances_130 : decode cX12_advances 130 = .ok (.dup, 1) := by decide +kernel
theorem dX12_advances_131 : decode cX12_advances 131 = .ok (.getfield 70, 3) := by decide +kernel
theorem dX12_advances_134 : decode cX12_advances 134 = .ok (.iconst 1, 1) := by decide +kernel
theorem dX12_advances_135 : decode cX12_advances 135 = .ok (.iadd, 1) := by decide +kernel
theorem dX12_advances_136 : decode cX12_advances 136 = .ok (.putfield 70, 3) := by decide +kernel
theorem dX12_advances_139 : decode cX12_advances 139 = .ok (.goto (-68), 3) := by decide +kernel
theorem dX12_advances_142 : decode cX12_advances 142 = .ok (.aload_n 0, 1) := by decide +kernel
theorem dX12_advances_143 : decode cX12_advances 143 = .ok (.aload_n 0, 1) := by decide +kernel
theorem dX12_advances_144 : decode cX12_advances 144 = .ok (.getfield 83, 3) := by decide +kernel
theorem dX12_advances_147 : decode cX12_advances 147 = .ok (.sipush 200, 3) := by decide +kernel
theorem dX12_advances_150 : decode cX12_advances 150 = .ok (.if_icmp .gt 22, 3) := by decide +kernel
theorem dX12_advances_153 : decode cX12_advances 153 = .ok (.iload_n 1, 1) := by decide +kernel
theorem dX12_advances_154 : decode cX12_advances 154 = .ok (.bipush 48, 2) := by decide +kernel
theorem dX12_advances_156 : decode cX12_advances 156 = .ok (.if_icmp .ne 20, 3) := by decide +kernel
theorem dX12_advances_159 : decode cX12_advances 159 = .ok (.aload_n 0, 1) := by decide +kernel
theorem dX12_advances_160 : decode cX12_advances 160 = .ok (.getfield 70, 3) := by decide +kernel
theorem dX12_advances_163 : decode cX12_advances 163 = .ok (.aload_n 0, 1) := by decide +kernel
theorem dX12_advances_164 : decode cX12_advances 164 = .ok (.getfield 77, 3) := by decide +kernel
theorem dX12_advances_167 : decode cX12_advances 167 = .ok (.isub, 1) := by decide +kernel
theorem dX12_advances_168 : decode cX12_advances 168 = .ok (.iconst 1, 1) := by decide +kernel
theorem dX12_advances_169 : decode cX12_advances 169 = .ok (.if_icmp .le 7, 3) := by decide +kernel
theorem dX12_advances_172 : decode cX12_advances 172 = .ok (.iconst 4, 1) := by decide +kernel
theorem dX12_advances_173 : decode cX12_advances 173 = .ok (.goto 4, 3) := by decide +kernel
theorem dX12_advances_176 : decode cX12_advances 176 = .ok (.iconst 2, 1) := by decide +kernel
theorem dX12_advances_177 : decode cX12_advances 177 = .ok (.putfield 80, 3) := by decide +kernel
theorem dX12_advances_180 : decode cX12_advances 180 = .ok (.goto 55, 3) := by decide +kernel
theorem dX12_advances_183 : decode cX12_advances 183 = .ok (.aload_n 0, 1) := by decide +kernel
theorem dX12_advances_184 : decode cX12_advances 184 = .ok (.dup, 1) := by decide +kernel
theorem dX12_advances_185 : decode cX12_advances 185 = .ok (.getfield 70, 3) := by decide +kernel
theorem dX12_advances_188 : decode cX12_advances 188 = .ok (.iconst 1, 1) := by decide +kernel
theorem dX12_advances_189 : decode cX12_advances 189 = .ok (.iadd, 1) := by decide +kernel
theorem dX12_advances_190 : decode cX12_advances 190 = .ok (.putfield 70, 3) := by decide +kernel
theorem dX12_advances_193 : decode cX12_advances 193 = .ok (.aload_n 0, 1) := by decide +kernel
theorem dX12_advances_194 : decode cX12_advances 194 = .ok (.iload_n 1, 1) := by decide +kernel
theorem dX12_advances_195 : decode cX12_advances 195 = .ok (.putfield 83, 3) := by decide +kernel
theorem dX12_advances_198 : decode cX12_advances 198 = .ok (.aload_n 0, 1) := by decide +kernel
theorem dX12_advances_199 : decode cX12_advances 199 = .ok (.iload_n 1, 1) := by decide +kernel
theorem dX12_advances_200 : decode cX12_advances 200 = .ok (.bipush 59, 2) := by decide +kernel
theorem dX12_advances_202 : decode cX12_advances 202 = .ok (.if_icmp .ne 7, 3) := by decide +kernel
theorem dX12_advances_205 : decode cX12_advances 205 = .ok (.iconst 3, 1) := by decide +kernel
theorem dX12_advances_206 : decode cX12_advances 206 = .ok (.goto 26, 3) := by decide +kernel
theorem dX12_advances_209 : decode cX12_advances 209 = .ok (.iload_n 1, 1) := by decide +kernel
theorem dX12_advances_210 : decode cX12_advances 210 = .ok (.bipush 112, 2) := by decide +kernel
end
section
theorem dX12_advances_212 : decode cX12_advances 212 = .ok (.if_icmp .eq 15, 3) := by decide +kernel
theorem dX12_advances_215 : decode cX12_advances 215 = .ok (.iload_n 1, 1) := by decide +kernel
theorem dX12_advances_216 : decode cX12_advances 216 = .ok (.bipush 99, 2) := by decide +kernel
theorem dX12_advances_218 : decode cX12_advances 218 = .ok (.if_icmp .eq 9, 3) := by decide +kernel
theorem dX12_advances_221 : decode cX12_advances 221 = .ok (.iload_n 1, 1) := by decide +kernel
theorem dX12_advances_222 : decode cX12_advances 222 = .ok (.bipush 119, 2) := by decide +kernel
theorem dX12_advances_224 : decode cX12_advances 224 = .ok (.if_icmp .ne 7, 3) := by decide +kernel
theorem dX12_advances_227 : decode cX12_advances 227 = .ok (.iconst 1, 1) := by decide +kernel
theorem dX12_advances_228 : decode cX12_advances 228 = .ok (.goto 4, 3) := by decide +kernel
theorem dX12_advances_231 : decode cX12_advances 231 = .ok (.iconst 4, 1) := by decide +kernel
theorem dX12_advances_232 : decode cX12_advances 232 = .ok (.putfield 80, 3) := by decide +kernel
theorem dX12_advances_235 : decode cX12_advances 235 = .ok (.return_, 1) := by decide +kernel
theorem dX12_isWell_0 : decode cX12_isWell 0 = .ok (.aload_n 0, 1) := by decide +kernel
theorem dX12_isWell_1 : decode cX12_isWell 1 = .ok (.getfield 86, 3) := by decide +kernel
theorem dX12_isWell_4 : decode cX12_isWell 4 = .ok (.ifCond .ge 7, 3) := by decide +kernel
theorem dX12_isWell_7 : decode cX12_isWell 7 = .ok (.iconst 1, 1) := by decide +kernel
theorem dX12_isWell_8 : decode cX12_isWell 8 = .ok (.goto 4, 3) := by decide +kernel
theorem dX12_isWell_11 : decode cX12_isWell 11 = .ok (.iconst 0, 1) := by decide +kernel
theorem dX12_isWell_12 : decode cX12_isWell 12 = .ok (.ireturn, 1) := by decide +kernel
theorem dX12_takes_0 : decode cX12_takes 0 = .ok (.aload_n 0, 1) := by decide +kernel
theorem dX12_takes_1 : decode cX12_takes 1 = .ok (.invokevirtual 89, 3) := by decide +kernel
theorem dX12_takes_4 : decode cX12_takes 4 = .ok (.ifCond .ne 5, 3) := by decide +kernel
theorem dX12_takes_7 : decode cX12_takes 7 = .ok (.iconst 0, 1) := by decide +kernel
theorem dX12_takes_8 : decode cX12_takes 8 = .ok (.ireturn, 1) := by decide +kernel
theorem dX12_takes_9 : decode cX12_takes 9 = .ok (.iload_n 1, 1) := by decide +kernel
theorem dX12_takes_10 : decode cX12_takes 10 = .ok (.ifCond .ne 13, 3) := by decide +kernel
theorem dX12_takes_13 : decode cX12_takes 13 = .ok (.aload_n 0, 1) := by decide +kernel
theorem dX12_takes_14 : decode cX12_takes 14 = .ok (.aload_n 0, 1) := by decide +kernel
theorem dX12_takes_15 : decode cX12_takes 15 = .ok (.getfield 77, 3) := by decide +kernel
theorem dX12_takes_18 : decode cX12_takes 18 = .ok (.putfield 86, 3) := by decide +kernel
theorem dX12_takes_21 : decode cX12_takes 21 = .ok (.iconst 0, 1) := by decide +kernel
theorem dX12_takes_22 : decode cX12_takes 22 = .ok (.ireturn, 1) := by decide +kernel
theorem dX12_takes_23 : decode cX12_takes 23 = .ok (.aload_n 0, 1) := by decide +kernel
theorem dX12_takes_24 : decode cX12_takes 24 = .ok (.getfield 83, 3) := by decide +kernel
theorem dX12_takes_27 : decode cX12_takes 27 = .ok (.istore_n 2, 1) := by decide +kernel
theorem dX12_takes_28 : decode cX12_takes 28 = .ok (.aload_n 0, 1) := by decide +kernel
theorem dX12_takes_29 : decode cX12_takes 29 = .ok (.invokevirtual 93, 3) := by decide +kernel
theorem dX12_takes_32 : decode cX12_takes 32 = .ok (.iload_n 2, 1) := by decide +kernel
theorem dX12_takes_33 : decode cX12_takes 33 = .ok (.ireturn, 1) := by decide +kernel
theorem dX12_number_0 : decode cX12_number 0 = .ok (.aload_n 0, 1) := by decide +kernel
theorem dX12_number_1 : decode cX12_number 1 = .ok (.aload_n 0, 1) := by decide +kernel
theorem dX12_number_2 : decode cX12_number 2 = .ok (.getfield 80, 3) := by decide +kernel
theorem dX12_number_5 : decode cX12_number 5 = .ok (.iconst 2, 1) := by decide +kernel
theorem dX12_number_6 : decode cX12_number 6 = .ok (.if_icmp .ne 19, 3) := by decide +kernel
theorem dX12_number_9 : decode cX12_number 9 = .ok (.aload_n 0, 1) := by decide +kernel
theorem dX12_number_10 : decode cX12_number 10 = .ok (.getfield 83, 3) := by decide +kernel
theorem dX12_number_13 : decode cX12_number 13 = .ok (.iload_n 1, 1) := by decide +kernel
theorem dX12_number_14 : decode cX12_number 14 = .ok (.iload_n 2, 1) := by decide +kernel
theorem dX12_number_15 : decode cX12_number 15 = .ok (.invokestatic 63, 3) := by decide +kernel
theorem dX12_number_18 : decode cX12_number 18 = .ok (.ifCond .eq 7, 3) := by decide +kernel
theorem dX12_number_21 : decode cX12_number 21 = .ok (.iconst 1, 1) := by decide +kernel
theorem dX12_number_22 : decode cX12_number 22 = .ok (.goto 4, 3) := by decide +kernel
theorem dX12_number_25 : decode cX12_number 25 = .ok (.iconst 0, 1) := by decide +kernel
theorem dX12_number_26 : decode cX12_number 26 = .ok (.invokevirtual 96, 3) := by decide +kernel
theorem dX12_number_29 : decode cX12_number 29 = .ok (.ireturn, 1) := by decide +kernel
theorem dX12_isNewYard_0 : decode cX12_isNewYard 0 = .ok (.iconst 1, 1) := by decide +kernel
theorem dX12_isNewYard_1 : decode cX12_isNewYard 1 = .ok (.istore_n 1, 1) := by decide +kernel
theorem dX12_isNewYard_2 : decode cX12_isNewYard 2 = .ok (.iconst 0, 1) := by decide +kernel
theorem dX12_isNewYard_3 : decode cX12_isNewYard 3 = .ok (.istore_n 2, 1) := by decide +kernel
theorem dX12_isNewYard_4 : decode cX12_isNewYard 4 = .ok (.iload_n 2, 1) := by decide +kernel
theorem dX12_isNewYard_5 : decode cX12_isNewYard 5 = .ok (.aload_n 0, 1) := by decide +kernel
theorem dX12_isNewYard_6 : decode cX12_isNewYard 6 = .ok (.getfield 13, 3) := by decide +kernel
theorem dX12_isNewYard_9 : decode cX12_isNewYard 9 = .ok (.iconst 5, 1) := by decide +kernel
theorem dX12_isNewYard_10 : decode cX12_isNewYard 10 = .ok (.iaload, 1) := by decide +kernel
theorem dX12_isNewYard_11 : decode cX12_isNewYard 11 = .ok (.if_icmp .ge 34, 3) := by decide +kernel
theorem dX12_isNewYard_14 : decode cX12_isNewYard 14 = .ok (.iload_n 1, 1) := by decide +kernel
theorem dX12_isNewYard_15 : decode cX12_isNewYard 15 = .ok (.ifCond .eq 22, 3) := by decide +kernel
theorem dX12_isNewYard_18 : decode cX12_isNewYard 18 = .ok (.aload_n 0, 1) := by decide +kernel
theorem dX12_isNewYard_19 : decode cX12_isNewYard 19 = .ok (.getfield 25, 3) := by decide +kernel
theorem dX12_isNewYard_22 : decode cX12_isNewYard 22 = .ok (.iconst 4, 1) := by decide +kernel
theorem dX12_isNewYard_23 : decode cX12_isNewYard 23 = .ok (.iload_n 2, 1) := by decide +kernel
theorem dX12_isNewYard_24 : decode cX12_isNewYard 24 = .ok (.iadd, 1) := by decide +kernel
theorem dX12_isNewYard_25 : decode cX12_isNewYard 25 = .ok (.iaload, 1) := by decide +kernel
theorem dX12_isNewYard_26 : decode cX12_isNewYard 26 = .ok (.aload_n 0, 1) := by decide +kernel
theorem dX12_isNewYard_27 : decode cX12_isNewYard 27 = .ok (.getfield 83, 3) := by decide +kernel
theorem dX12_isNewYard_30 : decode cX12_isNewYard 30 = .ok (.if_icmp .eq 7, 3) := by decide +kernel
theorem dX12_isNewYard_33 : decode cX12_isNewYard 33 = .ok (.iconst 1, 1) := by decide +kernel
theorem dX12_isNewYard_34 : decode cX12_isNewYard 34 = .ok (.goto 4, 3) := by decide +kernel
theorem dX12_isNewYard_37 : decode cX12_isNewYard 37 = .ok (.iconst 0, 1) := by decide +kernel
theorem dX12_isNewYard_38 : decode cX12_isNewYard 38 = .ok (.istore_n 1, 1) := by decide +kernel
theorem dX12_isNewYard_39 : decode cX12_isNewYard 39 = .ok (.iinc 2 1, 3) := by decide +kernel
theorem dX12_isNewYard_42 : decode cX12_isNewYard 42 = .ok (.goto (-38), 3) := by decide +kernel
theorem dX12_isNewYard_45 : decode cX12_isNewYard 45 = .ok (.iload_n 1, 1) := by decide +kernel
theorem dX12_isNewYard_46 : decode cX12_isNewYard 46 = .ok (.ireturn, 1) := by decide +kernel
theorem dX12_readsItem_0 : decode cX12_readsItem 0 = .ok (.iload_n 1, 1) := by decide +kernel
theorem dX12_readsItem_1 : decode cX12_readsItem 1 = .ok (.bipush 112, 2) := by decide +kernel
theorem dX12_readsItem_3 : decode cX12_readsItem 3 = .ok (.if_icmp .ne 64, 3) := by decide +kernel
theorem dX12_readsItem_6 : decode cX12_readsItem 6 = .ok (.bipush 6, 2) := by decide +kernel
theorem dX12_readsItem_8 : decode cX12_readsItem 8 = .ok (.aload_n 0, 1) := by decide +kernel
theorem dX12_readsItem_9 : decode cX12_readsItem 9 = .ok (.getfield 13, 3) := by decide +kernel
theorem dX12_readsItem_12 : decode cX12_readsItem 12 = .ok (.iconst 3, 1) := by decide +kernel
theorem dX12_readsItem_13 : decode cX12_readsItem 13 = .ok (.iaload, 1) := by decide +kernel
theorem dX12_readsItem_14 : decode cX12_readsItem 14 = .ok (.iadd, 1) := by decide +kernel
theorem dX12_readsItem_15 : decode cX12_readsItem 15 = .ok (.istore_n 2, 1) := by decide +kernel
theorem dX12_readsItem_16 : decode cX12_readsItem 16 = .ok (.aload_n 0, 1) := by decide +kernel
theorem dX12_readsItem_17 : decode cX12_readsItem 17 = .ok (.getfield 16, 3) := by decide +kernel
theorem dX12_readsItem_20 : decode cX12_readsItem 20 = .ok (.iload_n 2, 1) := by decide +kernel
theorem dX12_readsItem_21 : decode cX12_readsItem 21 = .ok (.aload_n 0, 1) := by decide +kernel
theorem dX12_readsItem_22 : decode cX12_readsItem 22 = .ok (.iconst 1, 1) := by decide +kernel
theorem dX12_readsItem_23 : decode cX12_readsItem 23 = .ok (.bipush 9, 2) := by decide +kernel
theorem dX12_readsItem_25 : decode cX12_readsItem 25 = .ok (.invokevirtual 100, 3) := by decide +kernel
theorem dX12_readsItem_28 : decode cX12_readsItem 28 = .ok (.iastore, 1) := by decide +kernel
theorem dX12_readsItem_29 : decode cX12_readsItem 29 = .ok (.aload_n 0, 1) := by decide +kernel
theorem dX12_readsItem_30 : decode cX12_readsItem 30 = .ok (.getfield 19, 3) := by decide +kernel
theorem dX12_readsItem_33 : decode cX12_readsItem 33 = .ok (.iload_n 2, 1) := by decide +kernel
theorem dX12_readsItem_34 : decode cX12_readsItem 34 = .ok (.aload_n 0, 1) := by decide +kernel
theorem dX12_readsItem_35 : decode cX12_readsItem 35 = .ok (.iconst 1, 1) := by decide +kernel
theorem dX12_readsItem_36 : decode cX12_readsItem 36 = .ok (.bipush 30, 2) := by decide +kernel
theorem dX12_readsItem_38 : decode cX12_readsItem 38 = .ok (.invokevirtual 100, 3) := by decide +kernel
theorem dX12_readsItem_41 : decode cX12_readsItem 41 = .ok (.iastore, 1) := by decide +kernel
theorem dX12_readsItem_42 : decode cX12_readsItem 42 = .ok (.aload_n 0, 1) := by decide +kernel
theorem dX12_readsItem_43 : decode cX12_readsItem 43 = .ok (.getfield 22, 3) := by decide +kernel
theorem dX12_readsItem_46 : decode cX12_readsItem 46 = .ok (.iload_n 2, 1) := by decide +kernel
theorem dX12_readsItem_47 : decode cX12_readsItem 47 = .ok (.aload_n 0, 1) := by decide +kernel
theorem dX12_readsItem_48 : decode cX12_readsItem 48 = .ok (.iconst 0, 1) := by decide +kernel
theorem dX12_readsItem_49 : decode cX12_readsItem 49 = .ok (.iconst 3, 1) := by decide +kernel
theorem dX12_readsItem_50 : decode cX12_readsItem 50 = .ok (.invokevirtual 100, 3) := by decide +kernel
theorem dX12_readsItem_53 : decode cX12_readsItem 53 = .ok (.iastore, 1) := by decide +kernel
theorem dX12_readsItem_54 : decode cX12_readsItem 54 = .ok (.aload_n 0, 1) := by decide +kernel
theorem dX12_readsItem_55 : decode cX12_readsItem 55 = .ok (.getfield 13, 3) := by decide +kernel
theorem dX12_readsItem_58 : decode cX12_readsItem 58 = .ok (.iconst 3, 1) := by decide +kernel
theorem dX12_readsItem_59 : decode cX12_readsItem 59 = .ok (.dup2, 1) := by decide +kernel
theorem dX12_readsItem_60 : decode cX12_readsItem 60 = .ok (.iaload, 1) := by decide +kernel
theorem dX12_readsItem_61 : decode cX12_readsItem 61 = .ok (.iconst 1, 1) := by decide +kernel
theorem dX12_readsItem_62 : decode cX12_readsItem 62 = .ok (.iadd, 1) := by decide +kernel
theorem dX12_readsItem_63 : decode cX12_readsItem 63 = .ok (.iastore, 1) := by decide +kernel
theorem dX12_readsItem_64 : decode cX12_readsItem 64 = .ok (.goto 113, 3) := by decide +kernel
theorem dX12_readsItem_67 : decode cX12_readsItem 67 = .ok (.iload_n 1, 1) := by decide +kernel
theorem dX12_readsItem_68 : decode cX12_readsItem 68 = .ok (.bipush 99, 2) := by decide +kernel
theorem dX12_readsItem_70 : decode cX12_readsItem 70 = .ok (.if_icmp .ne 87, 3) := by decide +kernel
theorem dX12_readsItem_73 : decode cX12_readsItem 73 = .ok (.aload_n 0, 1) := by decide +kernel
theorem dX12_readsItem_74 : decode cX12_readsItem 74 = .ok (.getfield 25, 3) := by decide +kernel
theorem dX12_readsItem_77 : decode cX12_readsItem 77 = .ok (.iconst 4, 1) := by decide +kernel
theorem dX12_readsItem_78 : decode cX12_readsItem 78 = .ok (.aload_n 0, 1) := by decide +kernel
theorem dX12_readsItem_79 : decode cX12_readsItem 79 = .ok (.getfield 13, 3) := by decide +kernel
theorem dX12_readsItem_82 : decode cX12_readsItem 82 = .ok (.iconst 5, 1) := by decide +kernel
theorem dX12_readsItem_83 : decode cX12_readsItem 83 = .ok (.iaload, 1) := by decide +kernel
theorem dX12_readsItem_84 : decode cX12_readsItem 84 = .ok (.iadd, 1) := by decide +kernel
theorem dX12_readsItem_85 : decode cX12_readsItem 85 = .ok (.aload_n 0, 1) := by decide +kernel
theorem dX12_readsItem_86 : decode cX12_readsItem 86 = .ok (.aload_n 0, 1) := by decide +kernel
theorem dX12_readsItem_87 : decode cX12_readsItem 87 = .ok (.getfield 80, 3) := by decide +kernel
theorem dX12_readsItem_90 : decode cX12_readsItem 90 = .ok (.iconst 2, 1) := by decide +kernel
theorem dX12_readsItem_91 : decode cX12_readsItem 91 = .ok (.if_icmp .ne 28, 3) := by decide +kernel
theorem dX12_readsItem_94 : decode cX12_readsItem 94 = .ok (.aload_n 0, 1) := by decide +kernel
theorem dX12_readsItem_95 : decode cX12_readsItem 95 = .ok (.getfield 83, 3) := by decide +kernel
theorem dX12_readsItem_98 : decode cX12_readsItem 98 = .ok (.iconst 0, 1) := by decide +kernel
theorem dX12_readsItem_99 : decode cX12_readsItem 99 = .ok (.sipush 199, 3) := by decide +kernel
theorem dX12_readsItem_102 : decode cX12_readsItem 102 = .ok (.invokestatic 63, 3) := by decide +kernel
theorem dX12_readsItem_105 : decode cX12_readsItem 105 = .ok (.ifCond .eq 14, 3) := by decide +kernel
theorem dX12_readsItem_108 : decode cX12_readsItem 108 = .ok (.aload_n 0, 1) := by decide +kernel
theorem dX12_readsItem_109 : decode cX12_readsItem 109 = .ok (.invokevirtual 104, 3) := by decide +kernel
theorem dX12_readsItem_112 : decode cX12_readsItem 112 = .ok (.ifCond .eq 7, 3) := by decide +kernel
theorem dX12_readsItem_115 : decode cX12_readsItem 115 = .ok (.iconst 1, 1) := by decide +kernel
theorem dX12_readsItem_116 : decode cX12_readsItem 116 = .ok (.goto 4, 3) := by decide +kernel
theorem dX12_readsItem_119 : decode cX12_readsItem 119 = .ok (.iconst 0, 1) := by decide +kernel
theorem dX12_readsItem_120 : decode cX12_readsItem 120 = .ok (.invokevirtual 96, 3) := by decide +kernel
theorem dX12_readsItem_123 : decode cX12_readsItem 123 = .ok (.iastore, 1) := by decide +kernel
theorem dX12_readsItem_124 : decode cX12_readsItem 124 = .ok (.aload_n 0, 1) := by decide +kernel
theorem dX12_readsItem_125 : decode cX12_readsItem 125 = .ok (.getfield 28, 3) := by decide +kernel
theorem dX12_readsItem_128 : decode cX12_readsItem 128 = .ok (.iconst 4, 1) := by decide +kernel
theorem dX12_readsItem_129 : decode cX12_readsItem 129 = .ok (.aload_n 0, 1) := by decide +kernel
theorem dX12_readsItem_130 : decode cX12_readsItem 130 = .ok (.getfield 13, 3) := by decide +kernel
theorem dX12_readsItem_133 : decode cX12_readsItem 133 = .ok (.iconst 5, 1) := by decide +kernel
theorem dX12_readsItem_134 : decode cX12_readsItem 134 = .ok (.iaload, 1) := by decide +kernel
theorem dX12_readsItem_135 : decode cX12_readsItem 135 = .ok (.iadd, 1) := by decide +kernel
theorem dX12_readsItem_136 : decode cX12_readsItem 136 = .ok (.aload_n 0, 1) := by decide +kernel
theorem dX12_readsItem_137 : decode cX12_readsItem 137 = .ok (.iconst 0, 1) := by decide +kernel
theorem dX12_readsItem_138 : decode cX12_readsItem 138 = .ok (.bipush 8, 2) := by decide +kernel
theorem dX12_readsItem_140 : decode cX12_readsItem 140 = .ok (.invokevirtual 100, 3) := by decide +kernel
theorem dX12_readsItem_143 : decode cX12_readsItem 143 = .ok (.iastore, 1) := by decide +kernel
theorem dX12_readsItem_144 : decode cX12_readsItem 144 = .ok (.aload_n 0, 1) := by decide +kernel
theorem dX12_readsItem_145 : decode cX12_readsItem 145 = .ok (.getfield 13, 3) := by decide +kernel
theorem dX12_readsItem_148 : decode cX12_readsItem 148 = .ok (.iconst 5, 1) := by decide +kernel
theorem dX12_readsItem_149 : decode cX12_readsItem 149 = .ok (.dup2, 1) := by decide +kernel
theorem dX12_readsItem_150 : decode cX12_readsItem 150 = .ok (.iaload, 1) := by decide +kernel
theorem dX12_readsItem_151 : decode cX12_readsItem 151 = .ok (.iconst 1, 1) := by decide +kernel
theorem dX12_readsItem_152 : decode cX12_readsItem 152 = .ok (.iadd, 1) := by decide +kernel
theorem dX12_readsItem_153 : decode cX12_readsItem 153 = .ok (.iastore, 1) := by decide +kernel
theorem dX12_readsItem_154 : decode cX12_readsItem 154 = .ok (.goto 23, 3) := by decide +kernel
theorem dX12_readsItem_157 : decode cX12_readsItem 157 = .ok (.aload_n 0, 1) := by decide +kernel
theorem dX12_readsItem_158 : decode cX12_readsItem 158 = .ok (.getfield 13, 3) := by decide +kernel
theorem dX12_readsItem_161 : decode cX12_readsItem 161 = .ok (.iconst 4, 1) := by decide +kernel
theorem dX12_readsItem_162 : decode cX12_readsItem 162 = .ok (.aload_n 0, 1) := by decide +kernel
theorem dX12_readsItem_163 : decode cX12_readsItem 163 = .ok (.bipush 10, 2) := by decide +kernel
theorem dX12_readsItem_165 : decode cX12_readsItem 165 = .ok (.sipush 200, 3) := by decide +kernel
theorem dX12_readsItem_168 : decode cX12_readsItem 168 = .ok (.invokevirtual 100, 3) := by decide +kernel
theorem dX12_readsItem_171 : decode cX12_readsItem 171 = .ok (.iastore, 1) := by decide +kernel
theorem dX12_readsItem_172 : decode cX12_readsItem 172 = .ok (.aload_n 0, 1) := by decide +kernel
theorem dX12_readsItem_173 : decode cX12_readsItem 173 = .ok (.iconst 1, 1) := by decide +kernel
theorem dX12_readsItem_174 : decode cX12_readsItem 174 = .ok (.putfield 107, 3) := by decide +kernel
theorem dX12_readsItem_177 : decode cX12_readsItem 177 = .ok (.return_, 1) := by decide +kernel
theorem dX12_ferry_0 : decode cX12_ferry 0 = .ok (.aload_n 0, 1) := by decide +kernel
theorem dX12_ferry_1 : decode cX12_ferry 1 = .ok (.iconst 0, 1) := by decide +kernel
theorem dX12_ferry_2 : decode cX12_ferry 2 = .ok (.putfield 59, 3) := by decide +kernel
theorem dX12_ferry_5 : decode cX12_ferry 5 = .ok (.aload_n 0, 1) := by decide +kernel
theorem dX12_ferry_6 : decode cX12_ferry 6 = .ok (.iconst (-1), 1) := by decide +kernel
theorem dX12_ferry_7 : decode cX12_ferry 7 = .ok (.putfield 86, 3) := by decide +kernel
theorem dX12_ferry_10 : decode cX12_ferry 10 = .ok (.aload_n 0, 1) := by decide +kernel
theorem dX12_ferry_11 : decode cX12_ferry 11 = .ok (.iconst 0, 1) := by decide +kernel
theorem dX12_ferry_12 : decode cX12_ferry 12 = .ok (.putfield 70, 3) := by decide +kernel
theorem dX12_ferry_15 : decode cX12_ferry 15 = .ok (.iconst 0, 1) := by decide +kernel
theorem dX12_ferry_16 : decode cX12_ferry 16 = .ok (.istore_n 1, 1) := by decide +kernel
theorem dX12_ferry_17 : decode cX12_ferry 17 = .ok (.aload_n 0, 1) := by decide +kernel
theorem dX12_ferry_18 : decode cX12_ferry 18 = .ok (.getfield 13, 3) := by decide +kernel
theorem dX12_ferry_21 : decode cX12_ferry 21 = .ok (.iconst 3, 1) := by decide +kernel
theorem dX12_ferry_22 : decode cX12_ferry 22 = .ok (.iconst 0, 1) := by decide +kernel
theorem dX12_ferry_23 : decode cX12_ferry 23 = .ok (.iastore, 1) := by decide +kernel
theorem dX12_ferry_24 : decode cX12_ferry 24 = .ok (.aload_n 0, 1) := by decide +kernel
theorem dX12_ferry_25 : decode cX12_ferry 25 = .ok (.getfield 13, 3) := by decide +kernel
theorem dX12_ferry_28 : decode cX12_ferry 28 = .ok (.iconst 4, 1) := by decide +kernel
theorem dX12_ferry_29 : decode cX12_ferry 29 = .ok (.bipush 60, 2) := by decide +kernel
theorem dX12_ferry_31 : decode cX12_ferry 31 = .ok (.iastore, 1) := by decide +kernel
theorem dX12_ferry_32 : decode cX12_ferry 32 = .ok (.aload_n 0, 1) := by decide +kernel
theorem dX12_ferry_33 : decode cX12_ferry 33 = .ok (.getfield 13, 3) := by decide +kernel
theorem dX12_ferry_36 : decode cX12_ferry 36 = .ok (.iconst 5, 1) := by decide +kernel
theorem dX12_ferry_37 : decode cX12_ferry 37 = .ok (.iconst 0, 1) := by decide +kernel
theorem dX12_ferry_38 : decode cX12_ferry 38 = .ok (.iastore, 1) := by decide +kernel
theorem dX12_ferry_39 : decode cX12_ferry 39 = .ok (.aload_n 0, 1) := by decide +kernel
theorem dX12_ferry_40 : decode cX12_ferry 40 = .ok (.iconst 0, 1) := by decide +kernel
theorem dX12_ferry_41 : decode cX12_ferry 41 = .ok (.putfield 107, 3) := by decide +kernel
theorem dX12_ferry_44 : decode cX12_ferry 44 = .ok (.aload_n 0, 1) := by decide +kernel
theorem dX12_ferry_45 : decode cX12_ferry 45 = .ok (.invokevirtual 93, 3) := by decide +kernel
theorem dX12_ferry_48 : decode cX12_ferry 48 = .ok (.aload_n 0, 1) := by decide +kernel
theorem dX12_ferry_49 : decode cX12_ferry 49 = .ok (.invokevirtual 89, 3) := by decide +kernel
theorem dX12_ferry_52 : decode cX12_ferry 52 = .ok (.ifCond .eq 116, 3) := by decide +kernel
theorem dX12_ferry_55 : decode cX12_ferry 55 = .ok (.aload_n 0, 1) := by decide +kernel
theorem dX12_ferry_56 : decode cX12_ferry 56 = .ok (.getfield 80, 3) := by decide +kernel
theorem dX12_ferry_59 : decode cX12_ferry 59 = .ok (.ifCond .eq 109, 3) := by decide +kernel
theorem dX12_ferry_62 : decode cX12_ferry 62 = .ok (.aload_n 0, 1) := by decide +kernel
theorem dX12_ferry_63 : decode cX12_ferry 63 = .ok (.aload_n 0, 1) := by decide +kernel
theorem dX12_ferry_64 : decode cX12_ferry 64 = .ok (.getfield 80, 3) := by decide +kernel
theorem dX12_ferry_67 : decode cX12_ferry 67 = .ok (.iconst 1, 1) := by decide +kernel
theorem dX12_ferry_68 : decode cX12_ferry 68 = .ok (.if_icmp .ne 59, 3) := by decide +kernel
theorem dX12_ferry_71 : decode cX12_ferry 71 = .ok (.aload_n 0, 1) := by decide +kernel
theorem dX12_ferry_72 : decode cX12_ferry 72 = .ok (.getfield 83, 3) := by decide +kernel
theorem dX12_ferry_75 : decode cX12_ferry 75 = .ok (.bipush 112, 2) := by decide +kernel
theorem dX12_ferry_77 : decode cX12_ferry 77 = .ok (.if_icmp .ne 17, 3) := by decide +kernel
theorem dX12_ferry_80 : decode cX12_ferry 80 = .ok (.aload_n 0, 1) := by decide +kernel
theorem dX12_ferry_81 : decode cX12_ferry 81 = .ok (.getfield 13, 3) := by decide +kernel
theorem dX12_ferry_84 : decode cX12_ferry 84 = .ok (.iconst 3, 1) := by decide +kernel
theorem dX12_ferry_85 : decode cX12_ferry 85 = .ok (.iaload, 1) := by decide +kernel
theorem dX12_ferry_86 : decode cX12_ferry 86 = .ok (.bipush 6, 2) := by decide +kernel
theorem dX12_ferry_88 : decode cX12_ferry 88 = .ok (.if_icmp .ge 39, 3) := by decide +kernel
theorem dX12_ferry_91 : decode cX12_ferry 91 = .ok (.goto 32, 3) := by decide +kernel
theorem dX12_ferry_94 : decode cX12_ferry 94 = .ok (.aload_n 0, 1) := by decide +kernel
theorem dX12_ferry_95 : decode cX12_ferry 95 = .ok (.getfield 83, 3) := by decide +kernel
theorem dX12_ferry_98 : decode cX12_ferry 98 = .ok (.bipush 99, 2) := by decide +kernel
theorem dX12_ferry_100 : decode cX12_ferry 100 = .ok (.if_icmp .ne 16, 3) := by decide +kernel
theorem dX12_ferry_103 : decode cX12_ferry 103 = .ok (.aload_n 0, 1) := by decide +kernel
theorem dX12_ferry_104 : decode cX12_ferry 104 = .ok (.getfield 13, 3) := by decide +kernel
theorem dX12_ferry_107 : decode cX12_ferry 107 = .ok (.iconst 5, 1) := by decide +kernel
theorem dX12_ferry_108 : decode cX12_ferry 108 = .ok (.iaload, 1) := by decide +kernel
theorem dX12_ferry_109 : decode cX12_ferry 109 = .ok (.iconst 4, 1) := by decide +kernel
theorem dX12_ferry_110 : decode cX12_ferry 110 = .ok (.if_icmp .ge 17, 3) := by decide +kernel
theorem dX12_ferry_113 : decode cX12_ferry 113 = .ok (.goto 10, 3) := by decide +kernel
theorem dX12_ferry_116 : decode cX12_ferry 116 = .ok (.aload_n 0, 1) := by decide +kernel
theorem dX12_ferry_117 : decode cX12_ferry 117 = .ok (.getfield 107, 3) := by decide +kernel
theorem dX12_ferry_120 : decode cX12_ferry 120 = .ok (.ifCond .ne 7, 3) := by decide +kernel
theorem dX12_ferry_123 : decode cX12_ferry 123 = .ok (.iconst 1, 1) := by decide +kernel
theorem dX12_ferry_124 : decode cX12_ferry 124 = .ok (.goto 4, 3) := by decide +kernel
theorem dX12_ferry_127 : decode cX12_ferry 127 = .ok (.iconst 0, 1) := by decide +kernel
theorem dX12_ferry_128 : decode cX12_ferry 128 = .ok (.invokevirtual 96, 3) := by decide +kernel
theorem dX12_ferry_131 : decode cX12_ferry 131 = .ok (.istore_n 2, 1) := by decide +kernel
theorem dX12_ferry_132 : decode cX12_ferry 132 = .ok (.aload_n 0, 1) := by decide +kernel
theorem dX12_ferry_133 : decode cX12_ferry 133 = .ok (.invokevirtual 89, 3) := by decide +kernel
theorem dX12_ferry_136 : decode cX12_ferry 136 = .ok (.ifCond .eq 8, 3) := by decide +kernel
theorem dX12_ferry_139 : decode cX12_ferry 139 = .ok (.aload_n 0, 1) := by decide +kernel
theorem dX12_ferry_140 : decode cX12_ferry 140 = .ok (.iload_n 2, 1) := by decide +kernel
theorem dX12_ferry_141 : decode cX12_ferry 141 = .ok (.invokevirtual 111, 3) := by decide +kernel
theorem dX12_ferry_144 : decode cX12_ferry 144 = .ok (.aload_n 0, 1) := by decide +kernel
theorem dX12_ferry_145 : decode cX12_ferry 145 = .ok (.aload_n 0, 1) := by decide +kernel
theorem dX12_ferry_146 : decode cX12_ferry 146 = .ok (.getfield 80, 3) := by decide +kernel
theorem dX12_ferry_149 : decode cX12_ferry 149 = .ok (.iconst 3, 1) := by decide +kernel
theorem dX12_ferry_150 : decode cX12_ferry 150 = .ok (.if_icmp .ne 7, 3) := by decide +kernel
theorem dX12_ferry_153 : decode cX12_ferry 153 = .ok (.iconst 1, 1) := by decide +kernel
theorem dX12_ferry_154 : decode cX12_ferry 154 = .ok (.goto 4, 3) := by decide +kernel
theorem dX12_ferry_157 : decode cX12_ferry 157 = .ok (.iconst 0, 1) := by decide +kernel
theorem dX12_ferry_158 : decode cX12_ferry 158 = .ok (.invokevirtual 96, 3) := by decide +kernel
theorem dX12_ferry_161 : decode cX12_ferry 161 = .ok (.pop, 1) := by decide +kernel
theorem dX12_ferry_162 : decode cX12_ferry 162 = .ok (.iinc 1 1, 3) := by decide +kernel
theorem dX12_ferry_165 : decode cX12_ferry 165 = .ok (.goto (-117), 3) := by decide +kernel
theorem dX12_ferry_168 : decode cX12_ferry 168 = .ok (.aload_n 0, 1) := by decide +kernel
theorem dX12_ferry_169 : decode cX12_ferry 169 = .ok (.invokevirtual 89, 3) := by decide +kernel
theorem dX12_ferry_172 : decode cX12_ferry 172 = .ok (.ifCond .ne 11, 3) := by decide +kernel
theorem dX12_ferry_175 : decode cX12_ferry 175 = .ok (.bipush (-10), 2) := by decide +kernel
theorem dX12_ferry_177 : decode cX12_ferry 177 = .ok (.aload_n 0, 1) := by decide +kernel
theorem dX12_ferry_178 : decode cX12_ferry 178 = .ok (.getfield 86, 3) := by decide +kernel
theorem dX12_ferry_181 : decode cX12_ferry 181 = .ok (.isub, 1) := by decide +kernel
theorem dX12_ferry_182 : decode cX12_ferry 182 = .ok (.ireturn, 1) := by decide +kernel
theorem dX12_ferry_183 : decode cX12_ferry 183 = .ok (.aload_n 0, 1) := by decide +kernel
theorem dX12_ferry_184 : decode cX12_ferry 184 = .ok (.invokevirtual 115, 3) := by decide +kernel
theorem dX12_ferry_187 : decode cX12_ferry 187 = .ok (.iload_n 1, 1) := by decide +kernel
theorem dX12_ferry_188 : decode cX12_ferry 188 = .ok (.ireturn, 1) := by decide +kernel
theorem dX12_settles_0 : decode cX12_settles 0 = .ok (.iconst 0, 1) := by decide +kernel
theorem dX12_settles_1 : decode cX12_settles 1 = .ok (.istore_n 1, 1) := by decide +kernel
theorem dX12_settles_2 : decode cX12_settles 2 = .ok (.iload_n 1, 1) := by decide +kernel
theorem dX12_settles_3 : decode cX12_settles 3 = .ok (.iconst 3, 1) := by decide +kernel
theorem dX12_settles_4 : decode cX12_settles 4 = .ok (.if_icmp .ge 23, 3) := by decide +kernel
theorem dX12_settles_7 : decode cX12_settles 7 = .ok (.aload_n 0, 1) := by decide +kernel
theorem dX12_settles_8 : decode cX12_settles 8 = .ok (.getfield 13, 3) := by decide +kernel
theorem dX12_settles_11 : decode cX12_settles 11 = .ok (.iload_n 1, 1) := by decide +kernel
theorem dX12_settles_12 : decode cX12_settles 12 = .ok (.aload_n 0, 1) := by decide +kernel
theorem dX12_settles_13 : decode cX12_settles 13 = .ok (.getfield 13, 3) := by decide +kernel
theorem dX12_settles_16 : decode cX12_settles 16 = .ok (.iconst 3, 1) := by decide +kernel
theorem dX12_settles_17 : decode cX12_settles 17 = .ok (.iload_n 1, 1) := by decide +kernel
theorem dX12_settles_18 : decode cX12_settles 18 = .ok (.iadd, 1) := by decide +kernel
theorem dX12_settles_19 : decode cX12_settles 19 = .ok (.iaload, 1) := by decide +kernel
theorem dX12_settles_20 : decode cX12_settles 20 = .ok (.iastore, 1) := by decide +kernel
theorem dX12_settles_21 : decode cX12_settles 21 = .ok (.iinc 1 1, 3) := by decide +kernel
theorem dX12_settles_24 : decode cX12_settles 24 = .ok (.goto (-22), 3) := by decide +kernel
theorem dX12_settles_27 : decode cX12_settles 27 = .ok (.iconst 0, 1) := by decide +kernel
theorem dX12_settles_28 : decode cX12_settles 28 = .ok (.istore_n 1, 1) := by decide +kernel
theorem dX12_settles_29 : decode cX12_settles 29 = .ok (.iload_n 1, 1) := by decide +kernel
theorem dX12_settles_30 : decode cX12_settles 30 = .ok (.bipush 6, 2) := by decide +kernel
theorem dX12_settles_32 : decode cX12_settles 32 = .ok (.if_icmp .ge 54, 3) := by decide +kernel
theorem dX12_settles_35 : decode cX12_settles 35 = .ok (.aload_n 0, 1) := by decide +kernel
theorem dX12_settles_36 : decode cX12_settles 36 = .ok (.getfield 16, 3) := by decide +kernel
theorem dX12_settles_39 : decode cX12_settles 39 = .ok (.iload_n 1, 1) := by decide +kernel
theorem dX12_settles_40 : decode cX12_settles 40 = .ok (.aload_n 0, 1) := by decide +kernel
theorem dX12_settles_41 : decode cX12_settles 41 = .ok (.getfield 16, 3) := by decide +kernel
theorem dX12_settles_44 : decode cX12_settles 44 = .ok (.bipush 6, 2) := by decide +kernel
theorem dX12_settles_46 : decode cX12_settles 46 = .ok (.iload_n 1, 1) := by decide +kernel
theorem dX12_settles_47 : decode cX12_settles 47 = .ok (.iadd, 1) := by decide +kernel
theorem dX12_settles_48 : decode cX12_settles 48 = .ok (.iaload, 1) := by decide +kernel
theorem dX12_settles_49 : decode cX12_settles 49 = .ok (.iastore, 1) := by decide +kernel
theorem dX12_settles_50 : decode cX12_settles 50 = .ok (.aload_n 0, 1) := by decide +kernel
theorem dX12_settles_51 : decode cX12_settles 51 = .ok (.getfield 19, 3) := by decide +kernel
theorem dX12_settles_54 : decode cX12_settles 54 = .ok (.iload_n 1, 1) := by decide +kernel
theorem dX12_settles_55 : decode cX12_settles 55 = .ok (.aload_n 0, 1) := by decide +kernel
theorem dX12_settles_56 : decode cX12_settles 56 = .ok (.getfield 19, 3) := by decide +kernel
theorem dX12_settles_59 : decode cX12_settles 59 = .ok (.bipush 6, 2) := by decide +kernel
theorem dX12_settles_61 : decode cX12_settles 61 = .ok (.iload_n 1, 1) := by decide +kernel
theorem dX12_settles_62 : decode cX12_settles 62 = .ok (.iadd, 1) := by decide +kernel
theorem dX12_settles_63 : decode cX12_settles 63 = .ok (.iaload, 1) := by decide +kernel
theorem dX12_settles_64 : decode cX12_settles 64 = .ok (.iastore, 1) := by decide +kernel
theorem dX12_settles_65 : decode cX12_settles 65 = .ok (.aload_n 0, 1) := by decide +kernel
theorem dX12_settles_66 : decode cX12_settles 66 = .ok (.getfield 22, 3) := by decide +kernel
theorem dX12_settles_69 : decode cX12_settles 69 = .ok (.iload_n 1, 1) := by decide +kernel
theorem dX12_settles_70 : decode cX12_settles 70 = .ok (.aload_n 0, 1) := by decide +kernel
theorem dX12_settles_71 : decode cX12_settles 71 = .ok (.getfield 22, 3) := by decide +kernel
theorem dX12_settles_74 : decode cX12_settles 74 = .ok (.bipush 6, 2) := by decide +kernel
theorem dX12_settles_76 : decode cX12_settles 76 = .ok (.iload_n 1, 1) := by decide +kernel
theorem dX12_settles_77 : decode cX12_settles 77 = .ok (.iadd, 1) := by decide +kernel
theorem dX12_settles_78 : decode cX12_settles 78 = .ok (.iaload, 1) := by decide +kernel
theorem dX12_settles_79 : decode cX12_settles 79 = .ok (.iastore, 1) := by decide +kernel
theorem dX12_settles_80 : decode cX12_settles 80 = .ok (.iinc 1 1, 3) := by decide +kernel
theorem dX12_settles_83 : decode cX12_settles 83 = .ok (.goto (-54), 3) := by decide +kernel
theorem dX12_settles_86 : decode cX12_settles 86 = .ok (.iconst 0, 1) := by decide +kernel
theorem dX12_settles_87 : decode cX12_settles 87 = .ok (.istore_n 1, 1) := by decide +kernel
theorem dX12_settles_88 : decode cX12_settles 88 = .ok (.iload_n 1, 1) := by decide +kernel
theorem dX12_settles_89 : decode cX12_settles 89 = .ok (.iconst 4, 1) := by decide +kernel
theorem dX12_settles_90 : decode cX12_settles 90 = .ok (.if_icmp .ge 37, 3) := by decide +kernel
theorem dX12_settles_93 : decode cX12_settles 93 = .ok (.aload_n 0, 1) := by decide +kernel
theorem dX12_settles_94 : decode cX12_settles 94 = .ok (.getfield 25, 3) := by decide +kernel
theorem dX12_settles_97 : decode cX12_settles 97 = .ok (.iload_n 1, 1) := by decide +kernel
theorem dX12_settles_98 : decode cX12_settles 98 = .ok (.aload_n 0, 1) := by decide +kernel
theorem dX12_settles_99 : decode cX12_settles 99 = .ok (.getfield 25, 3) := by decide +kernel
theorem dX12_settles_102 : decode cX12_settles 102 = .ok (.iconst 4, 1) := by decide +kernel
theorem dX12_settles_103 : decode cX12_settles 103 = .ok (.iload_n 1, 1) := by decide +kernel
theorem dX12_settles_104 : decode cX12_settles 104 = .ok (.iadd, 1) := by decide +kernel
theorem dX12_settles_105 : decode cX12_settles 105 = .ok (.iaload, 1) := by decide +kernel
theorem dX12_settles_106 : decode cX12_settles 106 = .ok (.iastore, 1) := by decide +kernel
theorem dX12_settles_107 : decode cX12_settles 107 = .ok (.aload_n 0, 1) := by decide +kernel
theorem dX12_settles_108 : decode cX12_settles 108 = .ok (.getfield 28, 3) := by decide +kernel
theorem dX12_settles_111 : decode cX12_settles 111 = .ok (.iload_n 1, 1) := by decide +kernel
theorem dX12_settles_112 : decode cX12_settles 112 = .ok (.aload_n 0, 1) := by decide +kernel
theorem dX12_settles_113 : decode cX12_settles 113 = .ok (.getfield 28, 3) := by decide +kernel
theorem dX12_settles_116 : decode cX12_settles 116 = .ok (.iconst 4, 1) := by decide +kernel
theorem dX12_settles_117 : decode cX12_settles 117 = .ok (.iload_n 1, 1) := by decide +kernel
theorem dX12_settles_118 : decode cX12_settles 118 = .ok (.iadd, 1) := by decide +kernel
theorem dX12_settles_119 : decode cX12_settles 119 = .ok (.iaload, 1) := by decide +kernel
theorem dX12_settles_120 : decode cX12_settles 120 = .ok (.iastore, 1) := by decide +kernel
theorem dX12_settles_121 : decode cX12_settles 121 = .ok (.iinc 1 1, 3) := by decide +kernel
theorem dX12_settles_124 : decode cX12_settles 124 = .ok (.goto (-36), 3) := by decide +kernel
theorem dX12_settles_127 : decode cX12_settles 127 = .ok (.iconst 0, 1) := by decide +kernel
theorem dX12_settles_128 : decode cX12_settles 128 = .ok (.istore_n 1, 1) := by decide +kernel
theorem dX12_settles_129 : decode cX12_settles 129 = .ok (.iload_n 1, 1) := by decide +kernel
theorem dX12_settles_130 : decode cX12_settles 130 = .ok (.bipush 15, 2) := by decide +kernel
theorem dX12_settles_132 : decode cX12_settles 132 = .ok (.if_icmp .ge 16, 3) := by decide +kernel
theorem dX12_settles_135 : decode cX12_settles 135 = .ok (.aload_n 0, 1) := by decide +kernel
theorem dX12_settles_136 : decode cX12_settles 136 = .ok (.getfield 31, 3) := by decide +kernel
theorem dX12_settles_139 : decode cX12_settles 139 = .ok (.iload_n 1, 1) := by decide +kernel
theorem dX12_settles_140 : decode cX12_settles 140 = .ok (.iconst 0, 1) := by decide +kernel
theorem dX12_settles_141 : decode cX12_settles 141 = .ok (.iastore, 1) := by decide +kernel
theorem dX12_settles_142 : decode cX12_settles 142 = .ok (.iinc 1 1, 3) := by decide +kernel
theorem dX12_settles_145 : decode cX12_settles 145 = .ok (.goto (-16), 3) := by decide +kernel
theorem dX12_settles_148 : decode cX12_settles 148 = .ok (.aload_n 0, 1) := by decide +kernel
theorem dX12_settles_149 : decode cX12_settles 149 = .ok (.iconst 0, 1) := by decide +kernel
theorem dX12_settles_150 : decode cX12_settles 150 = .ok (.putfield 67, 3) := by decide +kernel
theorem dX12_settles_153 : decode cX12_settles 153 = .ok (.aload_n 0, 1) := by decide +kernel
theorem dX12_settles_154 : decode cX12_settles 154 = .ok (.iconst 0, 1) := by decide +kernel
theorem dX12_settles_155 : decode cX12_settles 155 = .ok (.putfield 118, 3) := by decide +kernel
theorem dX12_settles_158 : decode cX12_settles 158 = .ok (.aload_n 0, 1) := by decide +kernel
theorem dX12_settles_159 : decode cX12_settles 159 = .ok (.iconst 0, 1) := by decide +kernel
theorem dX12_settles_160 : decode cX12_settles 160 = .ok (.putfield 121, 3) := by decide +kernel
theorem dX12_settles_163 : decode cX12_settles 163 = .ok (.aload_n 0, 1) := by decide +kernel
theorem dX12_settles_164 : decode cX12_settles 164 = .ok (.getfield 40, 3) := by decide +kernel
theorem dX12_settles_167 : decode cX12_settles 167 = .ok (.iconst 0, 1) := by decide +kernel
theorem dX12_settles_168 : decode cX12_settles 168 = .ok (.iconst 0, 1) := by decide +kernel
theorem dX12_settles_169 : decode cX12_settles 169 = .ok (.bastore, 1) := by decide +kernel
theorem dX12_settles_170 : decode cX12_settles 170 = .ok (.aload_n 0, 1) := by decide +kernel
theorem dX12_settles_171 : decode cX12_settles 171 = .ok (.getfield 40, 3) := by decide +kernel
theorem dX12_settles_174 : decode cX12_settles 174 = .ok (.iconst 1, 1) := by decide +kernel
theorem dX12_settles_175 : decode cX12_settles 175 = .ok (.iconst 0, 1) := by decide +kernel
theorem dX12_settles_176 : decode cX12_settles 176 = .ok (.bastore, 1) := by decide +kernel
theorem dX12_settles_177 : decode cX12_settles 177 = .ok (.return_, 1) := by decide +kernel
theorem dX12_isPassenger_0 : decode cX12_isPassenger 0 = .ok (.iload_n 1, 1) := by decide +kernel
theorem dX12_isPassenger_1 : decode cX12_isPassenger 1 = .ok (.iconst 0, 1) := by decide +kernel
theorem dX12_isPassenger_2 : decode cX12_isPassenger 2 = .ok (.aload_n 0, 1) := by decide +kernel
theorem dX12_isPassenger_3 : decode cX12_isPassenger 3 = .ok (.getfield 13, 3) := by decide +kernel
theorem dX12_isPassenger_6 : decode cX12_isPassenger 6 = .ok (.iconst 0, 1) := by decide +kernel
theorem dX12_isPassenger_7 : decode cX12_isPassenger 7 = .ok (.iaload, 1) := by decide +kernel
theorem dX12_isPassenger_8 : decode cX12_isPassenger 8 = .ok (.iconst 1, 1) := by decide +kernel
theorem dX12_isPassenger_9 : decode cX12_isPassenger 9 = .ok (.isub, 1) := by decide +kernel
theorem dX12_isPassenger_10 : decode cX12_isPassenger 10 = .ok (.invokestatic 63, 3) := by decide +kernel
theorem dX12_isPassenger_13 : decode cX12_isPassenger 13 = .ok (.ireturn, 1) := by decide +kernel
theorem dX12_passenger_0 : decode cX12_passenger 0 = .ok (.aload_n 0, 1) := by decide +kernel
theorem dX12_passenger_1 : decode cX12_passenger 1 = .ok (.iconst 0, 1) := by decide +kernel
theorem dX12_passenger_2 : decode cX12_passenger 2 = .ok (.putfield 59, 3) := by decide +kernel
theorem dX12_passenger_5 : decode cX12_passenger 5 = .ok (.aload_n 0, 1) := by decide +kernel
theorem dX12_passenger_6 : decode cX12_passenger 6 = .ok (.iload_n 1, 1) := by decide +kernel
theorem dX12_passenger_7 : decode cX12_passenger 7 = .ok (.invokevirtual 124, 3) := by decide +kernel
theorem dX12_passenger_10 : decode cX12_passenger 10 = .ok (.ifCond .eq 12, 3) := by decide +kernel
theorem dX12_passenger_13 : decode cX12_passenger 13 = .ok (.iload_n 2, 1) := by decide +kernel
theorem dX12_passenger_14 : decode cX12_passenger 14 = .ok (.iconst 0, 1) := by decide +kernel
theorem dX12_passenger_15 : decode cX12_passenger 15 = .ok (.iconst 5, 1) := by decide +kernel
theorem dX12_passenger_16 : decode cX12_passenger 16 = .ok (.invokestatic 63, 3) := by decide +kernel
theorem dX12_passenger_19 : decode cX12_passenger 19 = .ok (.ifCond .ne 5, 3) := by decide +kernel
theorem dX12_passenger_22 : decode cX12_passenger 22 = .ok (.iconst (-1), 1) := by decide +kernel
theorem dX12_passenger_23 : decode cX12_passenger 23 = .ok (.ireturn, 1) := by decide +kernel
theorem dX12_passenger_24 : decode cX12_passenger 24 = .ok (.iload_n 2, 1) := by decide +kernel
theorem dX12_passenger_25 : decode cX12_passenger 25 = .ok (.iconst 3, 1) := by decide +kernel
theorem dX12_passenger_26 : decode cX12_passenger 26 = .ok (.if_icmp .ge 37, 3) := by decide +kernel
theorem dX12_passenger_29 : decode cX12_passenger 29 = .ok (.iload_n 2, 1) := by decide +kernel
theorem dX12_passenger_30 : decode cX12_passenger 30 = .ok (.ifCond .ne 12, 3) := by decide +kernel
theorem dX12_passenger_33 : decode cX12_passenger 33 = .ok (.aload_n 0, 1) := by decide +kernel
theorem dX12_passenger_34 : decode cX12_passenger 34 = .ok (.getfield 16, 3) := by decide +kernel
theorem dX12_passenger_37 : decode cX12_passenger 37 = .ok (.iload_n 1, 1) := by decide +kernel
theorem dX12_passenger_38 : decode cX12_passenger 38 = .ok (.iaload, 1) := by decide +kernel
theorem dX12_passenger_39 : decode cX12_passenger 39 = .ok (.goto 23, 3) := by decide +kernel
theorem dX12_passenger_42 : decode cX12_passenger 42 = .ok (.iload_n 2, 1) := by decide +kernel
theorem dX12_passenger_43 : decode cX12_passenger 43 = .ok (.iconst 1, 1) := by decide +kernel
theorem dX12_passenger_44 : decode cX12_passenger 44 = .ok (.if_icmp .ne 12, 3) := by decide +kernel
theorem dX12_passenger_47 : decode cX12_passenger 47 = .ok (.aload_n 0, 1) := by decide +kernel
theorem dX12_passenger_48 : decode cX12_passenger 48 = .ok (.getfield 19, 3) := by decide +kernel
theorem dX12_passenger_51 : decode cX12_passenger 51 = .ok (.iload_n 1, 1) := by decide +kernel
theorem dX12_passenger_52 : decode cX12_passenger 52 = .ok (.iaload, 1) := by decide +kernel
theorem dX12_passenger_53 : decode cX12_passenger 53 = .ok (.goto 9, 3) := by decide +kernel
theorem dX12_passenger_56 : decode cX12_passenger 56 = .ok (.aload_n 0, 1) := by decide +kernel
theorem dX12_passenger_57 : decode cX12_passenger 57 = .ok (.getfield 22, 3) := by decide +kernel
theorem dX12_passenger_60 : decode cX12_passenger 60 = .ok (.iload_n 1, 1) := by decide +kernel
theorem dX12_passenger_61 : decode cX12_passenger 61 = .ok (.iaload, 1) := by decide +kernel
theorem dX12_passenger_62 : decode cX12_passenger 62 = .ok (.ireturn, 1) := by decide +kernel
theorem dX12_passenger_63 : decode cX12_passenger 63 = .ok (.iload_n 2, 1) := by decide +kernel
theorem dX12_passenger_64 : decode cX12_passenger 64 = .ok (.iconst 3, 1) := by decide +kernel
theorem dX12_passenger_65 : decode cX12_passenger 65 = .ok (.if_icmp .ne 14, 3) := by decide +kernel
theorem dX12_passenger_68 : decode cX12_passenger 68 = .ok (.aload_n 0, 1) := by decide +kernel
theorem dX12_passenger_69 : decode cX12_passenger 69 = .ok (.getfield 31, 3) := by decide +kernel
theorem dX12_passenger_72 : decode cX12_passenger 72 = .ok (.iconst 3, 1) := by decide +kernel
theorem dX12_passenger_73 : decode cX12_passenger 73 = .ok (.iload_n 1, 1) := by decide +kernel
theorem dX12_passenger_74 : decode cX12_passenger 74 = .ok (.iadd, 1) := by decide +kernel
theorem dX12_passenger_75 : decode cX12_passenger 75 = .ok (.iaload, 1) := by decide +kernel
theorem dX12_passenger_76 : decode cX12_passenger 76 = .ok (.goto 30, 3) := by decide +kernel
theorem dX12_passenger_79 : decode cX12_passenger 79 = .ok (.iload_n 2, 1) := by decide +kernel
theorem dX12_passenger_80 : decode cX12_passenger 80 = .ok (.iconst 4, 1) := by decide +kernel
theorem dX12_passenger_81 : decode cX12_passenger 81 = .ok (.if_icmp .ne 15, 3) := by decide +kernel
theorem dX12_passenger_84 : decode cX12_passenger 84 = .ok (.aload_n 0, 1) := by decide +kernel
theorem dX12_passenger_85 : decode cX12_passenger 85 = .ok (.getfield 31, 3) := by decide +kernel
theorem dX12_passenger_88 : decode cX12_passenger 88 = .ok (.bipush 9, 2) := by decide +kernel
theorem dX12_passenger_90 : decode cX12_passenger 90 = .ok (.iload_n 1, 1) := by decide +kernel
theorem dX12_passenger_91 : decode cX12_passenger 91 = .ok (.iadd, 1) := by decide +kernel
theorem dX12_passenger_92 : decode cX12_passenger 92 = .ok (.iaload, 1) := by decide +kernel
theorem dX12_passenger_93 : decode cX12_passenger 93 = .ok (.goto 13, 3) := by decide +kernel
theorem dX12_passenger_96 : decode cX12_passenger 96 = .ok (.aload_n 0, 1) := by decide +kernel
theorem dX12_passenger_97 : decode cX12_passenger 97 = .ok (.getfield 31, 3) := by decide +kernel
theorem dX12_passenger_100 : decode cX12_passenger 100 = .ok (.iconst 2, 1) := by decide +kernel
theorem dX12_passenger_101 : decode cX12_passenger 101 = .ok (.iaload, 1) := by decide +kernel
theorem dX12_passenger_102 : decode cX12_passenger 102 = .ok (.iload_n 1, 1) := by decide +kernel
theorem dX12_passenger_103 : decode cX12_passenger 103 = .ok (.ishr, 1) := by decide +kernel
theorem dX12_passenger_104 : decode cX12_passenger 104 = .ok (.iconst 1, 1) := by decide +kernel
theorem dX12_passenger_105 : decode cX12_passenger 105 = .ok (.iand, 1) := by decide +kernel
theorem dX12_passenger_106 : decode cX12_passenger 106 = .ok (.ireturn, 1) := by decide +kernel
theorem dX12_flowAt_0 : decode cX12_flowAt 0 = .ok (.bipush (-9), 2) := by decide +kernel
theorem dX12_flowAt_2 : decode cX12_flowAt 2 = .ok (.istore_n 2, 1) := by decide +kernel
theorem dX12_flowAt_3 : decode cX12_flowAt 3 = .ok (.iconst 0, 1) := by decide +kernel
theorem dX12_flowAt_4 : decode cX12_flowAt 4 = .ok (.istore_n 3, 1) := by decide +kernel
theorem dX12_flowAt_5 : decode cX12_flowAt 5 = .ok (.iconst 0, 1) := by decide +kernel
theorem dX12_flowAt_6 : decode cX12_flowAt 6 = .ok (.istore 4, 2) := by decide +kernel
theorem dX12_flowAt_8 : decode cX12_flowAt 8 = .ok (.iload 4, 2) := by decide +kernel
theorem dX12_flowAt_10 : decode cX12_flowAt 10 = .ok (.aload_n 0, 1) := by decide +kernel
theorem dX12_flowAt_11 : decode cX12_flowAt 11 = .ok (.getfield 13, 3) := by decide +kernel
theorem dX12_flowAt_14 : decode cX12_flowAt 14 = .ok (.iconst 2, 1) := by decide +kernel
theorem dX12_flowAt_15 : decode cX12_flowAt 15 = .ok (.iaload, 1) := by decide +kernel
theorem dX12_flowAt_16 : decode cX12_flowAt 16 = .ok (.if_icmp .ge 47, 3) := by decide +kernel
theorem dX12_flowAt_19 : decode cX12_flowAt 19 = .ok (.aload_n 0, 1) := by decide +kernel
theorem dX12_flowAt_20 : decode cX12_flowAt 20 = .ok (.getfield 25, 3) := by decide +kernel
theorem dX12_flowAt_23 : decode cX12_flowAt 23 = .ok (.iload 4, 2) := by decide +kernel
theorem dX12_flowAt_25 : decode cX12_flowAt 25 = .ok (.iaload, 1) := by decide +kernel
theorem dX12_flowAt_26 : decode cX12_flowAt 26 = .ok (.iload_n 1, 1) := by decide +kernel
theorem dX12_flowAt_27 : decode cX12_flowAt 27 = .ok (.if_icmp .gt 30, 3) := by decide +kernel
theorem dX12_flowAt_30 : decode cX12_flowAt 30 = .ok (.aload_n 0, 1) := by decide +kernel
theorem dX12_flowAt_31 : decode cX12_flowAt 31 = .ok (.getfield 25, 3) := by decide +kernel
theorem dX12_flowAt_34 : decode cX12_flowAt 34 = .ok (.iload 4, 2) := by decide +kernel
theorem dX12_flowAt_36 : decode cX12_flowAt 36 = .ok (.iaload, 1) := by decide +kernel
theorem dX12_flowAt_37 : decode cX12_flowAt 37 = .ok (.iload_n 2, 1) := by decide +kernel
theorem dX12_flowAt_38 : decode cX12_flowAt 38 = .ok (.if_icmp .le 19, 3) := by decide +kernel
theorem dX12_flowAt_41 : decode cX12_flowAt 41 = .ok (.aload_n 0, 1) := by decide +kernel
theorem dX12_flowAt_42 : decode cX12_flowAt 42 = .ok (.getfield 25, 3) := by decide +kernel
theorem dX12_flowAt_45 : decode cX12_flowAt 45 = .ok (.iload 4, 2) := by decide +kernel
theorem dX12_flowAt_47 : decode cX12_flowAt 47 = .ok (.iaload, 1) := by decide +kernel
theorem dX12_flowAt_48 : decode cX12_flowAt 48 = .ok (.istore_n 2, 1) := by decide +kernel
theorem dX12_flowAt_49 : decode cX12_flowAt 49 = .ok (.aload_n 0, 1) := by decide +kernel
theorem dX12_flowAt_50 : decode cX12_flowAt 50 = .ok (.getfield 28, 3) := by decide +kernel
theorem dX12_flowAt_53 : decode cX12_flowAt 53 = .ok (.iload 4, 2) := by decide +kernel
theorem dX12_flowAt_55 : decode cX12_flowAt 55 = .ok (.iaload, 1) := by decide +kernel
theorem dX12_flowAt_56 : decode cX12_flowAt 56 = .ok (.istore_n 3, 1) := by decide +kernel
theorem dX12_flowAt_57 : decode cX12_flowAt 57 = .ok (.iinc 4 1, 3) := by decide +kernel
theorem dX12_flowAt_60 : decode cX12_flowAt 60 = .ok (.goto (-52), 3) := by decide +kernel
theorem dX12_flowAt_63 : decode cX12_flowAt 63 = .ok (.iload_n 3, 1) := by decide +kernel
theorem dX12_flowAt_64 : decode cX12_flowAt 64 = .ok (.ireturn, 1) := by decide +kernel
theorem dX12_current_0 : decode cX12_current 0 = .ok (.aload_n 0, 1) := by decide +kernel
theorem dX12_current_1 : decode cX12_current 1 = .ok (.iconst 0, 1) := by decide +kernel
theorem dX12_current_2 : decode cX12_current 2 = .ok (.putfield 59, 3) := by decide +kernel
theorem dX12_current_5 : decode cX12_current 5 = .ok (.iload_n 1, 1) := by decide +kernel
theorem dX12_current_6 : decode cX12_current 6 = .ok (.iconst 0, 1) := by decide +kernel
theorem dX12_current_7 : decode cX12_current 7 = .ok (.sipush 400, 3) := by decide +kernel
theorem dX12_current_10 : decode cX12_current 10 = .ok (.invokestatic 63, 3) := by decide +kernel
theorem dX12_current_13 : decode cX12_current 13 = .ok (.ifCond .eq 11, 3) := by decide +kernel
theorem dX12_current_16 : decode cX12_current 16 = .ok (.aload_n 0, 1) := by decide +kernel
theorem dX12_current_17 : decode cX12_current 17 = .ok (.iload_n 1, 1) := by decide +kernel
theorem dX12_current_18 : decode cX12_current 18 = .ok (.invokevirtual 128, 3) := by decide +kernel
theorem dX12_current_21 : decode cX12_current 21 = .ok (.goto 4, 3) := by decide +kernel
theorem dX12_current_24 : decode cX12_current 24 = .ok (.iconst (-1), 1) := by decide +kernel
theorem dX12_current_25 : decode cX12_current 25 = .ok (.ireturn, 1) := by decide +kernel
theorem dX12_pullOf_0 : decode cX12_pullOf 0 = .ok (.iconst 0, 1) := by decide +kernel
theorem dX12_pullOf_1 : decode cX12_pullOf 1 = .ok (.istore_n 2, 1) := by decide +kernel
theorem dX12_pullOf_2 : decode cX12_pullOf 2 = .ok (.iconst 0, 1) := by decide +kernel
theorem dX12_pullOf_3 : decode cX12_pullOf 3 = .ok (.istore_n 3, 1) := by decide +kernel
theorem dX12_pullOf_4 : decode cX12_pullOf 4 = .ok (.bipush (-9), 2) := by decide +kernel
theorem dX12_pullOf_6 : decode cX12_pullOf 6 = .ok (.istore 4, 2) := by decide +kernel
theorem dX12_pullOf_8 : decode cX12_pullOf 8 = .ok (.iconst 1, 1) := by decide +kernel
theorem dX12_pullOf_9 : decode cX12_pullOf 9 = .ok (.istore 5, 2) := by decide +kernel
theorem dX12_pullOf_11 : decode cX12_pullOf 11 = .ok (.iconst 0, 1) := by decide +kernel
theorem dX12_pullOf_12 : decode cX12_pullOf 12 = .ok (.istore 6, 2) := by decide +kernel
theorem dX12_pullOf_14 : decode cX12_pullOf 14 = .ok (.iload 6, 2) := by decide +kernel
theorem dX12_pullOf_16 : decode cX12_pullOf 16 = .ok (.aload_n 0, 1) := by decide +kernel
theorem dX12_pullOf_17 : decode cX12_pullOf 17 = .ok (.getfield 13, 3) := by decide +kernel
theorem dX12_pullOf_20 : decode cX12_pullOf 20 = .ok (.iconst 0, 1) := by decide +kernel
theorem dX12_pullOf_21 : decode cX12_pullOf 21 = .ok (.iaload, 1) := by decide +kernel
theorem dX12_pullOf_22 : decode cX12_pullOf 22 = .ok (.if_icmp .ge 82, 3) := by decide +kernel
theorem dX12_pullOf_25 : decode cX12_pullOf 25 = .ok (.iload_n 1, 1) := by decide +kernel
theorem dX12_pullOf_26 : decode cX12_pullOf 26 = .ok (.iload 6, 2) := by decide +kernel
theorem dX12_pullOf_28 : decode cX12_pullOf 28 = .ok (.ishr, 1) := by decide +kernel
theorem dX12_pullOf_29 : decode cX12_pullOf 29 = .ok (.iconst 1, 1) := by decide +kernel
theorem dX12_pullOf_30 : decode cX12_pullOf 30 = .ok (.iand, 1) := by decide +kernel
theorem dX12_pullOf_31 : decode cX12_pullOf 31 = .ok (.iconst 1, 1) := by decide +kernel
theorem dX12_pullOf_32 : decode cX12_pullOf 32 = .ok (.if_icmp .ne 66, 3) := by decide +kernel
theorem dX12_pullOf_35 : decode cX12_pullOf 35 = .ok (.iinc 2 1, 3) := by decide +kernel
theorem dX12_pullOf_38 : decode cX12_pullOf 38 = .ok (.iload_n 3, 1) := by decide +kernel
theorem dX12_pullOf_39 : decode cX12_pullOf 39 = .ok (.aload_n 0, 1) := by decide +kernel
theorem dX12_pullOf_40 : decode cX12_pullOf 40 = .ok (.getfield 16, 3) := by decide +kernel
theorem dX12_pullOf_43 : decode cX12_pullOf 43 = .ok (.iload 6, 2) := by decide +kernel
theorem dX12_pullOf_45 : decode cX12_pullOf 45 = .ok (.iaload, 1) := by decide +kernel
theorem dX12_pullOf_46 : decode cX12_pullOf 46 = .ok (.iadd, 1) := by decide +kernel
theorem dX12_pullOf_47 : decode cX12_pullOf 47 = .ok (.istore_n 3, 1) := by decide +kernel
theorem dX12_pullOf_48 : decode cX12_pullOf 48 = .ok (.iload 5, 2) := by decide +kernel
theorem dX12_pullOf_50 : decode cX12_pullOf 50 = .ok (.ifCond .eq 36, 3) := by decide +kernel
theorem dX12_pullOf_53 : decode cX12_pullOf 53 = .ok (.aload_n 0, 1) := by decide +kernel
theorem dX12_pullOf_54 : decode cX12_pullOf 54 = .ok (.getfield 22, 3) := by decide +kernel
theorem dX12_pullOf_57 : decode cX12_pullOf 57 = .ok (.iload 6, 2) := by decide +kernel
theorem dX12_pullOf_59 : decode cX12_pullOf 59 = .ok (.iaload, 1) := by decide +kernel
theorem dX12_pullOf_60 : decode cX12_pullOf 60 = .ok (.ifCond .le 26, 3) := by decide +kernel
theorem dX12_pullOf_63 : decode cX12_pullOf 63 = .ok (.iload 4, 2) := by decide +kernel
theorem dX12_pullOf_65 : decode cX12_pullOf 65 = .ok (.bipush (-9), 2) := by decide +kernel
theorem dX12_pullOf_67 : decode cX12_pullOf 67 = .ok (.if_icmp .eq 15, 3) := by decide +kernel
theorem dX12_pullOf_70 : decode cX12_pullOf 70 = .ok (.aload_n 0, 1) := by decide +kernel
theorem dX12_pullOf_71 : decode cX12_pullOf 71 = .ok (.getfield 22, 3) := by decide +kernel
theorem dX12_pullOf_74 : decode cX12_pullOf 74 = .ok (.iload 6, 2) := by decide +kernel
theorem dX12_pullOf_76 : decode cX12_pullOf 76 = .ok (.iaload, 1) := by decide +kernel
theorem dX12_pullOf_77 : decode cX12_pullOf 77 = .ok (.iload 4, 2) := by decide +kernel
theorem dX12_pullOf_79 : decode cX12_pullOf 79 = .ok (.if_icmp .ne 7, 3) := by decide +kernel
theorem dX12_pullOf_82 : decode cX12_pullOf 82 = .ok (.iconst 1, 1) := by decide +kernel
theorem dX12_pullOf_83 : decode cX12_pullOf 83 = .ok (.goto 4, 3) := by decide +kernel
theorem dX12_pullOf_86 : decode cX12_pullOf 86 = .ok (.iconst 0, 1) := by decide +kernel
theorem dX12_pullOf_87 : decode cX12_pullOf 87 = .ok (.istore 5, 2) := by decide +kernel
theorem dX12_pullOf_89 : decode cX12_pullOf 89 = .ok (.aload_n 0, 1) := by decide +kernel
theorem dX12_pullOf_90 : decode cX12_pullOf 90 = .ok (.getfield 22, 3) := by decide +kernel
theorem dX12_pullOf_93 : decode cX12_pullOf 93 = .ok (.iload 6, 2) := by decide +kernel
theorem dX12_pullOf_95 : decode cX12_pullOf 95 = .ok (.iaload, 1) := by decide +kernel
theorem dX12_pullOf_96 : decode cX12_pullOf 96 = .ok (.istore 4, 2) := by decide +kernel
theorem dX12_pullOf_98 : decode cX12_pullOf 98 = .ok (.iinc 6 1, 3) := by decide +kernel
theorem dX12_pullOf_101 : decode cX12_pullOf 101 = .ok (.goto (-87), 3) := by decide +kernel
theorem dX12_pullOf_104 : decode cX12_pullOf 104 = .ok (.iload_n 2, 1) := by decide +kernel
theorem dX12_pullOf_105 : decode cX12_pullOf 105 = .ok (.iconst 2, 1) := by decide +kernel
theorem dX12_pullOf_106 : decode cX12_pullOf 106 = .ok (.if_icmp .lt 8, 3) := by decide +kernel
theorem dX12_pullOf_109 : decode cX12_pullOf 109 = .ok (.iload 5, 2) := by decide +kernel
theorem dX12_pullOf_111 : decode cX12_pullOf 111 = .ok (.ifCond .eq 7, 3) := by decide +kernel
theorem dX12_pullOf_114 : decode cX12_pullOf 114 = .ok (.iload_n 3, 1) := by decide +kernel
theorem dX12_pullOf_115 : decode cX12_pullOf 115 = .ok (.goto 5, 3) := by decide +kernel
theorem dX12_pullOf_118 : decode cX12_pullOf 118 = .ok (.bipush (-9), 2) := by decide +kernel
theorem dX12_pullOf_120 : decode cX12_pullOf 120 = .ok (.ireturn, 1) := by decide +kernel
theorem dX12_isOver_0 : decode cX12_isOver 0 = .ok (.aload_n 1, 1) := by decide +kernel
theorem dX12_isOver_1 : decode cX12_isOver 1 = .ok (.iconst 1, 1) := by decide +kernel
theorem dX12_isOver_2 : decode cX12_isOver 2 = .ok (.iaload, 1) := by decide +kernel
theorem dX12_isOver_3 : decode cX12_isOver 3 = .ok (.aload_n 0, 1) := by decide +kernel
theorem dX12_isOver_4 : decode cX12_isOver 4 = .ok (.getfield 13, 3) := by decide +kernel
theorem dX12_isOver_7 : decode cX12_isOver 7 = .ok (.iconst 1, 1) := by decide +kernel
theorem dX12_isOver_8 : decode cX12_isOver 8 = .ok (.iaload, 1) := by decide +kernel
theorem dX12_isOver_9 : decode cX12_isOver 9 = .ok (.if_icmp .lt 7, 3) := by decide +kernel
theorem dX12_isOver_12 : decode cX12_isOver 12 = .ok (.iconst 1, 1) := by decide +kernel
theorem dX12_isOver_13 : decode cX12_isOver 13 = .ok (.goto 4, 3) := by decide +kernel
theorem dX12_isOver_16 : decode cX12_isOver 16 = .ok (.iconst 0, 1) := by decide +kernel
theorem dX12_isOver_17 : decode cX12_isOver 17 = .ok (.ireturn, 1) := by decide +kernel
theorem dX12_wordsOf_0 : decode cX12_wordsOf 0 = .ok (.iconst 0, 1) := by decide +kernel
theorem dX12_wordsOf_1 : decode cX12_wordsOf 1 = .ok (.istore_n 2, 1) := by decide +kernel
theorem dX12_wordsOf_2 : decode cX12_wordsOf 2 = .ok (.iconst 0, 1) := by decide +kernel
theorem dX12_wordsOf_3 : decode cX12_wordsOf 3 = .ok (.istore_n 3, 1) := by decide +kernel
theorem dX12_wordsOf_4 : decode cX12_wordsOf 4 = .ok (.iload_n 3, 1) := by decide +kernel
theorem dX12_wordsOf_5 : decode cX12_wordsOf 5 = .ok (.aload_n 0, 1) := by decide +kernel
theorem dX12_wordsOf_6 : decode cX12_wordsOf 6 = .ok (.getfield 13, 3) := by decide +kernel
theorem dX12_wordsOf_9 : decode cX12_wordsOf 9 = .ok (.iconst 0, 1) := by decide +kernel
theorem dX12_wordsOf_10 : decode cX12_wordsOf 10 = .ok (.iaload, 1) := by decide +kernel
theorem dX12_wordsOf_11 : decode cX12_wordsOf 11 = .ok (.if_icmp .ge 18, 3) := by decide +kernel
theorem dX12_wordsOf_14 : decode cX12_wordsOf 14 = .ok (.iload_n 2, 1) := by decide +kernel
theorem dX12_wordsOf_15 : decode cX12_wordsOf 15 = .ok (.aload_n 1, 1) := by decide +kernel
theorem dX12_wordsOf_16 : decode cX12_wordsOf 16 = .ok (.bipush 9, 2) := by decide +kernel
theorem dX12_wordsOf_18 : decode cX12_wordsOf 18 = .ok (.iload_n 3, 1) := by decide +kernel
theorem dX12_wordsOf_19 : decode cX12_wordsOf 19 = .ok (.iadd, 1) := by decide +kernel
theorem dX12_wordsOf_20 : decode cX12_wordsOf 20 = .ok (.iaload, 1) := by decide +kernel
theorem dX12_wordsOf_21 : decode cX12_wordsOf 21 = .ok (.iadd, 1) := by decide +kernel
theorem dX12_wordsOf_22 : decode cX12_wordsOf 22 = .ok (.istore_n 2, 1) := by decide +kernel
theorem dX12_wordsOf_23 : decode cX12_wordsOf 23 = .ok (.iinc 3 1, 3) := by decide +kernel
theorem dX12_wordsOf_26 : decode cX12_wordsOf 26 = .ok (.goto (-22), 3) := by decide +kernel
theorem dX12_wordsOf_29 : decode cX12_wordsOf 29 = .ok (.iload_n 2, 1) := by decide +kernel
theorem dX12_wordsOf_30 : decode cX12_wordsOf 30 = .ok (.ireturn, 1) := by decide +kernel
theorem dX12_now_0 : decode cX12_now 0 = .ok (.aload_n 0, 1) := by decide +kernel
theorem dX12_now_1 : decode cX12_now 1 = .ok (.iconst 0, 1) := by decide +kernel
theorem dX12_now_2 : decode cX12_now 2 = .ok (.putfield 59, 3) := by decide +kernel
theorem dX12_now_5 : decode cX12_now 5 = .ok (.iload_n 1, 1) := by decide +kernel
theorem dX12_now_6 : decode cX12_now 6 = .ok (.iconst 0, 1) := by decide +kernel
theorem dX12_now_7 : decode cX12_now 7 = .ok (.bipush 6, 2) := by decide +kernel
theorem dX12_now_9 : decode cX12_now 9 = .ok (.invokestatic 63, 3) := by decide +kernel
theorem dX12_now_12 : decode cX12_now 12 = .ok (.ifCond .ne 5, 3) := by decide +kernel
theorem dX12_now_15 : decode cX12_now 15 = .ok (.iconst (-1), 1) := by decide +kernel
theorem dX12_now_16 : decode cX12_now 16 = .ok (.ireturn, 1) := by decide +kernel
theorem dX12_now_17 : decode cX12_now 17 = .ok (.iload_n 1, 1) := by decide +kernel
theorem dX12_now_18 : decode cX12_now 18 = .ok (.iconst 3, 1) := by decide +kernel
theorem dX12_now_19 : decode cX12_now 19 = .ok (.if_icmp .ge 10, 3) := by decide +kernel
theorem dX12_now_22 : decode cX12_now 22 = .ok (.aload_n 0, 1) := by decide +kernel
theorem dX12_now_23 : decode cX12_now 23 = .ok (.getfield 31, 3) := by decide +kernel
theorem dX12_now_26 : decode cX12_now 26 = .ok (.iload_n 1, 1) := by decide +kernel
theorem dX12_now_27 : decode cX12_now 27 = .ok (.iaload, 1) := by decide +kernel
theorem dX12_now_28 : decode cX12_now 28 = .ok (.ireturn, 1) := by decide +kernel
theorem dX12_now_29 : decode cX12_now 29 = .ok (.iload_n 1, 1) := by decide +kernel
theorem dX12_now_30 : decode cX12_now 30 = .ok (.iconst 3, 1) := by decide +kernel
theorem dX12_now_31 : decode cX12_now 31 = .ok (.if_icmp .ne 16, 3) := by decide +kernel
theorem dX12_now_34 : decode cX12_now 34 = .ok (.aload_n 0, 1) := by decide +kernel
theorem dX12_now_35 : decode cX12_now 35 = .ok (.aload_n 0, 1) := by decide +kernel
theorem dX12_now_36 : decode cX12_now 36 = .ok (.getfield 31, 3) := by decide +kernel
theorem dX12_now_39 : decode cX12_now 39 = .ok (.iconst 2, 1) := by decide +kernel
theorem dX12_now_40 : decode cX12_now 40 = .ok (.iaload, 1) := by decide +kernel
theorem dX12_now_41 : decode cX12_now 41 = .ok (.invokevirtual 131, 3) := by decide +kernel
theorem dX12_now_44 : decode cX12_now 44 = .ok (.goto 47, 3) := by decide +kernel
theorem dX12_now_47 : decode cX12_now 47 = .ok (.iload_n 1, 1) := by decide +kernel
theorem dX12_now_48 : decode cX12_now 48 = .ok (.iconst 4, 1) := by decide +kernel
theorem dX12_now_49 : decode cX12_now 49 = .ok (.if_icmp .ne 22, 3) := by decide +kernel
theorem dX12_now_52 : decode cX12_now 52 = .ok (.aload_n 0, 1) := by decide +kernel
theorem dX12_now_53 : decode cX12_now 53 = .ok (.aload_n 0, 1) := by decide +kernel
theorem dX12_now_54 : decode cX12_now 54 = .ok (.getfield 31, 3) := by decide +kernel
theorem dX12_now_57 : decode cX12_now 57 = .ok (.invokevirtual 134, 3) := by decide +kernel
theorem dX12_now_60 : decode cX12_now 60 = .ok (.ifCond .eq 7, 3) := by decide +kernel
theorem dX12_now_63 : decode cX12_now 63 = .ok (.iconst 1, 1) := by decide +kernel
theorem dX12_now_64 : decode cX12_now 64 = .ok (.goto 27, 3) := by decide +kernel
theorem dX12_now_67 : decode cX12_now 67 = .ok (.iconst 0, 1) := by decide +kernel
theorem dX12_now_68 : decode cX12_now 68 = .ok (.goto 23, 3) := by decide +kernel
theorem dX12_now_71 : decode cX12_now 71 = .ok (.iload_n 1, 1) := by decide +kernel
theorem dX12_now_72 : decode cX12_now 72 = .ok (.iconst 5, 1) := by decide +kernel
theorem dX12_now_73 : decode cX12_now 73 = .ok (.if_icmp .ne 14, 3) := by decide +kernel
theorem dX12_now_76 : decode cX12_now 76 = .ok (.aload_n 0, 1) := by decide +kernel
theorem dX12_now_77 : decode cX12_now 77 = .ok (.aload_n 0, 1) := by decide +kernel
theorem dX12_now_78 : decode cX12_now 78 = .ok (.getfield 31, 3) := by decide +kernel
theorem dX12_now_81 : decode cX12_now 81 = .ok (.invokevirtual 138, 3) := by decide +kernel
theorem dX12_now_84 : decode cX12_now 84 = .ok (.goto 7, 3) := by decide +kernel
theorem dX12_now_87 : decode cX12_now 87 = .ok (.aload_n 0, 1) := by decide +kernel
theorem dX12_now_88 : decode cX12_now 88 = .ok (.getfield 121, 3) := by decide +kernel
theorem dX12_now_91 : decode cX12_now 91 = .ok (.ireturn, 1) := by decide +kernel
theorem dX12_notes_0 : decode cX12_notes 0 = .ok (.aload_n 0, 1) := by decide +kernel
theorem dX12_notes_1 : decode cX12_notes 1 = .ok (.getfield 121, 3) := by decide +kernel
theorem dX12_notes_4 : decode cX12_notes 4 = .ok (.bipush 10, 2) := by decide +kernel
theorem dX12_notes_6 : decode cX12_notes 6 = .ok (.if_icmp .ne 39, 3) := by decide +kernel
theorem dX12_notes_9 : decode cX12_notes 9 = .ok (.iconst 0, 1) := by decide +kernel
theorem dX12_notes_10 : decode cX12_notes 10 = .ok (.istore_n 1, 1) := by decide +kernel
theorem dX12_notes_11 : decode cX12_notes 11 = .ok (.iload_n 1, 1) := by decide +kernel
theorem dX12_notes_12 : decode cX12_notes 12 = .ok (.sipush 135, 3) := by decide +kernel
theorem dX12_notes_15 : decode cX12_notes 15 = .ok (.if_icmp .ge 24, 3) := by decide +kernel
theorem dX12_notes_18 : decode cX12_notes 18 = .ok (.aload_n 0, 1) := by decide +kernel
theorem dX12_notes_19 : decode cX12_notes 19 = .ok (.getfield 44, 3) := by decide +kernel
theorem dX12_notes_22 : decode cX12_notes 22 = .ok (.iload_n 1, 1) := by decide +kernel
theorem dX12_notes_23 : decode cX12_notes 23 = .ok (.aload_n 0, 1) := by decide +kernel
theorem dX12_notes_24 : decode cX12_notes 24 = .ok (.getfield 44, 3) := by decide +kernel
theorem dX12_notes_27 : decode cX12_notes 27 = .ok (.iload_n 1, 1) := by decide +kernel
theorem dX12_notes_28 : decode cX12_notes 28 = .ok (.bipush 15, 2) := by decide +kernel
theorem dX12_notes_30 : decode cX12_notes 30 = .ok (.iadd, 1) := by decide +kernel
theorem dX12_notes_31 : decode cX12_notes 31 = .ok (.iaload, 1) := by decide +kernel
theorem dX12_notes_32 : decode cX12_notes 32 = .ok (.iastore, 1) := by decide +kernel
theorem dX12_notes_33 : decode cX12_notes 33 = .ok (.iinc 1 1, 3) := by decide +kernel
theorem dX12_notes_36 : decode cX12_notes 36 = .ok (.goto (-25), 3) := by decide +kernel
theorem dX12_notes_39 : decode cX12_notes 39 = .ok (.aload_n 0, 1) := by decide +kernel
theorem dX12_notes_40 : decode cX12_notes 40 = .ok (.bipush 9, 2) := by decide +kernel
theorem dX12_notes_42 : decode cX12_notes 42 = .ok (.putfield 121, 3) := by decide +kernel
theorem dX12_notes_45 : decode cX12_notes 45 = .ok (.iconst 0, 1) := by decide +kernel
theorem dX12_notes_46 : decode cX12_notes 46 = .ok (.istore_n 1, 1) := by decide +kernel
theorem dX12_notes_47 : decode cX12_notes 47 = .ok (.iload_n 1, 1) := by decide +kernel
theorem dX12_notes_48 : decode cX12_notes 48 = .ok (.bipush 15, 2) := by decide +kernel
theorem dX12_notes_50 : decode cX12_notes 50 = .ok (.if_icmp .ge 29, 3) := by decide +kernel
theorem dX12_notes_53 : decode cX12_notes 53 = .ok (.aload_n 0, 1) := by decide +kernel
theorem dX12_notes_54 : decode cX12_notes 54 = .ok (.getfield 44, 3) := by decide +kernel
theorem dX12_notes_57 : decode cX12_notes 57 = .ok (.bipush 15, 2) := by decide +kernel
theorem dX12_notes_59 : decode cX12_notes 59 = .ok (.aload_n 0, 1) := by decide +kernel
theorem dX12_notes_60 : decode cX12_notes 60 = .ok (.getfield 121, 3) := by decide +kernel
theorem dX12_notes_63 : decode cX12_notes 63 = .ok (.imul, 1) := by decide +kernel
theorem dX12_notes_64 : decode cX12_notes 64 = .ok (.iload_n 1, 1) := by decide +kernel
theorem dX12_notes_65 : decode cX12_notes 65 = .ok (.iadd, 1) := by decide +kernel
theorem dX12_notes_66 : decode cX12_notes 66 = .ok (.aload_n 0, 1) := by decide +kernel
theorem dX12_notes_67 : decode cX12_notes 67 = .ok (.getfield 31, 3) := by decide +kernel
theorem dX12_notes_70 : decode cX12_notes 70 = .ok (.iload_n 1, 1) := by decide +kernel
theorem dX12_notes_71 : decode cX12_notes 71 = .ok (.iaload, 1) := by decide +kernel
theorem dX12_notes_72 : decode cX12_notes 72 = .ok (.iastore, 1) := by decide +kernel
theorem dX12_notes_73 : decode cX12_notes 73 = .ok (.iinc 1 1, 3) := by decide +kernel
theorem dX12_notes_76 : decode cX12_notes 76 = .ok (.goto (-29), 3) := by decide +kernel
theorem dX12_notes_79 : decode cX12_notes 79 = .ok (.aload_n 0, 1) := by decide +kernel
theorem dX12_notes_80 : decode cX12_notes 80 = .ok (.dup, 1) := by decide +kernel
theorem dX12_notes_81 : decode cX12_notes 81 = .ok (.getfield 121, 3) := by decide +kernel
theorem dX12_notes_84 : decode cX12_notes 84 = .ok (.iconst 1, 1) := by decide +kernel
theorem dX12_notes_85 : decode cX12_notes 85 = .ok (.iadd, 1) := by decide +kernel
theorem dX12_notes_86 : decode cX12_notes 86 = .ok (.putfield 121, 3) := by decide +kernel
theorem dX12_notes_89 : decode cX12_notes 89 = .ok (.return_, 1) := by decide +kernel
theorem dX12_speak_0 : decode cX12_speak 0 = .ok (.aload_n 1, 1) := by decide +kernel
theorem dX12_speak_1 : decode cX12_speak 1 = .ok (.iconst 2, 1) := by decide +kernel
theorem dX12_speak_2 : decode cX12_speak 2 = .ok (.iload_n 2, 1) := by decide +kernel
theorem dX12_speak_3 : decode cX12_speak 3 = .ok (.iastore, 1) := by decide +kernel
theorem dX12_speak_4 : decode cX12_speak 4 = .ok (.iconst 0, 1) := by decide +kernel
theorem dX12_speak_5 : decode cX12_speak 5 = .ok (.istore_n 3, 1) := by decide +kernel
theorem dX12_speak_6 : decode cX12_speak 6 = .ok (.iload_n 3, 1) := by decide +kernel
theorem dX12_speak_7 : decode cX12_speak 7 = .ok (.aload_n 0, 1) := by decide +kernel
theorem dX12_speak_8 : decode cX12_speak 8 = .ok (.getfield 13, 3) := by decide +kernel
theorem dX12_speak_11 : decode cX12_speak 11 = .ok (.iconst 0, 1) := by decide +kernel
theorem dX12_speak_12 : decode cX12_speak 12 = .ok (.iaload, 1) := by decide +kernel
theorem dX12_speak_13 : decode cX12_speak 13 = .ok (.if_icmp .ge 46, 3) := by decide +kernel
theorem dX12_speak_16 : decode cX12_speak 16 = .ok (.aload_n 1, 1) := by decide +kernel
theorem dX12_speak_17 : decode cX12_speak 17 = .ok (.iconst 3, 1) := by decide +kernel
theorem dX12_speak_18 : decode cX12_speak 18 = .ok (.iload_n 3, 1) := by decide +kernel
theorem dX12_speak_19 : decode cX12_speak 19 = .ok (.iadd, 1) := by decide +kernel
theorem dX12_speak_20 : decode cX12_speak 20 = .ok (.iload_n 2, 1) := by decide +kernel
theorem dX12_speak_21 : decode cX12_speak 21 = .ok (.iload_n 3, 1) := by decide +kernel
theorem dX12_speak_22 : decode cX12_speak 22 = .ok (.ishr, 1) := by decide +kernel
theorem dX12_speak_23 : decode cX12_speak 23 = .ok (.iconst 1, 1) := by decide +kernel
theorem dX12_speak_24 : decode cX12_speak 24 = .ok (.iand, 1) := by decide +kernel
theorem dX12_speak_25 : decode cX12_speak 25 = .ok (.iconst 1, 1) := by decide +kernel
theorem dX12_speak_26 : decode cX12_speak 26 = .ok (.if_icmp .ne 7, 3) := by decide +kernel
theorem dX12_speak_29 : decode cX12_speak 29 = .ok (.iconst 0, 1) := by decide +kernel
theorem dX12_speak_30 : decode cX12_speak 30 = .ok (.goto 8, 3) := by decide +kernel
theorem dX12_speak_33 : decode cX12_speak 33 = .ok (.aload_n 1, 1) := by decide +kernel
theorem dX12_speak_34 : decode cX12_speak 34 = .ok (.iconst 3, 1) := by decide +kernel
theorem dX12_speak_35 : decode cX12_speak 35 = .ok (.iload_n 3, 1) := by decide +kernel
theorem dX12_speak_36 : decode cX12_speak 36 = .ok (.iadd, 1) := by decide +kernel
theorem dX12_speak_37 : decode cX12_speak 37 = .ok (.iaload, 1) := by decide +kernel
theorem dX12_speak_38 : decode cX12_speak 38 = .ok (.iastore, 1) := by decide +kernel
theorem dX12_speak_39 : decode cX12_speak 39 = .ok (.aload_n 1, 1) := by decide +kernel
theorem dX12_speak_40 : decode cX12_speak 40 = .ok (.bipush 9, 2) := by decide +kernel
theorem dX12_speak_42 : decode cX12_speak 42 = .ok (.iload_n 3, 1) := by decide +kernel
theorem dX12_speak_43 : decode cX12_speak 43 = .ok (.iadd, 1) := by decide +kernel
theorem dX12_speak_44 : decode cX12_speak 44 = .ok (.dup2, 1) := by decide +kernel
theorem dX12_speak_45 : decode cX12_speak 45 = .ok (.iaload, 1) := by decide +kernel
theorem dX12_speak_46 : decode cX12_speak 46 = .ok (.iload_n 2, 1) := by decide +kernel
theorem dX12_speak_47 : decode cX12_speak 47 = .ok (.iload_n 3, 1) := by decide +kernel
theorem dX12_speak_48 : decode cX12_speak 48 = .ok (.ishr, 1) := by decide +kernel
theorem dX12_speak_49 : decode cX12_speak 49 = .ok (.iconst 1, 1) := by decide +kernel
theorem dX12_speak_50 : decode cX12_speak 50 = .ok (.iand, 1) := by decide +kernel
theorem dX12_speak_51 : decode cX12_speak 51 = .ok (.iadd, 1) := by decide +kernel
theorem dX12_speak_52 : decode cX12_speak 52 = .ok (.iastore, 1) := by decide +kernel
theorem dX12_speak_53 : decode cX12_speak 53 = .ok (.iinc 3 1, 3) := by decide +kernel
theorem dX12_speak_56 : decode cX12_speak 56 = .ok (.goto (-50), 3) := by decide +kernel
theorem dX12_speak_59 : decode cX12_speak 59 = .ok (.return_, 1) := by decide +kernel
theorem dX12_hushes_0 : decode cX12_hushes 0 = .ok (.iconst 0, 1) := by decide +kernel
theorem dX12_hushes_1 : decode cX12_hushes 1 = .ok (.istore_n 2, 1) := by decide +kernel
theorem dX12_hushes_2 : decode cX12_hushes 2 = .ok (.iconst 0, 1) := by decide +kernel
theorem dX12_hushes_3 : decode cX12_hushes 3 = .ok (.istore_n 3, 1) := by decide +kernel
theorem dX12_hushes_4 : decode cX12_hushes 4 = .ok (.iload_n 3, 1) := by decide +kernel
theorem dX12_hushes_5 : decode cX12_hushes 5 = .ok (.aload_n 0, 1) := by decide +kernel
theorem dX12_hushes_6 : decode cX12_hushes 6 = .ok (.getfield 13, 3) := by decide +kernel
theorem dX12_hushes_9 : decode cX12_hushes 9 = .ok (.iconst 0, 1) := by decide +kernel
theorem dX12_hushes_10 : decode cX12_hushes 10 = .ok (.iaload, 1) := by decide +kernel
theorem dX12_hushes_11 : decode cX12_hushes 11 = .ok (.if_icmp .ge 42, 3) := by decide +kernel
theorem dX12_hushes_14 : decode cX12_hushes 14 = .ok (.aload_n 1, 1) := by decide +kernel
theorem dX12_hushes_15 : decode cX12_hushes 15 = .ok (.iconst 3, 1) := by decide +kernel
theorem dX12_hushes_16 : decode cX12_hushes 16 = .ok (.iload_n 3, 1) := by decide +kernel
theorem dX12_hushes_17 : decode cX12_hushes 17 = .ok (.iadd, 1) := by decide +kernel
theorem dX12_hushes_18 : decode cX12_hushes 18 = .ok (.dup2, 1) := by decide +kernel
theorem dX12_hushes_19 : decode cX12_hushes 19 = .ok (.iaload, 1) := by decide +kernel
theorem dX12_hushes_20 : decode cX12_hushes 20 = .ok (.iconst 1, 1) := by decide +kernel
theorem dX12_hushes_21 : decode cX12_hushes 21 = .ok (.iadd, 1) := by decide +kernel
theorem dX12_hushes_22 : decode cX12_hushes 22 = .ok (.iastore, 1) := by decide +kernel
theorem dX12_hushes_23 : decode cX12_hushes 23 = .ok (.iload_n 2, 1) := by decide +kernel
theorem dX12_hushes_24 : decode cX12_hushes 24 = .ok (.aload_n 1, 1) := by decide +kernel
theorem dX12_hushes_25 : decode cX12_hushes 25 = .ok (.iconst 3, 1) := by decide +kernel
theorem dX12_hushes_26 : decode cX12_hushes 26 = .ok (.iload_n 3, 1) := by decide +kernel
theorem dX12_hushes_27 : decode cX12_hushes 27 = .ok (.iadd, 1) := by decide +kernel
theorem dX12_hushes_28 : decode cX12_hushes 28 = .ok (.iaload, 1) := by decide +kernel
theorem dX12_hushes_29 : decode cX12_hushes 29 = .ok (.aload_n 0, 1) := by decide +kernel
theorem dX12_hushes_30 : decode cX12_hushes 30 = .ok (.getfield 19, 3) := by decide +kernel
theorem dX12_hushes_33 : decode cX12_hushes 33 = .ok (.iload_n 3, 1) := by decide +kernel
theorem dX12_hushes_34 : decode cX12_hushes 34 = .ok (.iaload, 1) := by decide +kernel
theorem dX12_hushes_35 : decode cX12_hushes 35 = .ok (.if_icmp .ne 9, 3) := by decide +kernel
theorem dX12_hushes_38 : decode cX12_hushes 38 = .ok (.iconst 1, 1) := by decide +kernel
theorem dX12_hushes_39 : decode cX12_hushes 39 = .ok (.iload_n 3, 1) := by decide +kernel
theorem dX12_hushes_40 : decode cX12_hushes 40 = .ok (.ishl, 1) := by decide +kernel
theorem dX12_hushes_41 : decode cX12_hushes 41 = .ok (.goto 4, 3) := by decide +kernel
theorem dX12_hushes_44 : decode cX12_hushes 44 = .ok (.iconst 0, 1) := by decide +kernel
theorem dX12_hushes_45 : decode cX12_hushes 45 = .ok (.ior, 1) := by decide +kernel
theorem dX12_hushes_46 : decode cX12_hushes 46 = .ok (.istore_n 2, 1) := by decide +kernel
theorem dX12_hushes_47 : decode cX12_hushes 47 = .ok (.iinc 3 1, 3) := by decide +kernel
theorem dX12_hushes_50 : decode cX12_hushes 50 = .ok (.goto (-46), 3) := by decide +kernel
theorem dX12_hushes_53 : decode cX12_hushes 53 = .ok (.iload_n 2, 1) := by decide +kernel
theorem dX12_hushes_54 : decode cX12_hushes 54 = .ok (.ifCond .eq 9, 3) := by decide +kernel
theorem dX12_hushes_57 : decode cX12_hushes 57 = .ok (.aload_n 0, 1) := by decide +kernel
theorem dX12_hushes_58 : decode cX12_hushes 58 = .ok (.aload_n 1, 1) := by decide +kernel
theorem dX12_hushes_59 : decode cX12_hushes 59 = .ok (.iload_n 2, 1) := by decide +kernel
theorem dX12_hushes_60 : decode cX12_hushes 60 = .ok (.invokevirtual 142, 3) := by decide +kernel
theorem dX12_hushes_63 : decode cX12_hushes 63 = .ok (.return_, 1) := by decide +kernel
theorem dX12_goes_0 : decode cX12_goes 0 = .ok (.aload_n 0, 1) := by decide +kernel
theorem dX12_goes_1 : decode cX12_goes 1 = .ok (.aload_n 1, 1) := by decide +kernel
theorem dX12_goes_2 : decode cX12_goes 2 = .ok (.invokevirtual 134, 3) := by decide +kernel
theorem dX12_goes_5 : decode cX12_goes 5 = .ok (.ifCond .ne 61, 3) := by decide +kernel
theorem dX12_goes_8 : decode cX12_goes 8 = .ok (.aload_n 0, 1) := by decide +kernel
theorem dX12_goes_9 : decode cX12_goes 9 = .ok (.aload_n 1, 1) := by decide +kernel
theorem dX12_goes_10 : decode cX12_goes 10 = .ok (.iconst 2, 1) := by decide +kernel
theorem dX12_goes_11 : decode cX12_goes 11 = .ok (.iaload, 1) := by decide +kernel
theorem dX12_goes_12 : decode cX12_goes 12 = .ok (.invokevirtual 131, 3) := by decide +kernel
theorem dX12_goes_15 : decode cX12_goes 15 = .ok (.istore_n 2, 1) := by decide +kernel
theorem dX12_goes_16 : decode cX12_goes 16 = .ok (.iload_n 2, 1) := by decide +kernel
theorem dX12_goes_17 : decode cX12_goes 17 = .ok (.bipush (-9), 2) := by decide +kernel
theorem dX12_goes_19 : decode cX12_goes 19 = .ok (.if_icmp .ne 9, 3) := by decide +kernel
theorem dX12_goes_22 : decode cX12_goes 22 = .ok (.aload_n 1, 1) := by decide +kernel
theorem dX12_goes_23 : decode cX12_goes 23 = .ok (.iconst 1, 1) := by decide +kernel
theorem dX12_goes_24 : decode cX12_goes 24 = .ok (.iaload, 1) := by decide +kernel
theorem dX12_goes_25 : decode cX12_goes 25 = .ok (.goto 16, 3) := by decide +kernel
theorem dX12_goes_28 : decode cX12_goes 28 = .ok (.aload_n 1, 1) := by decide +kernel
theorem dX12_goes_29 : decode cX12_goes 29 = .ok (.iconst 1, 1) := by decide +kernel
theorem dX12_goes_30 : decode cX12_goes 30 = .ok (.iaload, 1) := by decide +kernel
theorem dX12_goes_31 : decode cX12_goes 31 = .ok (.iload_n 2, 1) := by decide +kernel
theorem dX12_goes_32 : decode cX12_goes 32 = .ok (.iadd, 1) := by decide +kernel
theorem dX12_goes_33 : decode cX12_goes 33 = .ok (.aload_n 0, 1) := by decide +kernel
theorem dX12_goes_34 : decode cX12_goes 34 = .ok (.aload_n 1, 1) := by decide +kernel
theorem dX12_goes_35 : decode cX12_goes 35 = .ok (.iconst 1, 1) := by decide +kernel
theorem dX12_goes_36 : decode cX12_goes 36 = .ok (.iaload, 1) := by decide +kernel
theorem dX12_goes_37 : decode cX12_goes 37 = .ok (.invokevirtual 128, 3) := by decide +kernel
theorem dX12_goes_40 : decode cX12_goes 40 = .ok (.isub, 1) := by decide +kernel
theorem dX12_goes_41 : decode cX12_goes 41 = .ok (.istore_n 3, 1) := by decide +kernel
theorem dX12_goes_42 : decode cX12_goes 42 = .ok (.aload_n 1, 1) := by decide +kernel
theorem dX12_goes_43 : decode cX12_goes 43 = .ok (.iconst 1, 1) := by decide +kernel
theorem dX12_goes_44 : decode cX12_goes 44 = .ok (.iload_n 3, 1) := by decide +kernel
theorem dX12_goes_45 : decode cX12_goes 45 = .ok (.ifCond .ge 7, 3) := by decide +kernel
theorem dX12_goes_48 : decode cX12_goes 48 = .ok (.iconst 0, 1) := by decide +kernel
theorem dX12_goes_49 : decode cX12_goes 49 = .ok (.goto 4, 3) := by decide +kernel
theorem dX12_goes_52 : decode cX12_goes 52 = .ok (.iload_n 3, 1) := by decide +kernel
theorem dX12_goes_53 : decode cX12_goes 53 = .ok (.iastore, 1) := by decide +kernel
theorem dX12_goes_54 : decode cX12_goes 54 = .ok (.aload_n 1, 1) := by decide +kernel
theorem dX12_goes_55 : decode cX12_goes 55 = .ok (.iconst 0, 1) := by decide +kernel
theorem dX12_goes_56 : decode cX12_goes 56 = .ok (.dup2, 1) := by decide +kernel
theorem dX12_goes_57 : decode cX12_goes 57 = .ok (.iaload, 1) := by decide +kernel
theorem dX12_goes_58 : decode cX12_goes 58 = .ok (.iconst 1, 1) := by decide +kernel
theorem dX12_goes_59 : decode cX12_goes 59 = .ok (.iadd, 1) := by decide +kernel
theorem dX12_goes_60 : decode cX12_goes 60 = .ok (.iastore, 1) := by decide +kernel
theorem dX12_goes_61 : decode cX12_goes 61 = .ok (.aload_n 0, 1) := by decide +kernel
theorem dX12_goes_62 : decode cX12_goes 62 = .ok (.aload_n 1, 1) := by decide +kernel
theorem dX12_goes_63 : decode cX12_goes 63 = .ok (.invokevirtual 146, 3) := by decide +kernel
theorem dX12_goes_66 : decode cX12_goes 66 = .ok (.return_, 1) := by decide +kernel
theorem dX12_beat_0 : decode cX12_beat 0 = .ok (.aload_n 0, 1) := by decide +kernel
theorem dX12_beat_1 : decode cX12_beat 1 = .ok (.iconst 0, 1) := by decide +kernel
theorem dX12_beat_2 : decode cX12_beat 2 = .ok (.putfield 59, 3) := by decide +kernel
theorem dX12_beat_5 : decode cX12_beat 5 = .ok (.aload_n 0, 1) := by decide +kernel
theorem dX12_beat_6 : decode cX12_beat 6 = .ok (.aload_n 0, 1) := by decide +kernel
theorem dX12_beat_7 : decode cX12_beat 7 = .ok (.getfield 31, 3) := by decide +kernel
theorem dX12_beat_10 : decode cX12_beat 10 = .ok (.invokevirtual 134, 3) := by decide +kernel
theorem dX12_beat_13 : decode cX12_beat 13 = .ok (.ifCond .ne 15, 3) := by decide +kernel
theorem dX12_beat_16 : decode cX12_beat 16 = .ok (.aload_n 0, 1) := by decide +kernel
theorem dX12_beat_17 : decode cX12_beat 17 = .ok (.getfield 31, 3) := by decide +kernel
theorem dX12_beat_20 : decode cX12_beat 20 = .ok (.iconst 0, 1) := by decide +kernel
theorem dX12_beat_21 : decode cX12_beat 21 = .ok (.iaload, 1) := by decide +kernel
theorem dX12_beat_22 : decode cX12_beat 22 = .ok (.sipush 9999, 3) := by decide +kernel
theorem dX12_beat_25 : decode cX12_beat 25 = .ok (.if_icmp .ne 6, 3) := by decide +kernel
theorem dX12_beat_28 : decode cX12_beat 28 = .ok (.bipush (-2), 2) := by decide +kernel
theorem dX12_beat_30 : decode cX12_beat 30 = .ok (.ireturn, 1) := by decide +kernel
theorem dX12_beat_31 : decode cX12_beat 31 = .ok (.aload_n 0, 1) := by decide +kernel
theorem dX12_beat_32 : decode cX12_beat 32 = .ok (.invokevirtual 150, 3) := by decide +kernel
theorem dX12_beat_35 : decode cX12_beat 35 = .ok (.aload_n 0, 1) := by decide +kernel
theorem dX12_beat_36 : decode cX12_beat 36 = .ok (.aload_n 0, 1) := by decide +kernel
theorem dX12_beat_37 : decode cX12_beat 37 = .ok (.getfield 31, 3) := by decide +kernel
theorem dX12_beat_40 : decode cX12_beat 40 = .ok (.invokevirtual 153, 3) := by decide +kernel
theorem dX12_beat_43 : decode cX12_beat 43 = .ok (.aload_n 0, 1) := by decide +kernel
theorem dX12_beat_44 : decode cX12_beat 44 = .ok (.getfield 31, 3) := by decide +kernel
theorem dX12_beat_47 : decode cX12_beat 47 = .ok (.iconst 1, 1) := by decide +kernel
theorem dX12_beat_48 : decode cX12_beat 48 = .ok (.iaload, 1) := by decide +kernel
theorem dX12_beat_49 : decode cX12_beat 49 = .ok (.ireturn, 1) := by decide +kernel
theorem dX12_pinches_0 : decode cX12_pinches 0 = .ok (.aload_n 0, 1) := by decide +kernel
theorem dX12_pinches_1 : decode cX12_pinches 1 = .ok (.iconst 0, 1) := by decide +kernel
theorem dX12_pinches_2 : decode cX12_pinches 2 = .ok (.putfield 59, 3) := by decide +kernel
theorem dX12_pinches_5 : decode cX12_pinches 5 = .ok (.aload_n 0, 1) := by decide +kernel
theorem dX12_pinches_6 : decode cX12_pinches 6 = .ok (.iload_n 1, 1) := by decide +kernel
theorem dX12_pinches_7 : decode cX12_pinches 7 = .ok (.invokevirtual 124, 3) := by decide +kernel
theorem dX12_pinches_10 : decode cX12_pinches 10 = .ok (.ifCond .ne 5, 3) := by decide +kernel
theorem dX12_pinches_13 : decode cX12_pinches 13 = .ok (.iconst (-1), 1) := by decide +kernel
theorem dX12_pinches_14 : decode cX12_pinches 14 = .ok (.ireturn, 1) := by decide +kernel
theorem dX12_pinches_15 : decode cX12_pinches 15 = .ok (.aload_n 0, 1) := by decide +kernel
theorem dX12_pinches_16 : decode cX12_pinches 16 = .ok (.aload_n 0, 1) := by decide +kernel
theorem dX12_pinches_17 : decode cX12_pinches 17 = .ok (.getfield 31, 3) := by decide +kernel
theorem dX12_pinches_20 : decode cX12_pinches 20 = .ok (.invokevirtual 134, 3) := by decide +kernel
theorem dX12_pinches_23 : decode cX12_pinches 23 = .ok (.ifCond .eq 6, 3) := by decide +kernel
theorem dX12_pinches_26 : decode cX12_pinches 26 = .ok (.bipush (-2), 2) := by decide +kernel
theorem dX12_pinches_28 : decode cX12_pinches 28 = .ok (.ireturn, 1) := by decide +kernel
theorem dX12_pinches_29 : decode cX12_pinches 29 = .ok (.aload_n 0, 1) := by decide +kernel
theorem dX12_pinches_30 : decode cX12_pinches 30 = .ok (.invokevirtual 150, 3) := by decide +kernel
theorem dX12_pinches_33 : decode cX12_pinches 33 = .ok (.aload_n 0, 1) := by decide +kernel
theorem dX12_pinches_34 : decode cX12_pinches 34 = .ok (.aload_n 0, 1) := by decide +kernel
theorem dX12_pinches_35 : decode cX12_pinches 35 = .ok (.getfield 31, 3) := by decide +kernel
theorem dX12_pinches_38 : decode cX12_pinches 38 = .ok (.iconst 1, 1) := by decide +kernel
theorem dX12_pinches_39 : decode cX12_pinches 39 = .ok (.iload_n 1, 1) := by decide +kernel
theorem dX12_pinches_40 : decode cX12_pinches 40 = .ok (.ishl, 1) := by decide +kernel
theorem dX12_pinches_41 : decode cX12_pinches 41 = .ok (.invokevirtual 142, 3) := by decide +kernel
theorem dX12_pinches_44 : decode cX12_pinches 44 = .ok (.aload_n 0, 1) := by decide +kernel
theorem dX12_pinches_45 : decode cX12_pinches 45 = .ok (.getfield 31, 3) := by decide +kernel
theorem dX12_pinches_48 : decode cX12_pinches 48 = .ok (.bipush 9, 2) := by decide +kernel
theorem dX12_pinches_50 : decode cX12_pinches 50 = .ok (.iload_n 1, 1) := by decide +kernel
theorem dX12_pinches_51 : decode cX12_pinches 51 = .ok (.iadd, 1) := by decide +kernel
theorem dX12_pinches_52 : decode cX12_pinches 52 = .ok (.iaload, 1) := by decide +kernel
theorem dX12_pinches_53 : decode cX12_pinches 53 = .ok (.ireturn, 1) := by decide +kernel
theorem dX12_quarrels_0 : decode cX12_quarrels 0 = .ok (.aload_n 0, 1) := by decide +kernel
theorem dX12_quarrels_1 : decode cX12_quarrels 1 = .ok (.iconst 0, 1) := by decide +kernel
theorem dX12_quarrels_2 : decode cX12_quarrels 2 = .ok (.putfield 59, 3) := by decide +kernel
theorem dX12_quarrels_5 : decode cX12_quarrels 5 = .ok (.aload_n 0, 1) := by decide +kernel
theorem dX12_quarrels_6 : decode cX12_quarrels 6 = .ok (.iload_n 1, 1) := by decide +kernel
theorem dX12_quarrels_7 : decode cX12_quarrels 7 = .ok (.invokevirtual 124, 3) := by decide +kernel
theorem dX12_quarrels_10 : decode cX12_quarrels 10 = .ok (.ifCond .eq 16, 3) := by decide +kernel
theorem dX12_quarrels_13 : decode cX12_quarrels 13 = .ok (.aload_n 0, 1) := by decide +kernel
theorem dX12_quarrels_14 : decode cX12_quarrels 14 = .ok (.iload_n 2, 1) := by decide +kernel
theorem dX12_quarrels_15 : decode cX12_quarrels 15 = .ok (.invokevirtual 124, 3) := by decide +kernel
theorem dX12_quarrels_18 : decode cX12_quarrels 18 = .ok (.ifCond .eq 8, 3) := by decide +kernel
theorem dX12_quarrels_21 : decode cX12_quarrels 21 = .ok (.iload_n 1, 1) := by decide +kernel
theorem dX12_quarrels_22 : decode cX12_quarrels 22 = .ok (.iload_n 2, 1) := by decide +kernel
theorem dX12_quarrels_23 : decode cX12_quarrels 23 = .ok (.if_icmp .ne 5, 3) := by decide +kernel
theorem dX12_quarrels_26 : decode cX12_quarrels 26 = .ok (.iconst (-1), 1) := by decide +kernel
theorem dX12_quarrels_27 : decode cX12_quarrels 27 = .ok (.ireturn, 1) := by decide +kernel
theorem dX12_quarrels_28 : decode cX12_quarrels 28 = .ok (.aload_n 0, 1) := by decide +kernel
theorem dX12_quarrels_29 : decode cX12_quarrels 29 = .ok (.aload_n 0, 1) := by decide +kernel
theorem dX12_quarrels_30 : decode cX12_quarrels 30 = .ok (.getfield 31, 3) := by decide +kernel
theorem dX12_quarrels_33 : decode cX12_quarrels 33 = .ok (.invokevirtual 134, 3) := by decide +kernel
theorem dX12_quarrels_36 : decode cX12_quarrels 36 = .ok (.ifCond .eq 6, 3) := by decide +kernel
theorem dX12_quarrels_39 : decode cX12_quarrels 39 = .ok (.bipush (-2), 2) := by decide +kernel
theorem dX12_quarrels_41 : decode cX12_quarrels 41 = .ok (.ireturn, 1) := by decide +kernel
theorem dX12_quarrels_42 : decode cX12_quarrels 42 = .ok (.aload_n 0, 1) := by decide +kernel
theorem dX12_quarrels_43 : decode cX12_quarrels 43 = .ok (.invokevirtual 150, 3) := by decide +kernel
theorem dX12_quarrels_46 : decode cX12_quarrels 46 = .ok (.aload_n 0, 1) := by decide +kernel
theorem dX12_quarrels_47 : decode cX12_quarrels 47 = .ok (.aload_n 0, 1) := by decide +kernel
theorem dX12_quarrels_48 : decode cX12_quarrels 48 = .ok (.getfield 31, 3) := by decide +kernel
theorem dX12_quarrels_51 : decode cX12_quarrels 51 = .ok (.iconst 1, 1) := by decide +kernel
theorem dX12_quarrels_52 : decode cX12_quarrels 52 = .ok (.iload_n 1, 1) := by decide +kernel
theorem dX12_quarrels_53 : decode cX12_quarrels 53 = .ok (.ishl, 1) := by decide +kernel
theorem dX12_quarrels_54 : decode cX12_quarrels 54 = .ok (.iconst 1, 1) := by decide +kernel
theorem dX12_quarrels_55 : decode cX12_quarrels 55 = .ok (.iload_n 2, 1) := by decide +kernel
theorem dX12_quarrels_56 : decode cX12_quarrels 56 = .ok (.ishl, 1) := by decide +kernel
theorem dX12_quarrels_57 : decode cX12_quarrels 57 = .ok (.ior, 1) := by decide +kernel
theorem dX12_quarrels_58 : decode cX12_quarrels 58 = .ok (.invokevirtual 142, 3) := by decide +kernel
theorem dX12_quarrels_61 : decode cX12_quarrels 61 = .ok (.aload_n 0, 1) := by decide +kernel
theorem dX12_quarrels_62 : decode cX12_quarrels 62 = .ok (.aload_n 0, 1) := by decide +kernel
theorem dX12_quarrels_63 : decode cX12_quarrels 63 = .ok (.getfield 31, 3) := by decide +kernel
theorem dX12_quarrels_66 : decode cX12_quarrels 66 = .ok (.iconst 2, 1) := by decide +kernel
theorem dX12_quarrels_67 : decode cX12_quarrels 67 = .ok (.iaload, 1) := by decide +kernel
theorem dX12_quarrels_68 : decode cX12_quarrels 68 = .ok (.invokevirtual 131, 3) := by decide +kernel
theorem dX12_quarrels_71 : decode cX12_quarrels 71 = .ok (.ireturn, 1) := by decide +kernel
theorem dX12_sings_0 : decode cX12_sings 0 = .ok (.aload_n 0, 1) := by decide +kernel
theorem dX12_sings_1 : decode cX12_sings 1 = .ok (.iconst 0, 1) := by decide +kernel
theorem dX12_sings_2 : decode cX12_sings 2 = .ok (.putfield 59, 3) := by decide +kernel
theorem dX12_sings_5 : decode cX12_sings 5 = .ok (.iload_n 1, 1) := by decide +kernel
theorem dX12_sings_6 : decode cX12_sings 6 = .ok (.iconst 1, 1) := by decide +kernel
theorem dX12_sings_7 : decode cX12_sings 7 = .ok (.iconst 3, 1) := by decide +kernel
theorem dX12_sings_8 : decode cX12_sings 8 = .ok (.invokestatic 63, 3) := by decide +kernel
theorem dX12_sings_11 : decode cX12_sings 11 = .ok (.ifCond .ne 5, 3) := by decide +kernel
theorem dX12_sings_14 : decode cX12_sings 14 = .ok (.iconst (-1), 1) := by decide +kernel
theorem dX12_sings_15 : decode cX12_sings 15 = .ok (.ireturn, 1) := by decide +kernel
theorem dX12_sings_16 : decode cX12_sings 16 = .ok (.iconst 0, 1) := by decide +kernel
theorem dX12_sings_17 : decode cX12_sings 17 = .ok (.istore_n 2, 1) := by decide +kernel
theorem dX12_sings_18 : decode cX12_sings 18 = .ok (.iconst 0, 1) := by decide +kernel
theorem dX12_sings_19 : decode cX12_sings 19 = .ok (.istore_n 3, 1) := by decide +kernel
theorem dX12_sings_20 : decode cX12_sings 20 = .ok (.iload_n 3, 1) := by decide +kernel
theorem dX12_sings_21 : decode cX12_sings 21 = .ok (.aload_n 0, 1) := by decide +kernel
theorem dX12_sings_22 : decode cX12_sings 22 = .ok (.getfield 13, 3) := by decide +kernel
theorem dX12_sings_25 : decode cX12_sings 25 = .ok (.iconst 0, 1) := by decide +kernel
theorem dX12_sings_26 : decode cX12_sings 26 = .ok (.iaload, 1) := by decide +kernel
theorem dX12_sings_27 : decode cX12_sings 27 = .ok (.if_icmp .ge 29, 3) := by decide +kernel
theorem dX12_sings_30 : decode cX12_sings 30 = .ok (.iload_n 2, 1) := by decide +kernel
theorem dX12_sings_31 : decode cX12_sings 31 = .ok (.aload_n 0, 1) := by decide +kernel
theorem dX12_sings_32 : decode cX12_sings 32 = .ok (.getfield 22, 3) := by decide +kernel
theorem dX12_sings_35 : decode cX12_sings 35 = .ok (.iload_n 3, 1) := by decide +kernel
theorem dX12_sings_36 : decode cX12_sings 36 = .ok (.iaload, 1) := by decide +kernel
theorem dX12_sings_37 : decode cX12_sings 37 = .ok (.iload_n 1, 1) := by decide +kernel
theorem dX12_sings_38 : decode cX12_sings 38 = .ok (.if_icmp .ne 9, 3) := by decide +kernel
theorem dX12_sings_41 : decode cX12_sings 41 = .ok (.iconst 1, 1) := by decide +kernel
theorem dX12_sings_42 : decode cX12_sings 42 = .ok (.iload_n 3, 1) := by decide +kernel
theorem dX12_sings_43 : decode cX12_sings 43 = .ok (.ishl, 1) := by decide +kernel
theorem dX12_sings_44 : decode cX12_sings 44 = .ok (.goto 4, 3) := by decide +kernel
theorem dX12_sings_47 : decode cX12_sings 47 = .ok (.iconst 0, 1) := by decide +kernel
theorem dX12_sings_48 : decode cX12_sings 48 = .ok (.ior, 1) := by decide +kernel
theorem dX12_sings_49 : decode cX12_sings 49 = .ok (.istore_n 2, 1) := by decide +kernel
theorem dX12_sings_50 : decode cX12_sings 50 = .ok (.iinc 3 1, 3) := by decide +kernel
theorem dX12_sings_53 : decode cX12_sings 53 = .ok (.goto (-33), 3) := by decide +kernel
theorem dX12_sings_56 : decode cX12_sings 56 = .ok (.aload_n 0, 1) := by decide +kernel
theorem dX12_sings_57 : decode cX12_sings 57 = .ok (.aload_n 0, 1) := by decide +kernel
theorem dX12_sings_58 : decode cX12_sings 58 = .ok (.getfield 31, 3) := by decide +kernel
theorem dX12_sings_61 : decode cX12_sings 61 = .ok (.invokevirtual 134, 3) := by decide +kernel
theorem dX12_sings_64 : decode cX12_sings 64 = .ok (.ifCond .ne 7, 3) := by decide +kernel
theorem dX12_sings_67 : decode cX12_sings 67 = .ok (.iload_n 2, 1) := by decide +kernel
theorem dX12_sings_68 : decode cX12_sings 68 = .ok (.ifCond .ne 6, 3) := by decide +kernel
theorem dX12_sings_71 : decode cX12_sings 71 = .ok (.bipush (-2), 2) := by decide +kernel
theorem dX12_sings_73 : decode cX12_sings 73 = .ok (.ireturn, 1) := by decide +kernel
theorem dX12_sings_74 : decode cX12_sings 74 = .ok (.aload_n 0, 1) := by decide +kernel
theorem dX12_sings_75 : decode cX12_sings 75 = .ok (.invokevirtual 150, 3) := by decide +kernel
theorem dX12_sings_78 : decode cX12_sings 78 = .ok (.aload_n 0, 1) := by decide +kernel
theorem dX12_sings_79 : decode cX12_sings 79 = .ok (.aload_n 0, 1) := by decide +kernel
theorem dX12_sings_80 : decode cX12_sings 80 = .ok (.getfield 31, 3) := by decide +kernel
theorem dX12_sings_83 : decode cX12_sings 83 = .ok (.iload_n 2, 1) := by decide +kernel
theorem dX12_sings_84 : decode cX12_sings 84 = .ok (.invokevirtual 142, 3) := by decide +kernel
theorem dX12_sings_87 : decode cX12_sings 87 = .ok (.aload_n 0, 1) := by decide +kernel
theorem dX12_sings_88 : decode cX12_sings 88 = .ok (.iload_n 2, 1) := by decide +kernel
theorem dX12_sings_89 : decode cX12_sings 89 = .ok (.invokevirtual 131, 3) := by decide +kernel
theorem dX12_sings_92 : decode cX12_sings 92 = .ok (.ireturn, 1) := by decide +kernel
theorem dX12_undo_0 : decode cX12_undo 0 = .ok (.aload_n 0, 1) := by decide +kernel
theorem dX12_undo_1 : decode cX12_undo 1 = .ok (.iconst 0, 1) := by decide +kernel
theorem dX12_undo_2 : decode cX12_undo 2 = .ok (.putfield 59, 3) := by decide +kernel
theorem dX12_undo_5 : decode cX12_undo 5 = .ok (.aload_n 0, 1) := by decide +kernel
theorem dX12_undo_6 : decode cX12_undo 6 = .ok (.getfield 121, 3) := by decide +kernel
theorem dX12_undo_9 : decode cX12_undo 9 = .ok (.ifCond .ne 6, 3) := by decide +kernel
theorem dX12_undo_12 : decode cX12_undo 12 = .ok (.bipush (-2), 2) := by decide +kernel
theorem dX12_undo_14 : decode cX12_undo 14 = .ok (.ireturn, 1) := by decide +kernel
theorem dX12_undo_15 : decode cX12_undo 15 = .ok (.aload_n 0, 1) := by decide +kernel
theorem dX12_undo_16 : decode cX12_undo 16 = .ok (.dup, 1) := by decide +kernel
theorem dX12_undo_17 : decode cX12_undo 17 = .ok (.getfield 121, 3) := by decide +kernel
theorem dX12_undo_20 : decode cX12_undo 20 = .ok (.iconst 1, 1) := by decide +kernel
theorem dX12_undo_21 : decode cX12_undo 21 = .ok (.isub, 1) := by decide +kernel
theorem dX12_undo_22 : decode cX12_undo 22 = .ok (.putfield 121, 3) := by decide +kernel
theorem dX12_undo_25 : decode cX12_undo 25 = .ok (.iconst 0, 1) := by decide +kernel
theorem dX12_undo_26 : decode cX12_undo 26 = .ok (.istore_n 1, 1) := by decide +kernel
theorem dX12_undo_27 : decode cX12_undo 27 = .ok (.iload_n 1, 1) := by decide +kernel
theorem dX12_undo_28 : decode cX12_undo 28 = .ok (.bipush 15, 2) := by decide +kernel
theorem dX12_undo_30 : decode cX12_undo 30 = .ok (.if_icmp .ge 29, 3) := by decide +kernel
theorem dX12_undo_33 : decode cX12_undo 33 = .ok (.aload_n 0, 1) := by decide +kernel
theorem dX12_undo_34 : decode cX12_undo 34 = .ok (.getfield 31, 3) := by decide +kernel
theorem dX12_undo_37 : decode cX12_undo 37 = .ok (.iload_n 1, 1) := by decide +kernel
theorem dX12_undo_38 : decode cX12_undo 38 = .ok (.aload_n 0, 1) := by decide +kernel
theorem dX12_undo_39 : decode cX12_undo 39 = .ok (.getfield 44, 3) := by decide +kernel
theorem dX12_undo_42 : decode cX12_undo 42 = .ok (.bipush 15, 2) := by decide +kernel
theorem dX12_undo_44 : decode cX12_undo 44 = .ok (.aload_n 0, 1) := by decide +kernel
theorem dX12_undo_45 : decode cX12_undo 45 = .ok (.getfield 121, 3) := by decide +kernel
theorem dX12_undo_48 : decode cX12_undo 48 = .ok (.imul, 1) := by decide +kernel
theorem dX12_undo_49 : decode cX12_undo 49 = .ok (.iload_n 1, 1) := by decide +kernel
theorem dX12_undo_50 : decode cX12_undo 50 = .ok (.iadd, 1) := by decide +kernel
theorem dX12_undo_51 : decode cX12_undo 51 = .ok (.iaload, 1) := by decide +kernel
theorem dX12_undo_52 : decode cX12_undo 52 = .ok (.iastore, 1) := by decide +kernel
theorem dX12_undo_53 : decode cX12_undo 53 = .ok (.iinc 1 1, 3) := by decide +kernel
theorem dX12_undo_56 : decode cX12_undo 56 = .ok (.goto (-29), 3) := by decide +kernel
theorem dX12_undo_59 : decode cX12_undo 59 = .ok (.aload_n 0, 1) := by decide +kernel
theorem dX12_undo_60 : decode cX12_undo 60 = .ok (.getfield 121, 3) := by decide +kernel
theorem dX12_undo_63 : decode cX12_undo 63 = .ok (.ireturn, 1) := by decide +kernel
theorem dX12_asNow_0 : decode cX12_asNow 0 = .ok (.iconst 0, 1) := by decide +kernel
theorem dX12_asNow_1 : decode cX12_asNow 1 = .ok (.istore_n 1, 1) := by decide +kernel
theorem dX12_asNow_2 : decode cX12_asNow 2 = .ok (.iload_n 1, 1) := by decide +kernel
theorem dX12_asNow_3 : decode cX12_asNow 3 = .ok (.bipush 15, 2) := by decide +kernel
theorem dX12_asNow_5 : decode cX12_asNow 5 = .ok (.if_icmp .ge 21, 3) := by decide +kernel
theorem dX12_asNow_8 : decode cX12_asNow 8 = .ok (.aload_n 0, 1) := by decide +kernel
theorem dX12_asNow_9 : decode cX12_asNow 9 = .ok (.getfield 34, 3) := by decide +kernel
theorem dX12_asNow_12 : decode cX12_asNow 12 = .ok (.iload_n 1, 1) := by decide +kernel
theorem dX12_asNow_13 : decode cX12_asNow 13 = .ok (.aload_n 0, 1) := by decide +kernel
theorem dX12_asNow_14 : decode cX12_asNow 14 = .ok (.getfield 31, 3) := by decide +kernel
theorem dX12_asNow_17 : decode cX12_asNow 17 = .ok (.iload_n 1, 1) := by decide +kernel
theorem dX12_asNow_18 : decode cX12_asNow 18 = .ok (.iaload, 1) := by decide +kernel
theorem dX12_asNow_19 : decode cX12_asNow 19 = .ok (.iastore, 1) := by decide +kernel
theorem dX12_asNow_20 : decode cX12_asNow 20 = .ok (.iinc 1 1, 3) := by decide +kernel
theorem dX12_asNow_23 : decode cX12_asNow 23 = .ok (.goto (-21), 3) := by decide +kernel
theorem dX12_asNow_26 : decode cX12_asNow 26 = .ok (.return_, 1) := by decide +kernel
theorem dX12_inBeats_0 : decode cX12_inBeats 0 = .ok (.aload_n 0, 1) := by decide +kernel
theorem dX12_inBeats_1 : decode cX12_inBeats 1 = .ok (.iconst 0, 1) := by decide +kernel
theorem dX12_inBeats_2 : decode cX12_inBeats 2 = .ok (.putfield 59, 3) := by decide +kernel
theorem dX12_inBeats_5 : decode cX12_inBeats 5 = .ok (.iload_n 1, 1) := by decide +kernel
theorem dX12_inBeats_6 : decode cX12_inBeats 6 = .ok (.iconst 0, 1) := by decide +kernel
theorem dX12_inBeats_7 : decode cX12_inBeats 7 = .ok (.sipush 200, 3) := by decide +kernel
theorem dX12_inBeats_10 : decode cX12_inBeats 10 = .ok (.invokestatic 63, 3) := by decide +kernel
theorem dX12_inBeats_13 : decode cX12_inBeats 13 = .ok (.ifCond .eq 12, 3) := by decide +kernel
theorem dX12_inBeats_16 : decode cX12_inBeats 16 = .ok (.iload_n 2, 1) := by decide +kernel
theorem dX12_inBeats_17 : decode cX12_inBeats 17 = .ok (.iconst 0, 1) := by decide +kernel
theorem dX12_inBeats_18 : decode cX12_inBeats 18 = .ok (.iconst 2, 1) := by decide +kernel
theorem dX12_inBeats_19 : decode cX12_inBeats 19 = .ok (.invokestatic 63, 3) := by decide +kernel
theorem dX12_inBeats_22 : decode cX12_inBeats 22 = .ok (.ifCond .ne 5, 3) := by decide +kernel
theorem dX12_inBeats_25 : decode cX12_inBeats 25 = .ok (.iconst (-1), 1) := by decide +kernel
theorem dX12_inBeats_26 : decode cX12_inBeats 26 = .ok (.ireturn, 1) := by decide +kernel
theorem dX12_inBeats_27 : decode cX12_inBeats 27 = .ok (.aload_n 0, 1) := by decide +kernel
theorem dX12_inBeats_28 : decode cX12_inBeats 28 = .ok (.invokevirtual 156, 3) := by decide +kernel
theorem dX12_inBeats_31 : decode cX12_inBeats 31 = .ok (.iconst 0, 1) := by decide +kernel
theorem dX12_inBeats_32 : decode cX12_inBeats 32 = .ok (.istore_n 3, 1) := by decide +kernel
theorem dX12_inBeats_33 : decode cX12_inBeats 33 = .ok (.iload_n 3, 1) := by decide +kernel
theorem dX12_inBeats_34 : decode cX12_inBeats 34 = .ok (.iload_n 1, 1) := by decide +kernel
theorem dX12_inBeats_35 : decode cX12_inBeats 35 = .ok (.if_icmp .ge 17, 3) := by decide +kernel
theorem dX12_inBeats_38 : decode cX12_inBeats 38 = .ok (.aload_n 0, 1) := by decide +kernel
theorem dX12_inBeats_39 : decode cX12_inBeats 39 = .ok (.aload_n 0, 1) := by decide +kernel
theorem dX12_inBeats_40 : decode cX12_inBeats 40 = .ok (.getfield 34, 3) := by decide +kernel
theorem dX12_inBeats_43 : decode cX12_inBeats 43 = .ok (.invokevirtual 153, 3) := by decide +kernel
theorem dX12_inBeats_46 : decode cX12_inBeats 46 = .ok (.iinc 3 1, 3) := by decide +kernel
theorem dX12_inBeats_49 : decode cX12_inBeats 49 = .ok (.goto (-16), 3) := by decide +kernel
theorem dX12_inBeats_52 : decode cX12_inBeats 52 = .ok (.iload_n 2, 1) := by decide +kernel
theorem dX12_inBeats_53 : decode cX12_inBeats 53 = .ok (.ifCond .ne 12, 3) := by decide +kernel
theorem dX12_inBeats_56 : decode cX12_inBeats 56 = .ok (.aload_n 0, 1) := by decide +kernel
theorem dX12_inBeats_57 : decode cX12_inBeats 57 = .ok (.getfield 34, 3) := by decide +kernel
theorem dX12_inBeats_60 : decode cX12_inBeats 60 = .ok (.iconst 1, 1) := by decide +kernel
theorem dX12_inBeats_61 : decode cX12_inBeats 61 = .ok (.iaload, 1) := by decide +kernel
theorem dX12_inBeats_62 : decode cX12_inBeats 62 = .ok (.goto 34, 3) := by decide +kernel
theorem dX12_inBeats_65 : decode cX12_inBeats 65 = .ok (.iload_n 2, 1) := by decide +kernel
theorem dX12_inBeats_66 : decode cX12_inBeats 66 = .ok (.iconst 1, 1) := by decide +kernel
theorem dX12_inBeats_67 : decode cX12_inBeats 67 = .ok (.if_icmp .ne 12, 3) := by decide +kernel
theorem dX12_inBeats_70 : decode cX12_inBeats 70 = .ok (.aload_n 0, 1) := by decide +kernel
theorem dX12_inBeats_71 : decode cX12_inBeats 71 = .ok (.getfield 34, 3) := by decide +kernel
theorem dX12_inBeats_74 : decode cX12_inBeats 74 = .ok (.iconst 2, 1) := by decide +kernel
theorem dX12_inBeats_75 : decode cX12_inBeats 75 = .ok (.iaload, 1) := by decide +kernel
theorem dX12_inBeats_76 : decode cX12_inBeats 76 = .ok (.goto 20, 3) := by decide +kernel
theorem dX12_inBeats_79 : decode cX12_inBeats 79 = .ok (.aload_n 0, 1) := by decide +kernel
theorem dX12_inBeats_80 : decode cX12_inBeats 80 = .ok (.aload_n 0, 1) := by decide +kernel
theorem dX12_inBeats_81 : decode cX12_inBeats 81 = .ok (.getfield 34, 3) := by decide +kernel
theorem dX12_inBeats_84 : decode cX12_inBeats 84 = .ok (.invokevirtual 138, 3) := by decide +kernel
theorem dX12_inBeats_87 : decode cX12_inBeats 87 = .ok (.aload_n 0, 1) := by decide +kernel
theorem dX12_inBeats_88 : decode cX12_inBeats 88 = .ok (.aload_n 0, 1) := by decide +kernel
theorem dX12_inBeats_89 : decode cX12_inBeats 89 = .ok (.getfield 31, 3) := by decide +kernel
theorem dX12_inBeats_92 : decode cX12_inBeats 92 = .ok (.invokevirtual 138, 3) := by decide +kernel
theorem dX12_inBeats_95 : decode cX12_inBeats 95 = .ok (.isub, 1) := by decide +kernel
theorem dX12_inBeats_96 : decode cX12_inBeats 96 = .ok (.ireturn, 1) := by decide +kernel
theorem dX12_endsBehind_0 : decode cX12_endsBehind 0 = .ok (.iload_n 1, 1) := by decide +kernel
theorem dX12_endsBehind_1 : decode cX12_endsBehind 1 = .ok (.istore_n 2, 1) := by decide +kernel
theorem dX12_endsBehind_2 : decode cX12_endsBehind 2 = .ok (.iload_n 2, 1) := by decide +kernel
theorem dX12_endsBehind_3 : decode cX12_endsBehind 3 = .ok (.sipush 400, 3) := by decide +kernel
theorem dX12_endsBehind_6 : decode cX12_endsBehind 6 = .ok (.if_icmp .gt 30, 3) := by decide +kernel
theorem dX12_endsBehind_9 : decode cX12_endsBehind 9 = .ok (.aload_n 0, 1) := by decide +kernel
theorem dX12_endsBehind_10 : decode cX12_endsBehind 10 = .ok (.aload_n 0, 1) := by decide +kernel
theorem dX12_endsBehind_11 : decode cX12_endsBehind 11 = .ok (.getfield 34, 3) := by decide +kernel
theorem dX12_endsBehind_14 : decode cX12_endsBehind 14 = .ok (.invokevirtual 134, 3) := by decide +kernel
theorem dX12_endsBehind_17 : decode cX12_endsBehind 17 = .ok (.ifCond .eq 5, 3) := by decide +kernel
theorem dX12_endsBehind_20 : decode cX12_endsBehind 20 = .ok (.iload_n 2, 1) := by decide +kernel
theorem dX12_endsBehind_21 : decode cX12_endsBehind 21 = .ok (.ireturn, 1) := by decide +kernel
theorem dX12_endsBehind_22 : decode cX12_endsBehind 22 = .ok (.aload_n 0, 1) := by decide +kernel
theorem dX12_endsBehind_23 : decode cX12_endsBehind 23 = .ok (.aload_n 0, 1) := by decide +kernel
theorem dX12_endsBehind_24 : decode cX12_endsBehind 24 = .ok (.getfield 34, 3) := by decide +kernel
theorem dX12_endsBehind_27 : decode cX12_endsBehind 27 = .ok (.invokevirtual 153, 3) := by decide +kernel
theorem dX12_endsBehind_30 : decode cX12_endsBehind 30 = .ok (.iinc 2 1, 3) := by decide +kernel
theorem dX12_endsBehind_33 : decode cX12_endsBehind 33 = .ok (.goto (-31), 3) := by decide +kernel
theorem dX12_endsBehind_36 : decode cX12_endsBehind 36 = .ok (.bipush (-9), 2) := by decide +kernel
theorem dX12_endsBehind_38 : decode cX12_endsBehind 38 = .ok (.ireturn, 1) := by decide +kernel
theorem dX12_ends_0 : decode cX12_ends 0 = .ok (.aload_n 0, 1) := by decide +kernel
theorem dX12_ends_1 : decode cX12_ends 1 = .ok (.iconst 0, 1) := by decide +kernel
theorem dX12_ends_2 : decode cX12_ends 2 = .ok (.putfield 59, 3) := by decide +kernel
theorem dX12_ends_5 : decode cX12_ends 5 = .ok (.aload_n 0, 1) := by decide +kernel
theorem dX12_ends_6 : decode cX12_ends 6 = .ok (.invokevirtual 156, 3) := by decide +kernel
theorem dX12_ends_9 : decode cX12_ends 9 = .ok (.aload_n 0, 1) := by decide +kernel
theorem dX12_ends_10 : decode cX12_ends 10 = .ok (.iconst 0, 1) := by decide +kernel
theorem dX12_ends_11 : decode cX12_ends 11 = .ok (.invokevirtual 159, 3) := by decide +kernel
theorem dX12_ends_14 : decode cX12_ends 14 = .ok (.ireturn, 1) := by decide +kernel
theorem dX12_last_0 : decode cX12_last 0 = .ok (.aload_n 0, 1) := by decide +kernel
theorem dX12_last_1 : decode cX12_last 1 = .ok (.iconst 0, 1) := by decide +kernel
theorem dX12_last_2 : decode cX12_last 2 = .ok (.putfield 59, 3) := by decide +kernel
theorem dX12_last_5 : decode cX12_last 5 = .ok (.aload_n 0, 1) := by decide +kernel
theorem dX12_last_6 : decode cX12_last 6 = .ok (.invokevirtual 156, 3) := by decide +kernel
theorem dX12_last_9 : decode cX12_last 9 = .ok (.aload_n 0, 1) := by decide +kernel
theorem dX12_last_10 : decode cX12_last 10 = .ok (.iconst 0, 1) := by decide +kernel
theorem dX12_last_11 : decode cX12_last 11 = .ok (.invokevirtual 159, 3) := by decide +kernel
theorem dX12_last_14 : decode cX12_last 14 = .ok (.bipush (-9), 2) := by decide +kernel
theorem dX12_last_16 : decode cX12_last 16 = .ok (.if_icmp .ne 8, 3) := by decide +kernel
theorem dX12_last_19 : decode cX12_last 19 = .ok (.bipush (-9), 2) := by decide +kernel
theorem dX12_last_21 : decode cX12_last 21 = .ok (.goto 9, 3) := by decide +kernel
theorem dX12_last_24 : decode cX12_last 24 = .ok (.aload_n 0, 1) := by decide +kernel
theorem dX12_last_25 : decode cX12_last 25 = .ok (.getfield 34, 3) := by decide +kernel
theorem dX12_last_28 : decode cX12_last 28 = .ok (.iconst 2, 1) := by decide +kernel
theorem dX12_last_29 : decode cX12_last 29 = .ok (.iaload, 1) := by decide +kernel
theorem dX12_last_30 : decode cX12_last 30 = .ok (.ireturn, 1) := by decide +kernel
theorem dX12_first_0 : decode cX12_first 0 = .ok (.aload_n 0, 1) := by decide +kernel
theorem dX12_first_1 : decode cX12_first 1 = .ok (.iconst 0, 1) := by decide +kernel
theorem dX12_first_2 : decode cX12_first 2 = .ok (.putfield 59, 3) := by decide +kernel
theorem dX12_first_5 : decode cX12_first 5 = .ok (.iload_n 1, 1) := by decide +kernel
theorem dX12_first_6 : decode cX12_first 6 = .ok (.iconst 0, 1) := by decide +kernel
theorem dX12_first_7 : decode cX12_first 7 = .ok (.iconst 1, 1) := by decide +kernel
theorem dX12_first_8 : decode cX12_first 8 = .ok (.invokestatic 63, 3) := by decide +kernel
theorem dX12_first_11 : decode cX12_first 11 = .ok (.ifCond .ne 5, 3) := by decide +kernel
theorem dX12_first_14 : decode cX12_first 14 = .ok (.iconst (-1), 1) := by decide +kernel
theorem dX12_first_15 : decode cX12_first 15 = .ok (.ireturn, 1) := by decide +kernel
theorem dX12_first_16 : decode cX12_first 16 = .ok (.bipush (-9), 2) := by decide +kernel
theorem dX12_first_18 : decode cX12_first 18 = .ok (.istore_n 2, 1) := by decide +kernel
theorem dX12_first_19 : decode cX12_first 19 = .ok (.iconst 0, 1) := by decide +kernel
theorem dX12_first_20 : decode cX12_first 20 = .ok (.istore_n 3, 1) := by decide +kernel
theorem dX12_first_21 : decode cX12_first 21 = .ok (.iconst 0, 1) := by decide +kernel
theorem dX12_first_22 : decode cX12_first 22 = .ok (.istore 4, 2) := by decide +kernel
theorem dX12_first_24 : decode cX12_first 24 = .ok (.iload 4, 2) := by decide +kernel
theorem dX12_first_26 : decode cX12_first 26 = .ok (.aload_n 0, 1) := by decide +kernel
theorem dX12_first_27 : decode cX12_first 27 = .ok (.getfield 13, 3) := by decide +kernel
theorem dX12_first_30 : decode cX12_first 30 = .ok (.iconst 0, 1) := by decide +kernel
theorem dX12_first_31 : decode cX12_first 31 = .ok (.iaload, 1) := by decide +kernel
theorem dX12_first_32 : decode cX12_first 32 = .ok (.if_icmp .ge 83, 3) := by decide +kernel
theorem dX12_first_35 : decode cX12_first 35 = .ok (.aload_n 0, 1) := by decide +kernel
theorem dX12_first_36 : decode cX12_first 36 = .ok (.getfield 19, 3) := by decide +kernel
theorem dX12_first_39 : decode cX12_first 39 = .ok (.iload 4, 2) := by decide +kernel
theorem dX12_first_41 : decode cX12_first 41 = .ok (.iaload, 1) := by decide +kernel
theorem dX12_first_42 : decode cX12_first 42 = .ok (.aload_n 0, 1) := by decide +kernel
theorem dX12_first_43 : decode cX12_first 43 = .ok (.getfield 31, 3) := by decide +kernel
theorem dX12_first_46 : decode cX12_first 46 = .ok (.iconst 3, 1) := by decide +kernel
theorem dX12_first_47 : decode cX12_first 47 = .ok (.iload 4, 2) := by decide +kernel
theorem dX12_first_49 : decode cX12_first 49 = .ok (.iadd, 1) := by decide +kernel
theorem dX12_first_50 : decode cX12_first 50 = .ok (.iaload, 1) := by decide +kernel
theorem dX12_first_51 : decode cX12_first 51 = .ok (.isub, 1) := by decide +kernel
theorem dX12_first_52 : decode cX12_first 52 = .ok (.istore 5, 2) := by decide +kernel
theorem dX12_first_54 : decode cX12_first 54 = .ok (.iload_n 2, 1) := by decide +kernel
theorem dX12_first_55 : decode cX12_first 55 = .ok (.bipush (-9), 2) := by decide +kernel
theorem dX12_first_57 : decode cX12_first 57 = .ok (.if_icmp .eq 9, 3) := by decide +kernel
theorem dX12_first_60 : decode cX12_first 60 = .ok (.iload 5, 2) := by decide +kernel
theorem dX12_first_62 : decode cX12_first 62 = .ok (.iload_n 2, 1) := by decide +kernel
theorem dX12_first_63 : decode cX12_first 63 = .ok (.if_icmp .ge 10, 3) := by decide +kernel
theorem dX12_first_66 : decode cX12_first 66 = .ok (.iconst 1, 1) := by decide +kernel
theorem dX12_first_67 : decode cX12_first 67 = .ok (.iload 4, 2) := by decide +kernel
theorem dX12_first_69 : decode cX12_first 69 = .ok (.ishl, 1) := by decide +kernel
theorem dX12_first_70 : decode cX12_first 70 = .ok (.goto 19, 3) := by decide +kernel
theorem dX12_first_73 : decode cX12_first 73 = .ok (.iload 5, 2) := by decide +kernel
theorem dX12_first_75 : decode cX12_first 75 = .ok (.iload_n 2, 1) := by decide +kernel
theorem dX12_first_76 : decode cX12_first 76 = .ok (.if_icmp .ne 12, 3) := by decide +kernel
theorem dX12_first_79 : decode cX12_first 79 = .ok (.iload_n 3, 1) := by decide +kernel
theorem dX12_first_80 : decode cX12_first 80 = .ok (.iconst 1, 1) := by decide +kernel
theorem dX12_first_81 : decode cX12_first 81 = .ok (.iload 4, 2) := by decide +kernel
theorem dX12_first_83 : decode cX12_first 83 = .ok (.ishl, 1) := by decide +kernel
theorem dX12_first_84 : decode cX12_first 84 = .ok (.ior, 1) := by decide +kernel
theorem dX12_first_85 : decode cX12_first 85 = .ok (.goto 4, 3) := by decide +kernel
theorem dX12_first_88 : decode cX12_first 88 = .ok (.iload_n 3, 1) := by decide +kernel
theorem dX12_first_89 : decode cX12_first 89 = .ok (.istore_n 3, 1) := by decide +kernel
theorem dX12_first_90 : decode cX12_first 90 = .ok (.iload_n 2, 1) := by decide +kernel
theorem dX12_first_91 : decode cX12_first 91 = .ok (.bipush (-9), 2) := by decide +kernel
theorem dX12_first_93 : decode cX12_first 93 = .ok (.if_icmp .eq 9, 3) := by decide +kernel
theorem dX12_first_96 : decode cX12_first 96 = .ok (.iload 5, 2) := by decide +kernel
theorem dX12_first_98 : decode cX12_first 98 = .ok (.iload_n 2, 1) := by decide +kernel
theorem dX12_first_99 : decode cX12_first 99 = .ok (.if_icmp .ge 8, 3) := by decide +kernel
theorem dX12_first_102 : decode cX12_first 102 = .ok (.iload 5, 2) := by decide +kernel
theorem dX12_first_104 : decode cX12_first 104 = .ok (.goto 4, 3) := by decide +kernel
theorem dX12_first_107 : decode cX12_first 107 = .ok (.iload_n 2, 1) := by decide +kernel
theorem dX12_first_108 : decode cX12_first 108 = .ok (.istore_n 2, 1) := by decide +kernel
theorem dX12_first_109 : decode cX12_first 109 = .ok (.iinc 4 1, 3) := by decide +kernel
theorem dX12_first_112 : decode cX12_first 112 = .ok (.goto (-88), 3) := by decide +kernel
theorem dX12_first_115 : decode cX12_first 115 = .ok (.iload_n 2, 1) := by decide +kernel
theorem dX12_first_116 : decode cX12_first 116 = .ok (.bipush (-9), 2) := by decide +kernel
theorem dX12_first_118 : decode cX12_first 118 = .ok (.if_icmp .eq 7, 3) := by decide +kernel
theorem dX12_first_121 : decode cX12_first 121 = .ok (.iload_n 1, 1) := by decide +kernel
theorem dX12_first_122 : decode cX12_first 122 = .ok (.ifCond .ne 7, 3) := by decide +kernel
theorem dX12_first_125 : decode cX12_first 125 = .ok (.iload_n 2, 1) := by decide +kernel
theorem dX12_first_126 : decode cX12_first 126 = .ok (.goto 4, 3) := by decide +kernel
theorem dX12_first_129 : decode cX12_first 129 = .ok (.iload_n 3, 1) := by decide +kernel
theorem dX12_first_130 : decode cX12_first 130 = .ok (.ireturn, 1) := by decide +kernel
theorem dX12_ring_0 : decode cX12_ring 0 = .ok (.aload_n 0, 1) := by decide +kernel
theorem dX12_ring_1 : decode cX12_ring 1 = .ok (.iconst 0, 1) := by decide +kernel
theorem dX12_ring_2 : decode cX12_ring 2 = .ok (.putfield 59, 3) := by decide +kernel
theorem dX12_ring_5 : decode cX12_ring 5 = .ok (.aload_n 0, 1) := by decide +kernel
theorem dX12_ring_6 : decode cX12_ring 6 = .ok (.invokevirtual 156, 3) := by decide +kernel
theorem dX12_ring_9 : decode cX12_ring 9 = .ok (.iconst 1, 1) := by decide +kernel
theorem dX12_ring_10 : decode cX12_ring 10 = .ok (.istore_n 1, 1) := by decide +kernel
theorem dX12_ring_11 : decode cX12_ring 11 = .ok (.iload_n 1, 1) := by decide +kernel
theorem dX12_ring_12 : decode cX12_ring 12 = .ok (.sipush 400, 3) := by decide +kernel
theorem dX12_ring_15 : decode cX12_ring 15 = .ok (.if_icmp .gt 64, 3) := by decide +kernel
theorem dX12_ring_18 : decode cX12_ring 18 = .ok (.aload_n 0, 1) := by decide +kernel
theorem dX12_ring_19 : decode cX12_ring 19 = .ok (.aload_n 0, 1) := by decide +kernel
theorem dX12_ring_20 : decode cX12_ring 20 = .ok (.getfield 34, 3) := by decide +kernel
theorem dX12_ring_23 : decode cX12_ring 23 = .ok (.invokevirtual 146, 3) := by decide +kernel
theorem dX12_ring_26 : decode cX12_ring 26 = .ok (.iconst 1, 1) := by decide +kernel
theorem dX12_ring_27 : decode cX12_ring 27 = .ok (.istore_n 2, 1) := by decide +kernel
theorem dX12_ring_28 : decode cX12_ring 28 = .ok (.iconst 2, 1) := by decide +kernel
theorem dX12_ring_29 : decode cX12_ring 29 = .ok (.istore_n 3, 1) := by decide +kernel
theorem dX12_ring_30 : decode cX12_ring 30 = .ok (.iload_n 3, 1) := by decide +kernel
theorem dX12_ring_31 : decode cX12_ring 31 = .ok (.bipush 9, 2) := by decide +kernel
theorem dX12_ring_33 : decode cX12_ring 33 = .ok (.if_icmp .ge 34, 3) := by decide +kernel
theorem dX12_ring_36 : decode cX12_ring 36 = .ok (.iload_n 2, 1) := by decide +kernel
theorem dX12_ring_37 : decode cX12_ring 37 = .ok (.ifCond .eq 22, 3) := by decide +kernel
theorem dX12_ring_40 : decode cX12_ring 40 = .ok (.aload_n 0, 1) := by decide +kernel
theorem dX12_ring_41 : decode cX12_ring 41 = .ok (.getfield 34, 3) := by decide +kernel
theorem dX12_ring_44 : decode cX12_ring 44 = .ok (.iload_n 3, 1) := by decide +kernel
theorem dX12_ring_45 : decode cX12_ring 45 = .ok (.iaload, 1) := by decide +kernel
theorem dX12_ring_46 : decode cX12_ring 46 = .ok (.aload_n 0, 1) := by decide +kernel
theorem dX12_ring_47 : decode cX12_ring 47 = .ok (.getfield 31, 3) := by decide +kernel
theorem dX12_ring_50 : decode cX12_ring 50 = .ok (.iload_n 3, 1) := by decide +kernel
theorem dX12_ring_51 : decode cX12_ring 51 = .ok (.iaload, 1) := by decide +kernel
theorem dX12_ring_52 : decode cX12_ring 52 = .ok (.if_icmp .ne 7, 3) := by decide +kernel
theorem dX12_ring_55 : decode cX12_ring 55 = .ok (.iconst 1, 1) := by decide +kernel
theorem dX12_ring_56 : decode cX12_ring 56 = .ok (.goto 4, 3) := by decide +kernel
theorem dX12_ring_59 : decode cX12_ring 59 = .ok (.iconst 0, 1) := by decide +kernel
theorem dX12_ring_60 : decode cX12_ring 60 = .ok (.istore_n 2, 1) := by decide +kernel
theorem dX12_ring_61 : decode cX12_ring 61 = .ok (.iinc 3 1, 3) := by decide +kernel
theorem dX12_ring_64 : decode cX12_ring 64 = .ok (.goto (-34), 3) := by decide +kernel
theorem dX12_ring_67 : decode cX12_ring 67 = .ok (.iload_n 2, 1) := by decide +kernel
theorem dX12_ring_68 : decode cX12_ring 68 = .ok (.ifCond .eq 5, 3) := by decide +kernel
theorem dX12_ring_71 : decode cX12_ring 71 = .ok (.iload_n 1, 1) := by decide +kernel
theorem dX12_ring_72 : decode cX12_ring 72 = .ok (.ireturn, 1) := by decide +kernel
theorem dX12_ring_73 : decode cX12_ring 73 = .ok (.iinc 1 1, 3) := by decide +kernel
theorem dX12_ring_76 : decode cX12_ring 76 = .ok (.goto (-65), 3) := by decide +kernel
theorem dX12_ring_79 : decode cX12_ring 79 = .ok (.bipush (-9), 2) := by decide +kernel
theorem dX12_ring_81 : decode cX12_ring 81 = .ok (.ireturn, 1) := by decide +kernel
theorem dX12_drift_0 : decode cX12_drift 0 = .ok (.aload_n 0, 1) := by decide +kernel
theorem dX12_drift_1 : decode cX12_drift 1 = .ok (.iconst 0, 1) := by decide +kernel
theorem dX12_drift_2 : decode cX12_drift 2 = .ok (.putfield 59, 3) := by decide +kernel
theorem dX12_drift_5 : decode cX12_drift 5 = .ok (.aload_n 0, 1) := by decide +kernel
theorem dX12_drift_6 : decode cX12_drift 6 = .ok (.invokevirtual 156, 3) := by decide +kernel
theorem dX12_drift_9 : decode cX12_drift 9 = .ok (.iconst 1, 1) := by decide +kernel
theorem dX12_drift_10 : decode cX12_drift 10 = .ok (.istore_n 1, 1) := by decide +kernel
theorem dX12_drift_11 : decode cX12_drift 11 = .ok (.iload_n 1, 1) := by decide +kernel
theorem dX12_drift_12 : decode cX12_drift 12 = .ok (.sipush 400, 3) := by decide +kernel
theorem dX12_drift_15 : decode cX12_drift 15 = .ok (.if_icmp .gt 45, 3) := by decide +kernel
theorem dX12_drift_18 : decode cX12_drift 18 = .ok (.aload_n 0, 1) := by decide +kernel
theorem dX12_drift_19 : decode cX12_drift 19 = .ok (.aload_n 0, 1) := by decide +kernel
theorem dX12_drift_20 : decode cX12_drift 20 = .ok (.getfield 34, 3) := by decide +kernel
theorem dX12_drift_23 : decode cX12_drift 23 = .ok (.invokevirtual 134, 3) := by decide +kernel
theorem dX12_drift_26 : decode cX12_drift 26 = .ok (.ifCond .ne 34, 3) := by decide +kernel
theorem dX12_drift_29 : decode cX12_drift 29 = .ok (.aload_n 0, 1) := by decide +kernel
theorem dX12_drift_30 : decode cX12_drift 30 = .ok (.aload_n 0, 1) := by decide +kernel
theorem dX12_drift_31 : decode cX12_drift 31 = .ok (.getfield 34, 3) := by decide +kernel
theorem dX12_drift_34 : decode cX12_drift 34 = .ok (.invokevirtual 153, 3) := by decide +kernel
theorem dX12_drift_37 : decode cX12_drift 37 = .ok (.aload_n 0, 1) := by decide +kernel
theorem dX12_drift_38 : decode cX12_drift 38 = .ok (.getfield 34, 3) := by decide +kernel
theorem dX12_drift_41 : decode cX12_drift 41 = .ok (.iconst 1, 1) := by decide +kernel
theorem dX12_drift_42 : decode cX12_drift 42 = .ok (.iaload, 1) := by decide +kernel
theorem dX12_drift_43 : decode cX12_drift 43 = .ok (.aload_n 0, 1) := by decide +kernel
theorem dX12_drift_44 : decode cX12_drift 44 = .ok (.getfield 31, 3) := by decide +kernel
theorem dX12_drift_47 : decode cX12_drift 47 = .ok (.iconst 1, 1) := by decide +kernel
theorem dX12_drift_48 : decode cX12_drift 48 = .ok (.iaload, 1) := by decide +kernel
theorem dX12_drift_49 : decode cX12_drift 49 = .ok (.if_icmp .ge 5, 3) := by decide +kernel
theorem dX12_drift_52 : decode cX12_drift 52 = .ok (.iload_n 1, 1) := by decide +kernel
theorem dX12_drift_53 : decode cX12_drift 53 = .ok (.ireturn, 1) := by decide +kernel
theorem dX12_drift_54 : decode cX12_drift 54 = .ok (.iinc 1 1, 3) := by decide +kernel
theorem dX12_drift_57 : decode cX12_drift 57 = .ok (.goto (-46), 3) := by decide +kernel
theorem dX12_drift_60 : decode cX12_drift 60 = .ok (.bipush (-9), 2) := by decide +kernel
theorem dX12_drift_62 : decode cX12_drift 62 = .ok (.ireturn, 1) := by decide +kernel
theorem dX12_endsBy_0 : decode cX12_endsBy 0 = .ok (.aload_n 0, 1) := by decide +kernel
theorem dX12_endsBy_1 : decode cX12_endsBy 1 = .ok (.invokevirtual 156, 3) := by decide +kernel
theorem dX12_endsBy_4 : decode cX12_endsBy 4 = .ok (.iconst 0, 1) := by decide +kernel
theorem dX12_endsBy_5 : decode cX12_endsBy 5 = .ok (.istore_n 3, 1) := by decide +kernel
theorem dX12_endsBy_6 : decode cX12_endsBy 6 = .ok (.iload_n 3, 1) := by decide +kernel
theorem dX12_endsBy_7 : decode cX12_endsBy 7 = .ok (.iload_n 1, 1) := by decide +kernel
theorem dX12_endsBy_8 : decode cX12_endsBy 8 = .ok (.if_icmp .ge 75, 3) := by decide +kernel
theorem dX12_endsBy_11 : decode cX12_endsBy 11 = .ok (.aload_n 0, 1) := by decide +kernel
theorem dX12_endsBy_12 : decode cX12_endsBy 12 = .ok (.getfield 53, 3) := by decide +kernel
theorem dX12_endsBy_15 : decode cX12_endsBy 15 = .ok (.iload_n 3, 1) := by decide +kernel
theorem dX12_endsBy_16 : decode cX12_endsBy 16 = .ok (.iaload, 1) := by decide +kernel
theorem dX12_endsBy_17 : decode cX12_endsBy 17 = .ok (.ifCond .ne 7, 3) := by decide +kernel
theorem dX12_endsBy_20 : decode cX12_endsBy 20 = .ok (.iconst 1, 1) := by decide +kernel
theorem dX12_endsBy_21 : decode cX12_endsBy 21 = .ok (.goto 4, 3) := by decide +kernel
theorem dX12_endsBy_24 : decode cX12_endsBy 24 = .ok (.iconst 0, 1) := by decide +kernel
theorem dX12_endsBy_25 : decode cX12_endsBy 25 = .ok (.istore 4, 2) := by decide +kernel
theorem dX12_endsBy_27 : decode cX12_endsBy 27 = .ok (.aload_n 0, 1) := by decide +kernel
theorem dX12_endsBy_28 : decode cX12_endsBy 28 = .ok (.aload_n 0, 1) := by decide +kernel
theorem dX12_endsBy_29 : decode cX12_endsBy 29 = .ok (.getfield 34, 3) := by decide +kernel
theorem dX12_endsBy_32 : decode cX12_endsBy 32 = .ok (.invokevirtual 134, 3) := by decide +kernel
theorem dX12_endsBy_35 : decode cX12_endsBy 35 = .ok (.ifCond .eq 11, 3) := by decide +kernel
theorem dX12_endsBy_38 : decode cX12_endsBy 38 = .ok (.iload 4, 2) := by decide +kernel
theorem dX12_endsBy_40 : decode cX12_endsBy 40 = .ok (.ifCond .ne 6, 3) := by decide +kernel
theorem dX12_endsBy_43 : decode cX12_endsBy 43 = .ok (.bipush (-9), 2) := by decide +kernel
theorem dX12_endsBy_45 : decode cX12_endsBy 45 = .ok (.ireturn, 1) := by decide +kernel
theorem dX12_endsBy_46 : decode cX12_endsBy 46 = .ok (.iload 4, 2) := by decide +kernel
theorem dX12_endsBy_48 : decode cX12_endsBy 48 = .ok (.ifCond .ne 21, 3) := by decide +kernel
theorem dX12_endsBy_51 : decode cX12_endsBy 51 = .ok (.aload_n 0, 1) := by decide +kernel
theorem dX12_endsBy_52 : decode cX12_endsBy 52 = .ok (.aload_n 0, 1) := by decide +kernel
theorem dX12_endsBy_53 : decode cX12_endsBy 53 = .ok (.getfield 34, 3) := by decide +kernel
theorem dX12_endsBy_56 : decode cX12_endsBy 56 = .ok (.iconst 1, 1) := by decide +kernel
theorem dX12_endsBy_57 : decode cX12_endsBy 57 = .ok (.aload_n 0, 1) := by decide +kernel
theorem dX12_endsBy_58 : decode cX12_endsBy 58 = .ok (.getfield 53, 3) := by decide +kernel
theorem dX12_endsBy_61 : decode cX12_endsBy 61 = .ok (.iload_n 3, 1) := by decide +kernel
theorem dX12_endsBy_62 : decode cX12_endsBy 62 = .ok (.iaload, 1) := by decide +kernel
theorem dX12_endsBy_63 : decode cX12_endsBy 63 = .ok (.iconst 1, 1) := by decide +kernel
theorem dX12_endsBy_64 : decode cX12_endsBy 64 = .ok (.isub, 1) := by decide +kernel
theorem dX12_endsBy_65 : decode cX12_endsBy 65 = .ok (.ishl, 1) := by decide +kernel
theorem dX12_endsBy_66 : decode cX12_endsBy 66 = .ok (.invokevirtual 142, 3) := by decide +kernel
theorem dX12_endsBy_69 : decode cX12_endsBy 69 = .ok (.aload_n 0, 1) := by decide +kernel
theorem dX12_endsBy_70 : decode cX12_endsBy 70 = .ok (.aload_n 0, 1) := by decide +kernel
theorem dX12_endsBy_71 : decode cX12_endsBy 71 = .ok (.getfield 34, 3) := by decide +kernel
theorem dX12_endsBy_74 : decode cX12_endsBy 74 = .ok (.invokevirtual 153, 3) := by decide +kernel
theorem dX12_endsBy_77 : decode cX12_endsBy 77 = .ok (.iinc 3 1, 3) := by decide +kernel
theorem dX12_endsBy_80 : decode cX12_endsBy 80 = .ok (.goto (-74), 3) := by decide +kernel
theorem dX12_endsBy_83 : decode cX12_endsBy 83 = .ok (.aload_n 0, 1) := by decide +kernel
theorem dX12_endsBy_84 : decode cX12_endsBy 84 = .ok (.getfield 34, 3) := by decide +kernel
theorem dX12_endsBy_87 : decode cX12_endsBy 87 = .ok (.iconst 0, 1) := by decide +kernel
theorem dX12_endsBy_88 : decode cX12_endsBy 88 = .ok (.iaload, 1) := by decide +kernel
theorem dX12_endsBy_89 : decode cX12_endsBy 89 = .ok (.aload_n 0, 1) := by decide +kernel
theorem dX12_endsBy_90 : decode cX12_endsBy 90 = .ok (.getfield 31, 3) := by decide +kernel
theorem dX12_endsBy_93 : decode cX12_endsBy 93 = .ok (.iconst 0, 1) := by decide +kernel
theorem dX12_endsBy_94 : decode cX12_endsBy 94 = .ok (.iaload, 1) := by decide +kernel
theorem dX12_endsBy_95 : decode cX12_endsBy 95 = .ok (.isub, 1) := by decide +kernel
theorem dX12_endsBy_96 : decode cX12_endsBy 96 = .ok (.istore_n 3, 1) := by decide +kernel
theorem dX12_endsBy_97 : decode cX12_endsBy 97 = .ok (.aload_n 0, 1) := by decide +kernel
end
section
theorem dX12_endsBy_98 : decode cX12_endsBy 98 = .ok (.aload_n 0, 1) := by decide +kernel
theorem dX12_endsBy_99 : decode cX12_endsBy 99 = .ok (.getfield 34, 3) := by decide +kernel
theorem dX12_endsBy_102 : decode cX12_endsBy 102 = .ok (.invokevirtual 134, 3) := by decide +kernel
theorem dX12_endsBy_105 : decode cX12_endsBy 105 = .ok (.ifCond .eq 7, 3) := by decide +kernel
theorem dX12_endsBy_108 : decode cX12_endsBy 108 = .ok (.iload_n 3, 1) := by decide +kernel
theorem dX12_endsBy_109 : decode cX12_endsBy 109 = .ok (.goto 8, 3) := by decide +kernel
theorem dX12_endsBy_112 : decode cX12_endsBy 112 = .ok (.aload_n 0, 1) := by decide +kernel
theorem dX12_endsBy_113 : decode cX12_endsBy 113 = .ok (.iload_n 3, 1) := by decide +kernel
theorem dX12_endsBy_114 : decode cX12_endsBy 114 = .ok (.invokevirtual 159, 3) := by decide +kernel
theorem dX12_endsBy_117 : decode cX12_endsBy 117 = .ok (.istore 4, 2) := by decide +kernel
theorem dX12_endsBy_119 : decode cX12_endsBy 119 = .ok (.aload_n 0, 1) := by decide +kernel
theorem dX12_endsBy_120 : decode cX12_endsBy 120 = .ok (.aload_n 0, 1) := by decide +kernel
theorem dX12_endsBy_121 : decode cX12_endsBy 121 = .ok (.getfield 34, 3) := by decide +kernel
theorem dX12_endsBy_124 : decode cX12_endsBy 124 = .ok (.iconst 2, 1) := by decide +kernel
theorem dX12_endsBy_125 : decode cX12_endsBy 125 = .ok (.iaload, 1) := by decide +kernel
theorem dX12_endsBy_126 : decode cX12_endsBy 126 = .ok (.invokevirtual 131, 3) := by decide +kernel
theorem dX12_endsBy_129 : decode cX12_endsBy 129 = .ok (.istore 5, 2) := by decide +kernel
theorem dX12_endsBy_131 : decode cX12_endsBy 131 = .ok (.iload 4, 2) := by decide +kernel
theorem dX12_endsBy_133 : decode cX12_endsBy 133 = .ok (.bipush (-9), 2) := by decide +kernel
theorem dX12_endsBy_135 : decode cX12_endsBy 135 = .ok (.if_icmp .eq 25, 3) := by decide +kernel
theorem dX12_endsBy_138 : decode cX12_endsBy 138 = .ok (.iload 5, 2) := by decide +kernel
theorem dX12_endsBy_140 : decode cX12_endsBy 140 = .ok (.bipush (-9), 2) := by decide +kernel
theorem dX12_endsBy_142 : decode cX12_endsBy 142 = .ok (.if_icmp .ne 7, 3) := by decide +kernel
theorem dX12_endsBy_145 : decode cX12_endsBy 145 = .ok (.iconst 0, 1) := by decide +kernel
theorem dX12_endsBy_146 : decode cX12_endsBy 146 = .ok (.goto 5, 3) := by decide +kernel
theorem dX12_endsBy_149 : decode cX12_endsBy 149 = .ok (.iload 5, 2) := by decide +kernel
theorem dX12_endsBy_151 : decode cX12_endsBy 151 = .ok (.iload_n 2, 1) := by decide +kernel
theorem dX12_endsBy_152 : decode cX12_endsBy 152 = .ok (.if_icmp .lt 8, 3) := by decide +kernel
theorem dX12_endsBy_155 : decode cX12_endsBy 155 = .ok (.iload 4, 2) := by decide +kernel
theorem dX12_endsBy_157 : decode cX12_endsBy 157 = .ok (.goto 5, 3) := by decide +kernel
theorem dX12_endsBy_160 : decode cX12_endsBy 160 = .ok (.bipush (-9), 2) := by decide +kernel
theorem dX12_endsBy_162 : decode cX12_endsBy 162 = .ok (.ireturn, 1) := by decide +kernel
theorem dX12_plan_0 : decode cX12_plan 0 = .ok (.aload_n 0, 1) := by decide +kernel
theorem dX12_plan_1 : decode cX12_plan 1 = .ok (.iconst 0, 1) := by decide +kernel
theorem dX12_plan_2 : decode cX12_plan 2 = .ok (.putfield 59, 3) := by decide +kernel
theorem dX12_plan_5 : decode cX12_plan 5 = .ok (.iload_n 1, 1) := by decide +kernel
theorem dX12_plan_6 : decode cX12_plan 6 = .ok (.iconst 1, 1) := by decide +kernel
theorem dX12_plan_7 : decode cX12_plan 7 = .ok (.iconst 3, 1) := by decide +kernel
theorem dX12_plan_8 : decode cX12_plan 8 = .ok (.invokestatic 63, 3) := by decide +kernel
theorem dX12_plan_11 : decode cX12_plan 11 = .ok (.ifCond .eq 22, 3) := by decide +kernel
theorem dX12_plan_14 : decode cX12_plan 14 = .ok (.iload_n 2, 1) := by decide +kernel
theorem dX12_plan_15 : decode cX12_plan 15 = .ok (.iconst 0, 1) := by decide +kernel
theorem dX12_plan_16 : decode cX12_plan 16 = .ok (.bipush 60, 2) := by decide +kernel
theorem dX12_plan_18 : decode cX12_plan 18 = .ok (.invokestatic 63, 3) := by decide +kernel
theorem dX12_plan_21 : decode cX12_plan 21 = .ok (.ifCond .eq 12, 3) := by decide +kernel
theorem dX12_plan_24 : decode cX12_plan 24 = .ok (.iload_n 3, 1) := by decide +kernel
theorem dX12_plan_25 : decode cX12_plan 25 = .ok (.iconst (-1), 1) := by decide +kernel
theorem dX12_plan_26 : decode cX12_plan 26 = .ok (.iconst 2, 1) := by decide +kernel
theorem dX12_plan_27 : decode cX12_plan 27 = .ok (.invokestatic 63, 3) := by decide +kernel
theorem dX12_plan_30 : decode cX12_plan 30 = .ok (.ifCond .ne 5, 3) := by decide +kernel
theorem dX12_plan_33 : decode cX12_plan 33 = .ok (.iconst (-1), 1) := by decide +kernel
theorem dX12_plan_34 : decode cX12_plan 34 = .ok (.ireturn, 1) := by decide +kernel
theorem dX12_plan_35 : decode cX12_plan 35 = .ok (.iconst 1, 1) := by decide +kernel
theorem dX12_plan_36 : decode cX12_plan 36 = .ok (.istore 4, 2) := by decide +kernel
theorem dX12_plan_38 : decode cX12_plan 38 = .ok (.iconst 0, 1) := by decide +kernel
theorem dX12_plan_39 : decode cX12_plan 39 = .ok (.istore 5, 2) := by decide +kernel
theorem dX12_plan_41 : decode cX12_plan 41 = .ok (.iload 5, 2) := by decide +kernel
theorem dX12_plan_43 : decode cX12_plan 43 = .ok (.iload_n 1, 1) := by decide +kernel
theorem dX12_plan_44 : decode cX12_plan 44 = .ok (.if_icmp .ge 22, 3) := by decide +kernel
theorem dX12_plan_47 : decode cX12_plan 47 = .ok (.iload 4, 2) := by decide +kernel
theorem dX12_plan_49 : decode cX12_plan 49 = .ok (.aload_n 0, 1) := by decide +kernel
theorem dX12_plan_50 : decode cX12_plan 50 = .ok (.getfield 13, 3) := by decide +kernel
theorem dX12_plan_53 : decode cX12_plan 53 = .ok (.iconst 0, 1) := by decide +kernel
theorem dX12_plan_54 : decode cX12_plan 54 = .ok (.iaload, 1) := by decide +kernel
theorem dX12_plan_55 : decode cX12_plan 55 = .ok (.iconst 1, 1) := by decide +kernel
theorem dX12_plan_56 : decode cX12_plan 56 = .ok (.iadd, 1) := by decide +kernel
theorem dX12_plan_57 : decode cX12_plan 57 = .ok (.imul, 1) := by decide +kernel
theorem dX12_plan_58 : decode cX12_plan 58 = .ok (.istore 4, 2) := by decide +kernel
theorem dX12_plan_60 : decode cX12_plan 60 = .ok (.iinc 5 1, 3) := by decide +kernel
theorem dX12_plan_63 : decode cX12_plan 63 = .ok (.goto (-22), 3) := by decide +kernel
theorem dX12_plan_66 : decode cX12_plan 66 = .ok (.bipush (-9), 2) := by decide +kernel
theorem dX12_plan_68 : decode cX12_plan 68 = .ok (.istore 5, 2) := by decide +kernel
theorem dX12_plan_70 : decode cX12_plan 70 = .ok (.iconst 0, 1) := by decide +kernel
theorem dX12_plan_71 : decode cX12_plan 71 = .ok (.istore 6, 2) := by decide +kernel
theorem dX12_plan_73 : decode cX12_plan 73 = .ok (.iload 6, 2) := by decide +kernel
theorem dX12_plan_75 : decode cX12_plan 75 = .ok (.iload 4, 2) := by decide +kernel
theorem dX12_plan_77 : decode cX12_plan 77 = .ok (.if_icmp .ge 122, 3) := by decide +kernel
theorem dX12_plan_80 : decode cX12_plan 80 = .ok (.iload 6, 2) := by decide +kernel
theorem dX12_plan_82 : decode cX12_plan 82 = .ok (.istore 7, 2) := by decide +kernel
theorem dX12_plan_84 : decode cX12_plan 84 = .ok (.iload_n 1, 1) := by decide +kernel
theorem dX12_plan_85 : decode cX12_plan 85 = .ok (.iconst 1, 1) := by decide +kernel
theorem dX12_plan_86 : decode cX12_plan 86 = .ok (.isub, 1) := by decide +kernel
theorem dX12_plan_87 : decode cX12_plan 87 = .ok (.istore 8, 2) := by decide +kernel
theorem dX12_plan_89 : decode cX12_plan 89 = .ok (.iload 8, 2) := by decide +kernel
theorem dX12_plan_91 : decode cX12_plan 91 = .ok (.ifCond .lt 40, 3) := by decide +kernel
theorem dX12_plan_94 : decode cX12_plan 94 = .ok (.aload_n 0, 1) := by decide +kernel
theorem dX12_plan_95 : decode cX12_plan 95 = .ok (.getfield 53, 3) := by decide +kernel
theorem dX12_plan_98 : decode cX12_plan 98 = .ok (.iload 8, 2) := by decide +kernel
theorem dX12_plan_100 : decode cX12_plan 100 = .ok (.iload 7, 2) := by decide +kernel
theorem dX12_plan_102 : decode cX12_plan 102 = .ok (.aload_n 0, 1) := by decide +kernel
theorem dX12_plan_103 : decode cX12_plan 103 = .ok (.getfield 13, 3) := by decide +kernel
theorem dX12_plan_106 : decode cX12_plan 106 = .ok (.iconst 0, 1) := by decide +kernel
theorem dX12_plan_107 : decode cX12_plan 107 = .ok (.iaload, 1) := by decide +kernel
theorem dX12_plan_108 : decode cX12_plan 108 = .ok (.iconst 1, 1) := by decide +kernel
theorem dX12_plan_109 : decode cX12_plan 109 = .ok (.iadd, 1) := by decide +kernel
theorem dX12_plan_110 : decode cX12_plan 110 = .ok (.irem, 1) := by decide +kernel
theorem dX12_plan_111 : decode cX12_plan 111 = .ok (.iastore, 1) := by decide +kernel
theorem dX12_plan_112 : decode cX12_plan 112 = .ok (.iload 7, 2) := by decide +kernel
theorem dX12_plan_114 : decode cX12_plan 114 = .ok (.aload_n 0, 1) := by decide +kernel
theorem dX12_plan_115 : decode cX12_plan 115 = .ok (.getfield 13, 3) := by decide +kernel
theorem dX12_plan_118 : decode cX12_plan 118 = .ok (.iconst 0, 1) := by decide +kernel
theorem dX12_plan_119 : decode cX12_plan 119 = .ok (.iaload, 1) := by decide +kernel
theorem dX12_plan_120 : decode cX12_plan 120 = .ok (.iconst 1, 1) := by decide +kernel
theorem dX12_plan_121 : decode cX12_plan 121 = .ok (.iadd, 1) := by decide +kernel
theorem dX12_plan_122 : decode cX12_plan 122 = .ok (.idiv, 1) := by decide +kernel
theorem dX12_plan_123 : decode cX12_plan 123 = .ok (.istore 7, 2) := by decide +kernel
theorem dX12_plan_125 : decode cX12_plan 125 = .ok (.iinc 8 (-1), 3) := by decide +kernel
theorem dX12_plan_128 : decode cX12_plan 128 = .ok (.goto (-39), 3) := by decide +kernel
theorem dX12_plan_131 : decode cX12_plan 131 = .ok (.aload_n 0, 1) := by decide +kernel
theorem dX12_plan_132 : decode cX12_plan 132 = .ok (.iload_n 1, 1) := by decide +kernel
theorem dX12_plan_133 : decode cX12_plan 133 = .ok (.iload_n 2, 1) := by decide +kernel
theorem dX12_plan_134 : decode cX12_plan 134 = .ok (.invokevirtual 162, 3) := by decide +kernel
theorem dX12_plan_137 : decode cX12_plan 137 = .ok (.istore 8, 2) := by decide +kernel
theorem dX12_plan_139 : decode cX12_plan 139 = .ok (.iload 8, 2) := by decide +kernel
theorem dX12_plan_141 : decode cX12_plan 141 = .ok (.bipush (-9), 2) := by decide +kernel
theorem dX12_plan_143 : decode cX12_plan 143 = .ok (.if_icmp .eq 50, 3) := by decide +kernel
theorem dX12_plan_146 : decode cX12_plan 146 = .ok (.iload 5, 2) := by decide +kernel
theorem dX12_plan_148 : decode cX12_plan 148 = .ok (.bipush (-9), 2) := by decide +kernel
theorem dX12_plan_150 : decode cX12_plan 150 = .ok (.if_icmp .eq 10, 3) := by decide +kernel
theorem dX12_plan_153 : decode cX12_plan 153 = .ok (.iload 8, 2) := by decide +kernel
theorem dX12_plan_155 : decode cX12_plan 155 = .ok (.iload 5, 2) := by decide +kernel
theorem dX12_plan_157 : decode cX12_plan 157 = .ok (.if_icmp .ge 36, 3) := by decide +kernel
theorem dX12_plan_160 : decode cX12_plan 160 = .ok (.iload 8, 2) := by decide +kernel
theorem dX12_plan_162 : decode cX12_plan 162 = .ok (.istore 5, 2) := by decide +kernel
theorem dX12_plan_164 : decode cX12_plan 164 = .ok (.iconst 0, 1) := by decide +kernel
theorem dX12_plan_165 : decode cX12_plan 165 = .ok (.istore 9, 2) := by decide +kernel
theorem dX12_plan_167 : decode cX12_plan 167 = .ok (.iload 9, 2) := by decide +kernel
theorem dX12_plan_169 : decode cX12_plan 169 = .ok (.iload_n 1, 1) := by decide +kernel
theorem dX12_plan_170 : decode cX12_plan 170 = .ok (.if_icmp .ge 23, 3) := by decide +kernel
theorem dX12_plan_173 : decode cX12_plan 173 = .ok (.aload_n 0, 1) := by decide +kernel
theorem dX12_plan_174 : decode cX12_plan 174 = .ok (.getfield 56, 3) := by decide +kernel
theorem dX12_plan_177 : decode cX12_plan 177 = .ok (.iload 9, 2) := by decide +kernel
theorem dX12_plan_179 : decode cX12_plan 179 = .ok (.aload_n 0, 1) := by decide +kernel
theorem dX12_plan_180 : decode cX12_plan 180 = .ok (.getfield 53, 3) := by decide +kernel
theorem dX12_plan_183 : decode cX12_plan 183 = .ok (.iload 9, 2) := by decide +kernel
theorem dX12_plan_185 : decode cX12_plan 185 = .ok (.iaload, 1) := by decide +kernel
theorem dX12_plan_186 : decode cX12_plan 186 = .ok (.iastore, 1) := by decide +kernel
theorem dX12_plan_187 : decode cX12_plan 187 = .ok (.iinc 9 1, 3) := by decide +kernel
theorem dX12_plan_190 : decode cX12_plan 190 = .ok (.goto (-23), 3) := by decide +kernel
theorem dX12_plan_193 : decode cX12_plan 193 = .ok (.iinc 6 1, 3) := by decide +kernel
theorem dX12_plan_196 : decode cX12_plan 196 = .ok (.goto (-123), 3) := by decide +kernel
theorem dX12_plan_199 : decode cX12_plan 199 = .ok (.iload_n 3, 1) := by decide +kernel
theorem dX12_plan_200 : decode cX12_plan 200 = .ok (.iconst (-1), 1) := by decide +kernel
theorem dX12_plan_201 : decode cX12_plan 201 = .ok (.if_icmp .eq 10, 3) := by decide +kernel
theorem dX12_plan_204 : decode cX12_plan 204 = .ok (.iload 5, 2) := by decide +kernel
theorem dX12_plan_206 : decode cX12_plan 206 = .ok (.bipush (-9), 2) := by decide +kernel
theorem dX12_plan_208 : decode cX12_plan 208 = .ok (.if_icmp .ne 6, 3) := by decide +kernel
theorem dX12_plan_211 : decode cX12_plan 211 = .ok (.iload 5, 2) := by decide +kernel
theorem dX12_plan_213 : decode cX12_plan 213 = .ok (.ireturn, 1) := by decide +kernel
theorem dX12_plan_214 : decode cX12_plan 214 = .ok (.iload_n 3, 1) := by decide +kernel
theorem dX12_plan_215 : decode cX12_plan 215 = .ok (.iload_n 1, 1) := by decide +kernel
theorem dX12_plan_216 : decode cX12_plan 216 = .ok (.if_icmp .lt 8, 3) := by decide +kernel
theorem dX12_plan_219 : decode cX12_plan 219 = .ok (.bipush (-9), 2) := by decide +kernel
theorem dX12_plan_221 : decode cX12_plan 221 = .ok (.goto 25, 3) := by decide +kernel
theorem dX12_plan_224 : decode cX12_plan 224 = .ok (.aload_n 0, 1) := by decide +kernel
theorem dX12_plan_225 : decode cX12_plan 225 = .ok (.getfield 56, 3) := by decide +kernel
theorem dX12_plan_228 : decode cX12_plan 228 = .ok (.iload_n 3, 1) := by decide +kernel
theorem dX12_plan_229 : decode cX12_plan 229 = .ok (.iaload, 1) := by decide +kernel
theorem dX12_plan_230 : decode cX12_plan 230 = .ok (.ifCond .ne 8, 3) := by decide +kernel
theorem dX12_plan_233 : decode cX12_plan 233 = .ok (.bipush (-5), 2) := by decide +kernel
theorem dX12_plan_235 : decode cX12_plan 235 = .ok (.goto 11, 3) := by decide +kernel
theorem dX12_plan_238 : decode cX12_plan 238 = .ok (.aload_n 0, 1) := by decide +kernel
theorem dX12_plan_239 : decode cX12_plan 239 = .ok (.getfield 56, 3) := by decide +kernel
theorem dX12_plan_242 : decode cX12_plan 242 = .ok (.iload_n 3, 1) := by decide +kernel
theorem dX12_plan_243 : decode cX12_plan 243 = .ok (.iaload, 1) := by decide +kernel
theorem dX12_plan_244 : decode cX12_plan 244 = .ok (.iconst 1, 1) := by decide +kernel
theorem dX12_plan_245 : decode cX12_plan 245 = .ok (.isub, 1) := by decide +kernel
theorem dX12_plan_246 : decode cX12_plan 246 = .ok (.ireturn, 1) := by decide +kernel
theorem dX12_best_0 : decode cX12_best 0 = .ok (.aload_n 0, 1) := by decide +kernel
theorem dX12_best_1 : decode cX12_best 1 = .ok (.iconst 0, 1) := by decide +kernel
theorem dX12_best_2 : decode cX12_best 2 = .ok (.putfield 59, 3) := by decide +kernel
theorem dX12_best_5 : decode cX12_best 5 = .ok (.bipush (-9), 2) := by decide +kernel
theorem dX12_best_7 : decode cX12_best 7 = .ok (.istore_n 1, 1) := by decide +kernel
theorem dX12_best_8 : decode cX12_best 8 = .ok (.bipush (-9), 2) := by decide +kernel
theorem dX12_best_10 : decode cX12_best 10 = .ok (.istore_n 2, 1) := by decide +kernel
theorem dX12_best_11 : decode cX12_best 11 = .ok (.iconst 0, 1) := by decide +kernel
theorem dX12_best_12 : decode cX12_best 12 = .ok (.istore_n 3, 1) := by decide +kernel
theorem dX12_best_13 : decode cX12_best 13 = .ok (.iload_n 3, 1) := by decide +kernel
theorem dX12_best_14 : decode cX12_best 14 = .ok (.aload_n 0, 1) := by decide +kernel
theorem dX12_best_15 : decode cX12_best 15 = .ok (.getfield 13, 3) := by decide +kernel
theorem dX12_best_18 : decode cX12_best 18 = .ok (.iconst 0, 1) := by decide +kernel
theorem dX12_best_19 : decode cX12_best 19 = .ok (.iaload, 1) := by decide +kernel
theorem dX12_best_20 : decode cX12_best 20 = .ok (.if_icmp .ge 66, 3) := by decide +kernel
theorem dX12_best_23 : decode cX12_best 23 = .ok (.aload_n 0, 1) := by decide +kernel
theorem dX12_best_24 : decode cX12_best 24 = .ok (.aload_n 0, 1) := by decide +kernel
theorem dX12_best_25 : decode cX12_best 25 = .ok (.getfield 31, 3) := by decide +kernel
theorem dX12_best_28 : decode cX12_best 28 = .ok (.invokevirtual 134, 3) := by decide +kernel
theorem dX12_best_31 : decode cX12_best 31 = .ok (.ifCond .ne 55, 3) := by decide +kernel
theorem dX12_best_34 : decode cX12_best 34 = .ok (.aload_n 0, 1) := by decide +kernel
theorem dX12_best_35 : decode cX12_best 35 = .ok (.invokevirtual 156, 3) := by decide +kernel
theorem dX12_best_38 : decode cX12_best 38 = .ok (.aload_n 0, 1) := by decide +kernel
theorem dX12_best_39 : decode cX12_best 39 = .ok (.aload_n 0, 1) := by decide +kernel
theorem dX12_best_40 : decode cX12_best 40 = .ok (.getfield 34, 3) := by decide +kernel
theorem dX12_best_43 : decode cX12_best 43 = .ok (.iconst 1, 1) := by decide +kernel
theorem dX12_best_44 : decode cX12_best 44 = .ok (.iload_n 3, 1) := by decide +kernel
theorem dX12_best_45 : decode cX12_best 45 = .ok (.ishl, 1) := by decide +kernel
theorem dX12_best_46 : decode cX12_best 46 = .ok (.invokevirtual 142, 3) := by decide +kernel
theorem dX12_best_49 : decode cX12_best 49 = .ok (.aload_n 0, 1) := by decide +kernel
theorem dX12_best_50 : decode cX12_best 50 = .ok (.iconst 0, 1) := by decide +kernel
theorem dX12_best_51 : decode cX12_best 51 = .ok (.invokevirtual 159, 3) := by decide +kernel
theorem dX12_best_54 : decode cX12_best 54 = .ok (.istore 4, 2) := by decide +kernel
theorem dX12_best_56 : decode cX12_best 56 = .ok (.iload 4, 2) := by decide +kernel
theorem dX12_best_58 : decode cX12_best 58 = .ok (.bipush (-9), 2) := by decide +kernel
theorem dX12_best_60 : decode cX12_best 60 = .ok (.if_icmp .eq 20, 3) := by decide +kernel
theorem dX12_best_63 : decode cX12_best 63 = .ok (.iload_n 2, 1) := by decide +kernel
theorem dX12_best_64 : decode cX12_best 64 = .ok (.bipush (-9), 2) := by decide +kernel
theorem dX12_best_66 : decode cX12_best 66 = .ok (.if_icmp .eq 9, 3) := by decide +kernel
theorem dX12_best_69 : decode cX12_best 69 = .ok (.iload 4, 2) := by decide +kernel
theorem dX12_best_71 : decode cX12_best 71 = .ok (.iload_n 2, 1) := by decide +kernel
theorem dX12_best_72 : decode cX12_best 72 = .ok (.if_icmp .ge 8, 3) := by decide +kernel
theorem dX12_best_75 : decode cX12_best 75 = .ok (.iload_n 3, 1) := by decide +kernel
theorem dX12_best_76 : decode cX12_best 76 = .ok (.istore_n 1, 1) := by decide +kernel
theorem dX12_best_77 : decode cX12_best 77 = .ok (.iload 4, 2) := by decide +kernel
theorem dX12_best_79 : decode cX12_best 79 = .ok (.istore_n 2, 1) := by decide +kernel
theorem dX12_best_80 : decode cX12_best 80 = .ok (.iinc 3 1, 3) := by decide +kernel
theorem dX12_best_83 : decode cX12_best 83 = .ok (.goto (-70), 3) := by decide +kernel
theorem dX12_best_86 : decode cX12_best 86 = .ok (.iload_n 1, 1) := by decide +kernel
theorem dX12_best_87 : decode cX12_best 87 = .ok (.ireturn, 1) := by decide +kernel
theorem dX12_mute_0 : decode cX12_mute 0 = .ok (.aload_n 0, 1) := by decide +kernel
theorem dX12_mute_1 : decode cX12_mute 1 = .ok (.iconst 0, 1) := by decide +kernel
theorem dX12_mute_2 : decode cX12_mute 2 = .ok (.putfield 59, 3) := by decide +kernel
theorem dX12_mute_5 : decode cX12_mute 5 = .ok (.iload_n 1, 1) := by decide +kernel
theorem dX12_mute_6 : decode cX12_mute 6 = .ok (.iconst 0, 1) := by decide +kernel
theorem dX12_mute_7 : decode cX12_mute 7 = .ok (.sipush 200, 3) := by decide +kernel
theorem dX12_mute_10 : decode cX12_mute 10 = .ok (.invokestatic 63, 3) := by decide +kernel
theorem dX12_mute_13 : decode cX12_mute 13 = .ok (.ifCond .ne 5, 3) := by decide +kernel
theorem dX12_mute_16 : decode cX12_mute 16 = .ok (.iconst (-1), 1) := by decide +kernel
theorem dX12_mute_17 : decode cX12_mute 17 = .ok (.ireturn, 1) := by decide +kernel
theorem dX12_mute_18 : decode cX12_mute 18 = .ok (.aload_n 0, 1) := by decide +kernel
theorem dX12_mute_19 : decode cX12_mute 19 = .ok (.invokevirtual 156, 3) := by decide +kernel
theorem dX12_mute_22 : decode cX12_mute 22 = .ok (.aload_n 0, 1) := by decide +kernel
theorem dX12_mute_23 : decode cX12_mute 23 = .ok (.getfield 34, 3) := by decide +kernel
theorem dX12_mute_26 : decode cX12_mute 26 = .ok (.iconst 2, 1) := by decide +kernel
theorem dX12_mute_27 : decode cX12_mute 27 = .ok (.iaload, 1) := by decide +kernel
theorem dX12_mute_28 : decode cX12_mute 28 = .ok (.istore_n 2, 1) := by decide +kernel
theorem dX12_mute_29 : decode cX12_mute 29 = .ok (.iconst 0, 1) := by decide +kernel
theorem dX12_mute_30 : decode cX12_mute 30 = .ok (.istore_n 3, 1) := by decide +kernel
theorem dX12_mute_31 : decode cX12_mute 31 = .ok (.iload_n 3, 1) := by decide +kernel
theorem dX12_mute_32 : decode cX12_mute 32 = .ok (.iload_n 1, 1) := by decide +kernel
theorem dX12_mute_33 : decode cX12_mute 33 = .ok (.if_icmp .ge 26, 3) := by decide +kernel
theorem dX12_mute_36 : decode cX12_mute 36 = .ok (.aload_n 0, 1) := by decide +kernel
theorem dX12_mute_37 : decode cX12_mute 37 = .ok (.aload_n 0, 1) := by decide +kernel
theorem dX12_mute_38 : decode cX12_mute 38 = .ok (.getfield 34, 3) := by decide +kernel
theorem dX12_mute_41 : decode cX12_mute 41 = .ok (.invokevirtual 153, 3) := by decide +kernel
theorem dX12_mute_44 : decode cX12_mute 44 = .ok (.iload_n 2, 1) := by decide +kernel
theorem dX12_mute_45 : decode cX12_mute 45 = .ok (.aload_n 0, 1) := by decide +kernel
theorem dX12_mute_46 : decode cX12_mute 46 = .ok (.getfield 34, 3) := by decide +kernel
theorem dX12_mute_49 : decode cX12_mute 49 = .ok (.iconst 2, 1) := by decide +kernel
theorem dX12_mute_50 : decode cX12_mute 50 = .ok (.iaload, 1) := by decide +kernel
theorem dX12_mute_51 : decode cX12_mute 51 = .ok (.ior, 1) := by decide +kernel
theorem dX12_mute_52 : decode cX12_mute 52 = .ok (.istore_n 2, 1) := by decide +kernel
theorem dX12_mute_53 : decode cX12_mute 53 = .ok (.iinc 3 1, 3) := by decide +kernel
theorem dX12_mute_56 : decode cX12_mute 56 = .ok (.goto (-25), 3) := by decide +kernel
theorem dX12_mute_59 : decode cX12_mute 59 = .ok (.iconst 1, 1) := by decide +kernel
theorem dX12_mute_60 : decode cX12_mute 60 = .ok (.aload_n 0, 1) := by decide +kernel
theorem dX12_mute_61 : decode cX12_mute 61 = .ok (.getfield 13, 3) := by decide +kernel
theorem dX12_mute_64 : decode cX12_mute 64 = .ok (.iconst 0, 1) := by decide +kernel
theorem dX12_mute_65 : decode cX12_mute 65 = .ok (.iaload, 1) := by decide +kernel
theorem dX12_mute_66 : decode cX12_mute 66 = .ok (.ishl, 1) := by decide +kernel
theorem dX12_mute_67 : decode cX12_mute 67 = .ok (.iconst 1, 1) := by decide +kernel
theorem dX12_mute_68 : decode cX12_mute 68 = .ok (.isub, 1) := by decide +kernel
theorem dX12_mute_69 : decode cX12_mute 69 = .ok (.iload_n 2, 1) := by decide +kernel
theorem dX12_mute_70 : decode cX12_mute 70 = .ok (.iconst (-1), 1) := by decide +kernel
theorem dX12_mute_71 : decode cX12_mute 71 = .ok (.ixor, 1) := by decide +kernel
theorem dX12_mute_72 : decode cX12_mute 72 = .ok (.iand, 1) := by decide +kernel
theorem dX12_mute_73 : decode cX12_mute 73 = .ok (.ireturn, 1) := by decide +kernel
theorem dX12_seen_0 : decode cX12_seen 0 = .ok (.aload_n 0, 1) := by decide +kernel
theorem dX12_seen_1 : decode cX12_seen 1 = .ok (.iconst 0, 1) := by decide +kernel
theorem dX12_seen_2 : decode cX12_seen 2 = .ok (.putfield 59, 3) := by decide +kernel
theorem dX12_seen_5 : decode cX12_seen 5 = .ok (.iload_n 1, 1) := by decide +kernel
theorem dX12_seen_6 : decode cX12_seen 6 = .ok (.iconst 0, 1) := by decide +kernel
theorem dX12_seen_7 : decode cX12_seen 7 = .ok (.bipush 60, 2) := by decide +kernel
theorem dX12_seen_9 : decode cX12_seen 9 = .ok (.invokestatic 63, 3) := by decide +kernel
theorem dX12_seen_12 : decode cX12_seen 12 = .ok (.ifCond .eq 21, 3) := by decide +kernel
theorem dX12_seen_15 : decode cX12_seen 15 = .ok (.iload_n 2, 1) := by decide +kernel
theorem dX12_seen_16 : decode cX12_seen 16 = .ok (.iconst 0, 1) := by decide +kernel
theorem dX12_seen_17 : decode cX12_seen 17 = .ok (.iconst 1, 1) := by decide +kernel
theorem dX12_seen_18 : decode cX12_seen 18 = .ok (.aload_n 0, 1) := by decide +kernel
theorem dX12_seen_19 : decode cX12_seen 19 = .ok (.getfield 13, 3) := by decide +kernel
theorem dX12_seen_22 : decode cX12_seen 22 = .ok (.iconst 0, 1) := by decide +kernel
theorem dX12_seen_23 : decode cX12_seen 23 = .ok (.iaload, 1) := by decide +kernel
theorem dX12_seen_24 : decode cX12_seen 24 = .ok (.ishl, 1) := by decide +kernel
theorem dX12_seen_25 : decode cX12_seen 25 = .ok (.iconst 1, 1) := by decide +kernel
theorem dX12_seen_26 : decode cX12_seen 26 = .ok (.isub, 1) := by decide +kernel
theorem dX12_seen_27 : decode cX12_seen 27 = .ok (.invokestatic 63, 3) := by decide +kernel
theorem dX12_seen_30 : decode cX12_seen 30 = .ok (.ifCond .ne 5, 3) := by decide +kernel
theorem dX12_seen_33 : decode cX12_seen 33 = .ok (.iconst (-1), 1) := by decide +kernel
theorem dX12_seen_34 : decode cX12_seen 34 = .ok (.ireturn, 1) := by decide +kernel
theorem dX12_seen_35 : decode cX12_seen 35 = .ok (.aload_n 0, 1) := by decide +kernel
theorem dX12_seen_36 : decode cX12_seen 36 = .ok (.getfield 118, 3) := by decide +kernel
theorem dX12_seen_39 : decode cX12_seen 39 = .ok (.iconst 5, 1) := by decide +kernel
theorem dX12_seen_40 : decode cX12_seen 40 = .ok (.if_icmp .ne 6, 3) := by decide +kernel
theorem dX12_seen_43 : decode cX12_seen 43 = .ok (.bipush (-3), 2) := by decide +kernel
theorem dX12_seen_45 : decode cX12_seen 45 = .ok (.ireturn, 1) := by decide +kernel
theorem dX12_seen_46 : decode cX12_seen 46 = .ok (.aload_n 0, 1) := by decide +kernel
theorem dX12_seen_47 : decode cX12_seen 47 = .ok (.getfield 47, 3) := by decide +kernel
theorem dX12_seen_50 : decode cX12_seen 50 = .ok (.aload_n 0, 1) := by decide +kernel
theorem dX12_seen_51 : decode cX12_seen 51 = .ok (.getfield 118, 3) := by decide +kernel
theorem dX12_seen_54 : decode cX12_seen 54 = .ok (.iload_n 1, 1) := by decide +kernel
theorem dX12_seen_55 : decode cX12_seen 55 = .ok (.iastore, 1) := by decide +kernel
theorem dX12_seen_56 : decode cX12_seen 56 = .ok (.aload_n 0, 1) := by decide +kernel
theorem dX12_seen_57 : decode cX12_seen 57 = .ok (.getfield 50, 3) := by decide +kernel
theorem dX12_seen_60 : decode cX12_seen 60 = .ok (.aload_n 0, 1) := by decide +kernel
theorem dX12_seen_61 : decode cX12_seen 61 = .ok (.getfield 118, 3) := by decide +kernel
theorem dX12_seen_64 : decode cX12_seen 64 = .ok (.iload_n 2, 1) := by decide +kernel
theorem dX12_seen_65 : decode cX12_seen 65 = .ok (.iastore, 1) := by decide +kernel
theorem dX12_seen_66 : decode cX12_seen 66 = .ok (.aload_n 0, 1) := by decide +kernel
theorem dX12_seen_67 : decode cX12_seen 67 = .ok (.dup, 1) := by decide +kernel
theorem dX12_seen_68 : decode cX12_seen 68 = .ok (.getfield 118, 3) := by decide +kernel
theorem dX12_seen_71 : decode cX12_seen 71 = .ok (.iconst 1, 1) := by decide +kernel
theorem dX12_seen_72 : decode cX12_seen 72 = .ok (.iadd, 1) := by decide +kernel
theorem dX12_seen_73 : decode cX12_seen 73 = .ok (.putfield 118, 3) := by decide +kernel
theorem dX12_seen_76 : decode cX12_seen 76 = .ok (.aload_n 0, 1) := by decide +kernel
theorem dX12_seen_77 : decode cX12_seen 77 = .ok (.getfield 118, 3) := by decide +kernel
theorem dX12_seen_80 : decode cX12_seen 80 = .ok (.ireturn, 1) := by decide +kernel
theorem dX12_forget_0 : decode cX12_forget 0 = .ok (.aload_n 0, 1) := by decide +kernel
theorem dX12_forget_1 : decode cX12_forget 1 = .ok (.iconst 0, 1) := by decide +kernel
theorem dX12_forget_2 : decode cX12_forget 2 = .ok (.putfield 59, 3) := by decide +kernel
theorem dX12_forget_5 : decode cX12_forget 5 = .ok (.aload_n 0, 1) := by decide +kernel
theorem dX12_forget_6 : decode cX12_forget 6 = .ok (.getfield 118, 3) := by decide +kernel
theorem dX12_forget_9 : decode cX12_forget 9 = .ok (.istore_n 1, 1) := by decide +kernel
theorem dX12_forget_10 : decode cX12_forget 10 = .ok (.aload_n 0, 1) := by decide +kernel
theorem dX12_forget_11 : decode cX12_forget 11 = .ok (.iconst 0, 1) := by decide +kernel
theorem dX12_forget_12 : decode cX12_forget 12 = .ok (.putfield 118, 3) := by decide +kernel
theorem dX12_forget_15 : decode cX12_forget 15 = .ok (.iload_n 1, 1) := by decide +kernel
theorem dX12_forget_16 : decode cX12_forget 16 = .ok (.ireturn, 1) := by decide +kernel
theorem dX12_isAsSeen_0 : decode cX12_isAsSeen 0 = .ok (.iconst 1, 1) := by decide +kernel
theorem dX12_isAsSeen_1 : decode cX12_isAsSeen 1 = .ok (.istore_n 1, 1) := by decide +kernel
theorem dX12_isAsSeen_2 : decode cX12_isAsSeen 2 = .ok (.iconst 0, 1) := by decide +kernel
theorem dX12_isAsSeen_3 : decode cX12_isAsSeen 3 = .ok (.istore_n 2, 1) := by decide +kernel
theorem dX12_isAsSeen_4 : decode cX12_isAsSeen 4 = .ok (.iload_n 2, 1) := by decide +kernel
theorem dX12_isAsSeen_5 : decode cX12_isAsSeen 5 = .ok (.bipush 60, 2) := by decide +kernel
theorem dX12_isAsSeen_7 : decode cX12_isAsSeen 7 = .ok (.if_icmp .gt 68, 3) := by decide +kernel
theorem dX12_isAsSeen_10 : decode cX12_isAsSeen 10 = .ok (.iconst 0, 1) := by decide +kernel
theorem dX12_isAsSeen_11 : decode cX12_isAsSeen 11 = .ok (.istore_n 3, 1) := by decide +kernel
theorem dX12_isAsSeen_12 : decode cX12_isAsSeen 12 = .ok (.iload_n 3, 1) := by decide +kernel
theorem dX12_isAsSeen_13 : decode cX12_isAsSeen 13 = .ok (.aload_n 0, 1) := by decide +kernel
theorem dX12_isAsSeen_14 : decode cX12_isAsSeen 14 = .ok (.getfield 118, 3) := by decide +kernel
theorem dX12_isAsSeen_17 : decode cX12_isAsSeen 17 = .ok (.if_icmp .ge 44, 3) := by decide +kernel
theorem dX12_isAsSeen_20 : decode cX12_isAsSeen 20 = .ok (.iload_n 1, 1) := by decide +kernel
theorem dX12_isAsSeen_21 : decode cX12_isAsSeen 21 = .ok (.ifCond .eq 32, 3) := by decide +kernel
theorem dX12_isAsSeen_24 : decode cX12_isAsSeen 24 = .ok (.aload_n 0, 1) := by decide +kernel
theorem dX12_isAsSeen_25 : decode cX12_isAsSeen 25 = .ok (.getfield 47, 3) := by decide +kernel
theorem dX12_isAsSeen_28 : decode cX12_isAsSeen 28 = .ok (.iload_n 3, 1) := by decide +kernel
theorem dX12_isAsSeen_29 : decode cX12_isAsSeen 29 = .ok (.iaload, 1) := by decide +kernel
theorem dX12_isAsSeen_30 : decode cX12_isAsSeen 30 = .ok (.iload_n 2, 1) := by decide +kernel
theorem dX12_isAsSeen_31 : decode cX12_isAsSeen 31 = .ok (.if_icmp .ne 18, 3) := by decide +kernel
theorem dX12_isAsSeen_34 : decode cX12_isAsSeen 34 = .ok (.aload_n 0, 1) := by decide +kernel
theorem dX12_isAsSeen_35 : decode cX12_isAsSeen 35 = .ok (.getfield 50, 3) := by decide +kernel
theorem dX12_isAsSeen_38 : decode cX12_isAsSeen 38 = .ok (.iload_n 3, 1) := by decide +kernel
theorem dX12_isAsSeen_39 : decode cX12_isAsSeen 39 = .ok (.iaload, 1) := by decide +kernel
theorem dX12_isAsSeen_40 : decode cX12_isAsSeen 40 = .ok (.aload_n 0, 1) := by decide +kernel
theorem dX12_isAsSeen_41 : decode cX12_isAsSeen 41 = .ok (.getfield 34, 3) := by decide +kernel
theorem dX12_isAsSeen_44 : decode cX12_isAsSeen 44 = .ok (.iconst 2, 1) := by decide +kernel
theorem dX12_isAsSeen_45 : decode cX12_isAsSeen 45 = .ok (.iaload, 1) := by decide +kernel
theorem dX12_isAsSeen_46 : decode cX12_isAsSeen 46 = .ok (.if_icmp .ne 7, 3) := by decide +kernel
theorem dX12_isAsSeen_49 : decode cX12_isAsSeen 49 = .ok (.iconst 1, 1) := by decide +kernel
theorem dX12_isAsSeen_50 : decode cX12_isAsSeen 50 = .ok (.goto 4, 3) := by decide +kernel
theorem dX12_isAsSeen_53 : decode cX12_isAsSeen 53 = .ok (.iconst 0, 1) := by decide +kernel
theorem dX12_isAsSeen_54 : decode cX12_isAsSeen 54 = .ok (.istore_n 1, 1) := by decide +kernel
theorem dX12_isAsSeen_55 : decode cX12_isAsSeen 55 = .ok (.iinc 3 1, 3) := by decide +kernel
theorem dX12_isAsSeen_58 : decode cX12_isAsSeen 58 = .ok (.goto (-46), 3) := by decide +kernel
theorem dX12_isAsSeen_61 : decode cX12_isAsSeen 61 = .ok (.aload_n 0, 1) := by decide +kernel
theorem dX12_isAsSeen_62 : decode cX12_isAsSeen 62 = .ok (.aload_n 0, 1) := by decide +kernel
theorem dX12_isAsSeen_63 : decode cX12_isAsSeen 63 = .ok (.getfield 34, 3) := by decide +kernel
theorem dX12_isAsSeen_66 : decode cX12_isAsSeen 66 = .ok (.invokevirtual 153, 3) := by decide +kernel
theorem dX12_isAsSeen_69 : decode cX12_isAsSeen 69 = .ok (.iinc 2 1, 3) := by decide +kernel
theorem dX12_isAsSeen_72 : decode cX12_isAsSeen 72 = .ok (.goto (-68), 3) := by decide +kernel
theorem dX12_isAsSeen_75 : decode cX12_isAsSeen 75 = .ok (.iload_n 1, 1) := by decide +kernel
theorem dX12_isAsSeen_76 : decode cX12_isAsSeen 76 = .ok (.ireturn, 1) := by decide +kernel
theorem dX12_who_0 : decode cX12_who 0 = .ok (.aload_n 0, 1) := by decide +kernel
theorem dX12_who_1 : decode cX12_who 1 = .ok (.iconst 0, 1) := by decide +kernel
theorem dX12_who_2 : decode cX12_who 2 = .ok (.putfield 59, 3) := by decide +kernel
theorem dX12_who_5 : decode cX12_who 5 = .ok (.aload_n 0, 1) := by decide +kernel
theorem dX12_who_6 : decode cX12_who 6 = .ok (.invokevirtual 156, 3) := by decide +kernel
theorem dX12_who_9 : decode cX12_who 9 = .ok (.aload_n 0, 1) := by decide +kernel
theorem dX12_who_10 : decode cX12_who 10 = .ok (.invokevirtual 165, 3) := by decide +kernel
theorem dX12_who_13 : decode cX12_who 13 = .ok (.ifCond .eq 8, 3) := by decide +kernel
theorem dX12_who_16 : decode cX12_who 16 = .ok (.bipush 64, 2) := by decide +kernel
theorem dX12_who_18 : decode cX12_who 18 = .ok (.goto 4, 3) := by decide +kernel
theorem dX12_who_21 : decode cX12_who 21 = .ok (.iconst 0, 1) := by decide +kernel
theorem dX12_who_22 : decode cX12_who 22 = .ok (.istore_n 1, 1) := by decide +kernel
theorem dX12_who_23 : decode cX12_who 23 = .ok (.iconst 0, 1) := by decide +kernel
theorem dX12_who_24 : decode cX12_who 24 = .ok (.istore_n 2, 1) := by decide +kernel
theorem dX12_who_25 : decode cX12_who 25 = .ok (.iload_n 2, 1) := by decide +kernel
theorem dX12_who_26 : decode cX12_who 26 = .ok (.aload_n 0, 1) := by decide +kernel
theorem dX12_who_27 : decode cX12_who 27 = .ok (.getfield 13, 3) := by decide +kernel
theorem dX12_who_30 : decode cX12_who 30 = .ok (.iconst 0, 1) := by decide +kernel
theorem dX12_who_31 : decode cX12_who 31 = .ok (.iaload, 1) := by decide +kernel
theorem dX12_who_32 : decode cX12_who 32 = .ok (.if_icmp .ge 52, 3) := by decide +kernel
theorem dX12_who_35 : decode cX12_who 35 = .ok (.aload_n 0, 1) := by decide +kernel
theorem dX12_who_36 : decode cX12_who 36 = .ok (.aload_n 0, 1) := by decide +kernel
theorem dX12_who_37 : decode cX12_who 37 = .ok (.getfield 31, 3) := by decide +kernel
theorem dX12_who_40 : decode cX12_who 40 = .ok (.invokevirtual 134, 3) := by decide +kernel
theorem dX12_who_43 : decode cX12_who 43 = .ok (.ifCond .ne 41, 3) := by decide +kernel
theorem dX12_who_46 : decode cX12_who 46 = .ok (.aload_n 0, 1) := by decide +kernel
theorem dX12_who_47 : decode cX12_who 47 = .ok (.invokevirtual 156, 3) := by decide +kernel
theorem dX12_who_50 : decode cX12_who 50 = .ok (.aload_n 0, 1) := by decide +kernel
theorem dX12_who_51 : decode cX12_who 51 = .ok (.aload_n 0, 1) := by decide +kernel
theorem dX12_who_52 : decode cX12_who 52 = .ok (.getfield 34, 3) := by decide +kernel
theorem dX12_who_55 : decode cX12_who 55 = .ok (.iconst 1, 1) := by decide +kernel
theorem dX12_who_56 : decode cX12_who 56 = .ok (.iload_n 2, 1) := by decide +kernel
theorem dX12_who_57 : decode cX12_who 57 = .ok (.ishl, 1) := by decide +kernel
theorem dX12_who_58 : decode cX12_who 58 = .ok (.invokevirtual 142, 3) := by decide +kernel
theorem dX12_who_61 : decode cX12_who 61 = .ok (.iload_n 1, 1) := by decide +kernel
theorem dX12_who_62 : decode cX12_who 62 = .ok (.aload_n 0, 1) := by decide +kernel
theorem dX12_who_63 : decode cX12_who 63 = .ok (.invokevirtual 165, 3) := by decide +kernel
theorem dX12_who_66 : decode cX12_who 66 = .ok (.ifCond .eq 9, 3) := by decide +kernel
theorem dX12_who_69 : decode cX12_who 69 = .ok (.iconst 1, 1) := by decide +kernel
theorem dX12_who_70 : decode cX12_who 70 = .ok (.iload_n 2, 1) := by decide +kernel
theorem dX12_who_71 : decode cX12_who 71 = .ok (.ishl, 1) := by decide +kernel
theorem dX12_who_72 : decode cX12_who 72 = .ok (.goto 4, 3) := by decide +kernel
theorem dX12_who_75 : decode cX12_who 75 = .ok (.iconst 0, 1) := by decide +kernel
theorem dX12_who_76 : decode cX12_who 76 = .ok (.ior, 1) := by decide +kernel
theorem dX12_who_77 : decode cX12_who 77 = .ok (.istore_n 1, 1) := by decide +kernel
theorem dX12_who_78 : decode cX12_who 78 = .ok (.iinc 2 1, 3) := by decide +kernel
theorem dX12_who_81 : decode cX12_who 81 = .ok (.goto (-56), 3) := by decide +kernel
theorem dX12_who_84 : decode cX12_who 84 = .ok (.iload_n 1, 1) := by decide +kernel
theorem dX12_who_85 : decode cX12_who 85 = .ok (.ireturn, 1) := by decide +kernel
theorem dX12_power_0 : decode cX12_power 0 = .ok (.iconst 1, 1) := by decide +kernel
theorem dX12_power_1 : decode cX12_power 1 = .ok (.istore_n 2, 1) := by decide +kernel
theorem dX12_power_2 : decode cX12_power 2 = .ok (.iconst 0, 1) := by decide +kernel
theorem dX12_power_3 : decode cX12_power 3 = .ok (.istore_n 3, 1) := by decide +kernel
theorem dX12_power_4 : decode cX12_power 4 = .ok (.iload_n 3, 1) := by decide +kernel
theorem dX12_power_5 : decode cX12_power 5 = .ok (.iload_n 1, 1) := by decide +kernel
theorem dX12_power_6 : decode cX12_power 6 = .ok (.if_icmp .ge 13, 3) := by decide +kernel
theorem dX12_power_9 : decode cX12_power 9 = .ok (.iload_n 2, 1) := by decide +kernel
theorem dX12_power_10 : decode cX12_power 10 = .ok (.iload_n 0, 1) := by decide +kernel
theorem dX12_power_11 : decode cX12_power 11 = .ok (.imul, 1) := by decide +kernel
theorem dX12_power_12 : decode cX12_power 12 = .ok (.istore_n 2, 1) := by decide +kernel
theorem dX12_power_13 : decode cX12_power 13 = .ok (.iinc 3 1, 3) := by decide +kernel
theorem dX12_power_16 : decode cX12_power 16 = .ok (.goto (-12), 3) := by decide +kernel
theorem dX12_power_19 : decode cX12_power 19 = .ok (.iload_n 2, 1) := by decide +kernel
theorem dX12_power_20 : decode cX12_power 20 = .ok (.ireturn, 1) := by decide +kernel
theorem dX12_gcd_0 : decode cX12_gcd 0 = .ok (.iload_n 0, 1) := by decide +kernel
theorem dX12_gcd_1 : decode cX12_gcd 1 = .ok (.istore_n 2, 1) := by decide +kernel
theorem dX12_gcd_2 : decode cX12_gcd 2 = .ok (.iload_n 1, 1) := by decide +kernel
theorem dX12_gcd_3 : decode cX12_gcd 3 = .ok (.istore_n 3, 1) := by decide +kernel
theorem dX12_gcd_4 : decode cX12_gcd 4 = .ok (.iload_n 3, 1) := by decide +kernel
theorem dX12_gcd_5 : decode cX12_gcd 5 = .ok (.ifCond .eq 16, 3) := by decide +kernel
theorem dX12_gcd_8 : decode cX12_gcd 8 = .ok (.iload_n 2, 1) := by decide +kernel
theorem dX12_gcd_9 : decode cX12_gcd 9 = .ok (.iload_n 3, 1) := by decide +kernel
theorem dX12_gcd_10 : decode cX12_gcd 10 = .ok (.irem, 1) := by decide +kernel
theorem dX12_gcd_11 : decode cX12_gcd 11 = .ok (.istore 4, 2) := by decide +kernel
theorem dX12_gcd_13 : decode cX12_gcd 13 = .ok (.iload_n 3, 1) := by decide +kernel
theorem dX12_gcd_14 : decode cX12_gcd 14 = .ok (.istore_n 2, 1) := by decide +kernel
theorem dX12_gcd_15 : decode cX12_gcd 15 = .ok (.iload 4, 2) := by decide +kernel
theorem dX12_gcd_17 : decode cX12_gcd 17 = .ok (.istore_n 3, 1) := by decide +kernel
theorem dX12_gcd_18 : decode cX12_gcd 18 = .ok (.goto (-14), 3) := by decide +kernel
theorem dX12_gcd_21 : decode cX12_gcd 21 = .ok (.iload_n 2, 1) := by decide +kernel
theorem dX12_gcd_22 : decode cX12_gcd 22 = .ok (.ireturn, 1) := by decide +kernel
theorem dX12_odds_0 : decode cX12_odds 0 = .ok (.aload_n 0, 1) := by decide +kernel
theorem dX12_odds_1 : decode cX12_odds 1 = .ok (.iconst 0, 1) := by decide +kernel
theorem dX12_odds_2 : decode cX12_odds 2 = .ok (.putfield 59, 3) := by decide +kernel
theorem dX12_odds_5 : decode cX12_odds 5 = .ok (.aload_n 0, 1) := by decide +kernel
theorem dX12_odds_6 : decode cX12_odds 6 = .ok (.iload_n 1, 1) := by decide +kernel
theorem dX12_odds_7 : decode cX12_odds 7 = .ok (.invokevirtual 124, 3) := by decide +kernel
theorem dX12_odds_10 : decode cX12_odds 10 = .ok (.ifCond .eq 33, 3) := by decide +kernel
theorem dX12_odds_13 : decode cX12_odds 13 = .ok (.iload_n 2, 1) := by decide +kernel
theorem dX12_odds_14 : decode cX12_odds 14 = .ok (.iconst 0, 1) := by decide +kernel
theorem dX12_odds_15 : decode cX12_odds 15 = .ok (.bipush 10, 2) := by decide +kernel
theorem dX12_odds_17 : decode cX12_odds 17 = .ok (.invokestatic 63, 3) := by decide +kernel
theorem dX12_odds_20 : decode cX12_odds 20 = .ok (.ifCond .eq 23, 3) := by decide +kernel
theorem dX12_odds_23 : decode cX12_odds 23 = .ok (.iload_n 3, 1) := by decide +kernel
theorem dX12_odds_24 : decode cX12_odds 24 = .ok (.iconst 0, 1) := by decide +kernel
theorem dX12_odds_25 : decode cX12_odds 25 = .ok (.bipush 6, 2) := by decide +kernel
theorem dX12_odds_27 : decode cX12_odds 27 = .ok (.invokestatic 63, 3) := by decide +kernel
theorem dX12_odds_30 : decode cX12_odds 30 = .ok (.ifCond .eq 13, 3) := by decide +kernel
theorem dX12_odds_33 : decode cX12_odds 33 = .ok (.iload 4, 2) := by decide +kernel
theorem dX12_odds_35 : decode cX12_odds 35 = .ok (.iconst 0, 1) := by decide +kernel
theorem dX12_odds_36 : decode cX12_odds 36 = .ok (.iconst 1, 1) := by decide +kernel
theorem dX12_odds_37 : decode cX12_odds 37 = .ok (.invokestatic 63, 3) := by decide +kernel
theorem dX12_odds_40 : decode cX12_odds 40 = .ok (.ifCond .ne 5, 3) := by decide +kernel
theorem dX12_odds_43 : decode cX12_odds 43 = .ok (.iconst (-1), 1) := by decide +kernel
theorem dX12_odds_44 : decode cX12_odds 44 = .ok (.ireturn, 1) := by decide +kernel
theorem dX12_odds_45 : decode cX12_odds 45 = .ok (.iconst 0, 1) := by decide +kernel
theorem dX12_odds_46 : decode cX12_odds 46 = .ok (.istore 5, 2) := by decide +kernel
theorem dX12_odds_48 : decode cX12_odds 48 = .ok (.iconst 0, 1) := by decide +kernel
theorem dX12_odds_49 : decode cX12_odds 49 = .ok (.istore 6, 2) := by decide +kernel
theorem dX12_odds_51 : decode cX12_odds 51 = .ok (.iload 6, 2) := by decide +kernel
theorem dX12_odds_53 : decode cX12_odds 53 = .ok (.iconst 1, 1) := by decide +kernel
theorem dX12_odds_54 : decode cX12_odds 54 = .ok (.iload_n 3, 1) := by decide +kernel
theorem dX12_odds_55 : decode cX12_odds 55 = .ok (.ishl, 1) := by decide +kernel
theorem dX12_odds_56 : decode cX12_odds 56 = .ok (.if_icmp .ge 124, 3) := by decide +kernel
theorem dX12_odds_59 : decode cX12_odds 59 = .ok (.iconst 1, 1) := by decide +kernel
theorem dX12_odds_60 : decode cX12_odds 60 = .ok (.istore 7, 2) := by decide +kernel
theorem dX12_odds_62 : decode cX12_odds 62 = .ok (.aload_n 0, 1) := by decide +kernel
theorem dX12_odds_63 : decode cX12_odds 63 = .ok (.invokevirtual 156, 3) := by decide +kernel
theorem dX12_odds_66 : decode cX12_odds 66 = .ok (.iconst 0, 1) := by decide +kernel
theorem dX12_odds_67 : decode cX12_odds 67 = .ok (.istore 8, 2) := by decide +kernel
theorem dX12_odds_69 : decode cX12_odds 69 = .ok (.iload 8, 2) := by decide +kernel
theorem dX12_odds_71 : decode cX12_odds 71 = .ok (.iload_n 3, 1) := by decide +kernel
theorem dX12_odds_72 : decode cX12_odds 72 = .ok (.if_icmp .ge 80, 3) := by decide +kernel
theorem dX12_odds_75 : decode cX12_odds 75 = .ok (.iload 6, 2) := by decide +kernel
theorem dX12_odds_77 : decode cX12_odds 77 = .ok (.iload 8, 2) := by decide +kernel
theorem dX12_odds_79 : decode cX12_odds 79 = .ok (.ishr, 1) := by decide +kernel
theorem dX12_odds_80 : decode cX12_odds 80 = .ok (.iconst 1, 1) := by decide +kernel
theorem dX12_odds_81 : decode cX12_odds 81 = .ok (.iand, 1) := by decide +kernel
theorem dX12_odds_82 : decode cX12_odds 82 = .ok (.iconst 1, 1) := by decide +kernel
theorem dX12_odds_83 : decode cX12_odds 83 = .ok (.if_icmp .ne 7, 3) := by decide +kernel
theorem dX12_odds_86 : decode cX12_odds 86 = .ok (.iconst 1, 1) := by decide +kernel
theorem dX12_odds_87 : decode cX12_odds 87 = .ok (.goto 4, 3) := by decide +kernel
theorem dX12_odds_90 : decode cX12_odds 90 = .ok (.iconst 0, 1) := by decide +kernel
theorem dX12_odds_91 : decode cX12_odds 91 = .ok (.istore 9, 2) := by decide +kernel
theorem dX12_odds_93 : decode cX12_odds 93 = .ok (.iload 7, 2) := by decide +kernel
theorem dX12_odds_95 : decode cX12_odds 95 = .ok (.iload 9, 2) := by decide +kernel
theorem dX12_odds_97 : decode cX12_odds 97 = .ok (.ifCond .eq 7, 3) := by decide +kernel
theorem dX12_odds_100 : decode cX12_odds 100 = .ok (.iload_n 2, 1) := by decide +kernel
theorem dX12_odds_101 : decode cX12_odds 101 = .ok (.goto 7, 3) := by decide +kernel
theorem dX12_odds_104 : decode cX12_odds 104 = .ok (.bipush 10, 2) := by decide +kernel
theorem dX12_odds_106 : decode cX12_odds 106 = .ok (.iload_n 2, 1) := by decide +kernel
theorem dX12_odds_107 : decode cX12_odds 107 = .ok (.isub, 1) := by decide +kernel
theorem dX12_odds_108 : decode cX12_odds 108 = .ok (.imul, 1) := by decide +kernel
theorem dX12_odds_109 : decode cX12_odds 109 = .ok (.istore 7, 2) := by decide +kernel
theorem dX12_odds_111 : decode cX12_odds 111 = .ok (.iload 9, 2) := by decide +kernel
theorem dX12_odds_113 : decode cX12_odds 113 = .ok (.ifCond .eq 25, 3) := by decide +kernel
theorem dX12_odds_116 : decode cX12_odds 116 = .ok (.aload_n 0, 1) := by decide +kernel
theorem dX12_odds_117 : decode cX12_odds 117 = .ok (.aload_n 0, 1) := by decide +kernel
theorem dX12_odds_118 : decode cX12_odds 118 = .ok (.getfield 34, 3) := by decide +kernel
theorem dX12_odds_121 : decode cX12_odds 121 = .ok (.invokevirtual 134, 3) := by decide +kernel
theorem dX12_odds_124 : decode cX12_odds 124 = .ok (.ifCond .ne 14, 3) := by decide +kernel
theorem dX12_odds_127 : decode cX12_odds 127 = .ok (.aload_n 0, 1) := by decide +kernel
theorem dX12_odds_128 : decode cX12_odds 128 = .ok (.aload_n 0, 1) := by decide +kernel
theorem dX12_odds_129 : decode cX12_odds 129 = .ok (.getfield 34, 3) := by decide +kernel
theorem dX12_odds_132 : decode cX12_odds 132 = .ok (.iconst 1, 1) := by decide +kernel
theorem dX12_odds_133 : decode cX12_odds 133 = .ok (.iload_n 1, 1) := by decide +kernel
theorem dX12_odds_134 : decode cX12_odds 134 = .ok (.ishl, 1) := by decide +kernel
theorem dX12_odds_135 : decode cX12_odds 135 = .ok (.invokevirtual 142, 3) := by decide +kernel
theorem dX12_odds_138 : decode cX12_odds 138 = .ok (.aload_n 0, 1) := by decide +kernel
theorem dX12_odds_139 : decode cX12_odds 139 = .ok (.aload_n 0, 1) := by decide +kernel
theorem dX12_odds_140 : decode cX12_odds 140 = .ok (.getfield 34, 3) := by decide +kernel
theorem dX12_odds_143 : decode cX12_odds 143 = .ok (.invokevirtual 153, 3) := by decide +kernel
theorem dX12_odds_146 : decode cX12_odds 146 = .ok (.iinc 8 1, 3) := by decide +kernel
theorem dX12_odds_149 : decode cX12_odds 149 = .ok (.goto (-80), 3) := by decide +kernel
theorem dX12_odds_152 : decode cX12_odds 152 = .ok (.iload 5, 2) := by decide +kernel
theorem dX12_odds_154 : decode cX12_odds 154 = .ok (.aload_n 0, 1) := by decide +kernel
theorem dX12_odds_155 : decode cX12_odds 155 = .ok (.aload_n 0, 1) := by decide +kernel
theorem dX12_odds_156 : decode cX12_odds 156 = .ok (.getfield 34, 3) := by decide +kernel
theorem dX12_odds_159 : decode cX12_odds 159 = .ok (.invokevirtual 134, 3) := by decide +kernel
theorem dX12_odds_162 : decode cX12_odds 162 = .ok (.ifCond .eq 8, 3) := by decide +kernel
theorem dX12_odds_165 : decode cX12_odds 165 = .ok (.iload 7, 2) := by decide +kernel
theorem dX12_odds_167 : decode cX12_odds 167 = .ok (.goto 4, 3) := by decide +kernel
theorem dX12_odds_170 : decode cX12_odds 170 = .ok (.iconst 0, 1) := by decide +kernel
theorem dX12_odds_171 : decode cX12_odds 171 = .ok (.iadd, 1) := by decide +kernel
theorem dX12_odds_172 : decode cX12_odds 172 = .ok (.istore 5, 2) := by decide +kernel
theorem dX12_odds_174 : decode cX12_odds 174 = .ok (.iinc 6 1, 3) := by decide +kernel
theorem dX12_odds_177 : decode cX12_odds 177 = .ok (.goto (-126), 3) := by decide +kernel
theorem dX12_odds_180 : decode cX12_odds 180 = .ok (.bipush 10, 2) := by decide +kernel
theorem dX12_odds_182 : decode cX12_odds 182 = .ok (.iload_n 3, 1) := by decide +kernel
theorem dX12_odds_183 : decode cX12_odds 183 = .ok (.invokestatic 168, 3) := by decide +kernel
theorem dX12_odds_186 : decode cX12_odds 186 = .ok (.istore 6, 2) := by decide +kernel
theorem dX12_odds_188 : decode cX12_odds 188 = .ok (.iload 5, 2) := by decide +kernel
theorem dX12_odds_190 : decode cX12_odds 190 = .ok (.iload 6, 2) := by decide +kernel
theorem dX12_odds_192 : decode cX12_odds 192 = .ok (.invokestatic 171, 3) := by decide +kernel
theorem dX12_odds_195 : decode cX12_odds 195 = .ok (.istore 7, 2) := by decide +kernel
theorem dX12_odds_197 : decode cX12_odds 197 = .ok (.iload 4, 2) := by decide +kernel
theorem dX12_odds_199 : decode cX12_odds 199 = .ok (.ifCond .ne 11, 3) := by decide +kernel
theorem dX12_odds_202 : decode cX12_odds 202 = .ok (.iload 5, 2) := by decide +kernel
theorem dX12_odds_204 : decode cX12_odds 204 = .ok (.iload 7, 2) := by decide +kernel
theorem dX12_odds_206 : decode cX12_odds 206 = .ok (.idiv, 1) := by decide +kernel
theorem dX12_odds_207 : decode cX12_odds 207 = .ok (.goto 8, 3) := by decide +kernel
theorem dX12_odds_210 : decode cX12_odds 210 = .ok (.iload 6, 2) := by decide +kernel
theorem dX12_odds_212 : decode cX12_odds 212 = .ok (.iload 7, 2) := by decide +kernel
theorem dX12_odds_214 : decode cX12_odds 214 = .ok (.idiv, 1) := by decide +kernel
theorem dX12_odds_215 : decode cX12_odds 215 = .ok (.ireturn, 1) := by decide +kernel
theorem dX12_rate_0 : decode cX12_rate 0 = .ok (.aload_n 0, 1) := by decide +kernel
theorem dX12_rate_1 : decode cX12_rate 1 = .ok (.iconst 0, 1) := by decide +kernel
theorem dX12_rate_2 : decode cX12_rate 2 = .ok (.putfield 59, 3) := by decide +kernel
theorem dX12_rate_5 : decode cX12_rate 5 = .ok (.iload_n 1, 1) := by decide +kernel
theorem dX12_rate_6 : decode cX12_rate 6 = .ok (.iconst 0, 1) := by decide +kernel
theorem dX12_rate_7 : decode cX12_rate 7 = .ok (.iconst 5, 1) := by decide +kernel
theorem dX12_rate_8 : decode cX12_rate 8 = .ok (.invokestatic 63, 3) := by decide +kernel
theorem dX12_rate_11 : decode cX12_rate 11 = .ok (.ifCond .eq 11, 3) := by decide +kernel
theorem dX12_rate_14 : decode cX12_rate 14 = .ok (.aload_n 0, 1) := by decide +kernel
theorem dX12_rate_15 : decode cX12_rate 15 = .ok (.iload_n 2, 1) := by decide +kernel
theorem dX12_rate_16 : decode cX12_rate 16 = .ok (.invokevirtual 124, 3) := by decide +kernel
theorem dX12_rate_19 : decode cX12_rate 19 = .ok (.ifCond .ne 6, 3) := by decide +kernel
theorem dX12_rate_22 : decode cX12_rate 22 = .ok (.ldc 174, 2) := by decide +kernel
theorem dX12_rate_24 : decode cX12_rate 24 = .ok (.ireturn, 1) := by decide +kernel
theorem dX12_rate_25 : decode cX12_rate 25 = .ok (.aload_n 0, 1) := by decide +kernel
theorem dX12_rate_26 : decode cX12_rate 26 = .ok (.getfield 16, 3) := by decide +kernel
theorem dX12_rate_29 : decode cX12_rate 29 = .ok (.iload_n 2, 1) := by decide +kernel
theorem dX12_rate_30 : decode cX12_rate 30 = .ok (.iaload, 1) := by decide +kernel
theorem dX12_rate_31 : decode cX12_rate 31 = .ok (.aload_n 0, 1) := by decide +kernel
theorem dX12_rate_32 : decode cX12_rate 32 = .ok (.getfield 31, 3) := by decide +kernel
theorem dX12_rate_35 : decode cX12_rate 35 = .ok (.iconst 3, 1) := by decide +kernel
theorem dX12_rate_36 : decode cX12_rate 36 = .ok (.iload_n 2, 1) := by decide +kernel
theorem dX12_rate_37 : decode cX12_rate 37 = .ok (.iadd, 1) := by decide +kernel
theorem dX12_rate_38 : decode cX12_rate 38 = .ok (.iaload, 1) := by decide +kernel
theorem dX12_rate_39 : decode cX12_rate 39 = .ok (.iadd, 1) := by decide +kernel
theorem dX12_rate_40 : decode cX12_rate 40 = .ok (.istore_n 3, 1) := by decide +kernel
theorem dX12_rate_41 : decode cX12_rate 41 = .ok (.aload_n 0, 1) := by decide +kernel
theorem dX12_rate_42 : decode cX12_rate 42 = .ok (.getfield 16, 3) := by decide +kernel
theorem dX12_rate_45 : decode cX12_rate 45 = .ok (.iload_n 2, 1) := by decide +kernel
theorem dX12_rate_46 : decode cX12_rate 46 = .ok (.iaload, 1) := by decide +kernel
theorem dX12_rate_47 : decode cX12_rate 47 = .ok (.aload_n 0, 1) := by decide +kernel
theorem dX12_rate_48 : decode cX12_rate 48 = .ok (.getfield 19, 3) := by decide +kernel
theorem dX12_rate_51 : decode cX12_rate 51 = .ok (.iload_n 2, 1) := by decide +kernel
theorem dX12_rate_52 : decode cX12_rate 52 = .ok (.iaload, 1) := by decide +kernel
theorem dX12_rate_53 : decode cX12_rate 53 = .ok (.isub, 1) := by decide +kernel
theorem dX12_rate_54 : decode cX12_rate 54 = .ok (.istore 4, 2) := by decide +kernel
theorem dX12_rate_56 : decode cX12_rate 56 = .ok (.aload_n 0, 1) := by decide +kernel
theorem dX12_rate_57 : decode cX12_rate 57 = .ok (.dup, 1) := by decide +kernel
theorem dX12_rate_58 : decode cX12_rate 58 = .ok (.getfield 175, 3) := by decide +kernel
theorem dX12_rate_61 : decode cX12_rate 61 = .ok (.iload_n 1, 1) := by decide +kernel
theorem dX12_rate_62 : decode cX12_rate 62 = .ok (.ifCond .ne 7, 3) := by decide +kernel
theorem dX12_rate_65 : decode cX12_rate 65 = .ok (.lconst 1, 1) := by decide +kernel
theorem dX12_rate_66 : decode cX12_rate 66 = .ok (.goto 50, 3) := by decide +kernel
theorem dX12_rate_69 : decode cX12_rate 69 = .ok (.iload_n 1, 1) := by decide +kernel
theorem dX12_rate_70 : decode cX12_rate 70 = .ok (.iconst 1, 1) := by decide +kernel
theorem dX12_rate_71 : decode cX12_rate 71 = .ok (.if_icmp .ne 9, 3) := by decide +kernel
theorem dX12_rate_74 : decode cX12_rate 74 = .ok (.ldc2_w 179, 3) := by decide +kernel
theorem dX12_rate_77 : decode cX12_rate 77 = .ok (.goto 39, 3) := by decide +kernel
theorem dX12_rate_80 : decode cX12_rate 80 = .ok (.iload_n 1, 1) := by decide +kernel
theorem dX12_rate_81 : decode cX12_rate 81 = .ok (.iconst 2, 1) := by decide +kernel
theorem dX12_rate_82 : decode cX12_rate 82 = .ok (.if_icmp .ne 9, 3) := by decide +kernel
theorem dX12_rate_85 : decode cX12_rate 85 = .ok (.ldc2_w 181, 3) := by decide +kernel
theorem dX12_rate_88 : decode cX12_rate 88 = .ok (.goto 28, 3) := by decide +kernel
theorem dX12_rate_91 : decode cX12_rate 91 = .ok (.iload_n 1, 1) := by decide +kernel
theorem dX12_rate_92 : decode cX12_rate 92 = .ok (.iconst 3, 1) := by decide +kernel
theorem dX12_rate_93 : decode cX12_rate 93 = .ok (.if_icmp .ne 9, 3) := by decide +kernel
theorem dX12_rate_96 : decode cX12_rate 96 = .ok (.ldc2_w 183, 3) := by decide +kernel
theorem dX12_rate_99 : decode cX12_rate 99 = .ok (.goto 17, 3) := by decide +kernel
theorem dX12_rate_102 : decode cX12_rate 102 = .ok (.iload_n 1, 1) := by decide +kernel
theorem dX12_rate_103 : decode cX12_rate 103 = .ok (.iconst 4, 1) := by decide +kernel
theorem dX12_rate_104 : decode cX12_rate 104 = .ok (.if_icmp .ne 9, 3) := by decide +kernel
theorem dX12_rate_107 : decode cX12_rate 107 = .ok (.ldc2_w 185, 3) := by decide +kernel
theorem dX12_rate_110 : decode cX12_rate 110 = .ok (.goto 6, 3) := by decide +kernel
theorem dX12_rate_113 : decode cX12_rate 113 = .ok (.ldc2_w 187, 3) := by decide +kernel
theorem dX12_rate_116 : decode cX12_rate 116 = .ok (.ladd, 1) := by decide +kernel
theorem dX12_rate_117 : decode cX12_rate 117 = .ok (.putfield 175, 3) := by decide +kernel
theorem dX12_rate_120 : decode cX12_rate 120 = .ok (.iload_n 1, 1) := by decide +kernel
theorem dX12_rate_121 : decode cX12_rate 121 = .ok (.ifCond .ne 12, 3) := by decide +kernel
theorem dX12_rate_124 : decode cX12_rate 124 = .ok (.aload_n 0, 1) := by decide +kernel
theorem dX12_rate_125 : decode cX12_rate 125 = .ok (.getfield 16, 3) := by decide +kernel
theorem dX12_rate_128 : decode cX12_rate 128 = .ok (.iload_n 2, 1) := by decide +kernel
theorem dX12_rate_129 : decode cX12_rate 129 = .ok (.iaload, 1) := by decide +kernel
theorem dX12_rate_130 : decode cX12_rate 130 = .ok (.goto 61, 3) := by decide +kernel
theorem dX12_rate_133 : decode cX12_rate 133 = .ok (.iload_n 1, 1) := by decide +kernel
theorem dX12_rate_134 : decode cX12_rate 134 = .ok (.iconst 1, 1) := by decide +kernel
theorem dX12_rate_135 : decode cX12_rate 135 = .ok (.if_icmp .ne 7, 3) := by decide +kernel
theorem dX12_rate_138 : decode cX12_rate 138 = .ok (.iload_n 3, 1) := by decide +kernel
theorem dX12_rate_139 : decode cX12_rate 139 = .ok (.goto 52, 3) := by decide +kernel
theorem dX12_rate_142 : decode cX12_rate 142 = .ok (.iload_n 1, 1) := by decide +kernel
theorem dX12_rate_143 : decode cX12_rate 143 = .ok (.iconst 2, 1) := by decide +kernel
theorem dX12_rate_144 : decode cX12_rate 144 = .ok (.if_icmp .ne 8, 3) := by decide +kernel
theorem dX12_rate_147 : decode cX12_rate 147 = .ok (.iload 4, 2) := by decide +kernel
theorem dX12_rate_149 : decode cX12_rate 149 = .ok (.goto 42, 3) := by decide +kernel
theorem dX12_rate_152 : decode cX12_rate 152 = .ok (.iload_n 1, 1) := by decide +kernel
theorem dX12_rate_153 : decode cX12_rate 153 = .ok (.iconst 3, 1) := by decide +kernel
theorem dX12_rate_154 : decode cX12_rate 154 = .ok (.if_icmp .ne 9, 3) := by decide +kernel
theorem dX12_rate_157 : decode cX12_rate 157 = .ok (.iconst 2, 1) := by decide +kernel
theorem dX12_rate_158 : decode cX12_rate 158 = .ok (.iload_n 3, 1) := by decide +kernel
theorem dX12_rate_159 : decode cX12_rate 159 = .ok (.imul, 1) := by decide +kernel
theorem dX12_rate_160 : decode cX12_rate 160 = .ok (.goto 31, 3) := by decide +kernel
theorem dX12_rate_163 : decode cX12_rate 163 = .ok (.iload_n 1, 1) := by decide +kernel
theorem dX12_rate_164 : decode cX12_rate 164 = .ok (.iconst 4, 1) := by decide +kernel
theorem dX12_rate_165 : decode cX12_rate 165 = .ok (.if_icmp .ne 10, 3) := by decide +kernel
theorem dX12_rate_168 : decode cX12_rate 168 = .ok (.iload 4, 2) := by decide +kernel
theorem dX12_rate_170 : decode cX12_rate 170 = .ok (.iload_n 2, 1) := by decide +kernel
theorem dX12_rate_171 : decode cX12_rate 171 = .ok (.iadd, 1) := by decide +kernel
theorem dX12_rate_172 : decode cX12_rate 172 = .ok (.goto 19, 3) := by decide +kernel
theorem dX12_rate_175 : decode cX12_rate 175 = .ok (.aload_n 0, 1) := by decide +kernel
theorem dX12_rate_176 : decode cX12_rate 176 = .ok (.getfield 16, 3) := by decide +kernel
theorem dX12_rate_179 : decode cX12_rate 179 = .ok (.iload_n 2, 1) := by decide +kernel
theorem dX12_rate_180 : decode cX12_rate 180 = .ok (.iaload, 1) := by decide +kernel
theorem dX12_rate_181 : decode cX12_rate 181 = .ok (.aload_n 0, 1) := by decide +kernel
theorem dX12_rate_182 : decode cX12_rate 182 = .ok (.getfield 31, 3) := by decide +kernel
theorem dX12_rate_185 : decode cX12_rate 185 = .ok (.bipush 9, 2) := by decide +kernel
theorem dX12_rate_187 : decode cX12_rate 187 = .ok (.iload_n 2, 1) := by decide +kernel
theorem dX12_rate_188 : decode cX12_rate 188 = .ok (.iadd, 1) := by decide +kernel
theorem dX12_rate_189 : decode cX12_rate 189 = .ok (.iaload, 1) := by decide +kernel
theorem dX12_rate_190 : decode cX12_rate 190 = .ok (.iadd, 1) := by decide +kernel
theorem dX12_rate_191 : decode cX12_rate 191 = .ok (.ireturn, 1) := by decide +kernel
theorem dX12_keep_0 : decode cX12_keep 0 = .ok (.aload_n 0, 1) := by decide +kernel
theorem dX12_keep_1 : decode cX12_keep 1 = .ok (.iconst 0, 1) := by decide +kernel
theorem dX12_keep_2 : decode cX12_keep 2 = .ok (.putfield 59, 3) := by decide +kernel
theorem dX12_keep_5 : decode cX12_keep 5 = .ok (.iload_n 1, 1) := by decide +kernel
theorem dX12_keep_6 : decode cX12_keep 6 = .ok (.iconst 0, 1) := by decide +kernel
theorem dX12_keep_7 : decode cX12_keep 7 = .ok (.iconst 1, 1) := by decide +kernel
theorem dX12_keep_8 : decode cX12_keep 8 = .ok (.invokestatic 63, 3) := by decide +kernel
theorem dX12_keep_11 : decode cX12_keep 11 = .ok (.ifCond .ne 5, 3) := by decide +kernel
theorem dX12_keep_14 : decode cX12_keep 14 = .ok (.iconst (-1), 1) := by decide +kernel
theorem dX12_keep_15 : decode cX12_keep 15 = .ok (.ireturn, 1) := by decide +kernel
theorem dX12_keep_16 : decode cX12_keep 16 = .ok (.iconst 0, 1) := by decide +kernel
theorem dX12_keep_17 : decode cX12_keep 17 = .ok (.istore_n 2, 1) := by decide +kernel
theorem dX12_keep_18 : decode cX12_keep 18 = .ok (.iload_n 2, 1) := by decide +kernel
theorem dX12_keep_19 : decode cX12_keep 19 = .ok (.bipush 15, 2) := by decide +kernel
theorem dX12_keep_21 : decode cX12_keep 21 = .ok (.if_icmp .ge 26, 3) := by decide +kernel
theorem dX12_keep_24 : decode cX12_keep 24 = .ok (.aload_n 0, 1) := by decide +kernel
theorem dX12_keep_25 : decode cX12_keep 25 = .ok (.getfield 37, 3) := by decide +kernel
theorem dX12_keep_28 : decode cX12_keep 28 = .ok (.bipush 15, 2) := by decide +kernel
theorem dX12_keep_30 : decode cX12_keep 30 = .ok (.iload_n 1, 1) := by decide +kernel
theorem dX12_keep_31 : decode cX12_keep 31 = .ok (.imul, 1) := by decide +kernel
theorem dX12_keep_32 : decode cX12_keep 32 = .ok (.iload_n 2, 1) := by decide +kernel
theorem dX12_keep_33 : decode cX12_keep 33 = .ok (.iadd, 1) := by decide +kernel
theorem dX12_keep_34 : decode cX12_keep 34 = .ok (.aload_n 0, 1) := by decide +kernel
theorem dX12_keep_35 : decode cX12_keep 35 = .ok (.getfield 31, 3) := by decide +kernel
theorem dX12_keep_38 : decode cX12_keep 38 = .ok (.iload_n 2, 1) := by decide +kernel
theorem dX12_keep_39 : decode cX12_keep 39 = .ok (.iaload, 1) := by decide +kernel
theorem dX12_keep_40 : decode cX12_keep 40 = .ok (.iastore, 1) := by decide +kernel
theorem dX12_keep_41 : decode cX12_keep 41 = .ok (.iinc 2 1, 3) := by decide +kernel
theorem dX12_keep_44 : decode cX12_keep 44 = .ok (.goto (-26), 3) := by decide +kernel
theorem dX12_keep_47 : decode cX12_keep 47 = .ok (.aload_n 0, 1) := by decide +kernel
theorem dX12_keep_48 : decode cX12_keep 48 = .ok (.getfield 40, 3) := by decide +kernel
theorem dX12_keep_51 : decode cX12_keep 51 = .ok (.iload_n 1, 1) := by decide +kernel
theorem dX12_keep_52 : decode cX12_keep 52 = .ok (.iconst 1, 1) := by decide +kernel
theorem dX12_keep_53 : decode cX12_keep 53 = .ok (.bastore, 1) := by decide +kernel
theorem dX12_keep_54 : decode cX12_keep 54 = .ok (.aload_n 0, 1) := by decide +kernel
theorem dX12_keep_55 : decode cX12_keep 55 = .ok (.getfield 31, 3) := by decide +kernel
theorem dX12_keep_58 : decode cX12_keep 58 = .ok (.iconst 0, 1) := by decide +kernel
theorem dX12_keep_59 : decode cX12_keep 59 = .ok (.iaload, 1) := by decide +kernel
theorem dX12_keep_60 : decode cX12_keep 60 = .ok (.ireturn, 1) := by decide +kernel
theorem dX12_back_0 : decode cX12_back 0 = .ok (.aload_n 0, 1) := by decide +kernel
theorem dX12_back_1 : decode cX12_back 1 = .ok (.iconst 0, 1) := by decide +kernel
theorem dX12_back_2 : decode cX12_back 2 = .ok (.putfield 59, 3) := by decide +kernel
theorem dX12_back_5 : decode cX12_back 5 = .ok (.iload_n 1, 1) := by decide +kernel
theorem dX12_back_6 : decode cX12_back 6 = .ok (.iconst 0, 1) := by decide +kernel
theorem dX12_back_7 : decode cX12_back 7 = .ok (.iconst 1, 1) := by decide +kernel
theorem dX12_back_8 : decode cX12_back 8 = .ok (.invokestatic 63, 3) := by decide +kernel
theorem dX12_back_11 : decode cX12_back 11 = .ok (.ifCond .ne 5, 3) := by decide +kernel
theorem dX12_back_14 : decode cX12_back 14 = .ok (.iconst (-1), 1) := by decide +kernel
theorem dX12_back_15 : decode cX12_back 15 = .ok (.ireturn, 1) := by decide +kernel
theorem dX12_back_16 : decode cX12_back 16 = .ok (.aload_n 0, 1) := by decide +kernel
theorem dX12_back_17 : decode cX12_back 17 = .ok (.getfield 40, 3) := by decide +kernel
theorem dX12_back_20 : decode cX12_back 20 = .ok (.iload_n 1, 1) := by decide +kernel
theorem dX12_back_21 : decode cX12_back 21 = .ok (.baload, 1) := by decide +kernel
theorem dX12_back_22 : decode cX12_back 22 = .ok (.ifCond .ne 6, 3) := by decide +kernel
theorem dX12_back_25 : decode cX12_back 25 = .ok (.bipush (-2), 2) := by decide +kernel
theorem dX12_back_27 : decode cX12_back 27 = .ok (.ireturn, 1) := by decide +kernel
theorem dX12_back_28 : decode cX12_back 28 = .ok (.iconst 0, 1) := by decide +kernel
theorem dX12_back_29 : decode cX12_back 29 = .ok (.istore_n 2, 1) := by decide +kernel
theorem dX12_back_30 : decode cX12_back 30 = .ok (.iload_n 2, 1) := by decide +kernel
theorem dX12_back_31 : decode cX12_back 31 = .ok (.bipush 15, 2) := by decide +kernel
theorem dX12_back_33 : decode cX12_back 33 = .ok (.if_icmp .ge 26, 3) := by decide +kernel
theorem dX12_back_36 : decode cX12_back 36 = .ok (.aload_n 0, 1) := by decide +kernel
theorem dX12_back_37 : decode cX12_back 37 = .ok (.getfield 31, 3) := by decide +kernel
theorem dX12_back_40 : decode cX12_back 40 = .ok (.iload_n 2, 1) := by decide +kernel
theorem dX12_back_41 : decode cX12_back 41 = .ok (.aload_n 0, 1) := by decide +kernel
theorem dX12_back_42 : decode cX12_back 42 = .ok (.getfield 37, 3) := by decide +kernel
theorem dX12_back_45 : decode cX12_back 45 = .ok (.bipush 15, 2) := by decide +kernel
theorem dX12_back_47 : decode cX12_back 47 = .ok (.iload_n 1, 1) := by decide +kernel
theorem dX12_back_48 : decode cX12_back 48 = .ok (.imul, 1) := by decide +kernel
theorem dX12_back_49 : decode cX12_back 49 = .ok (.iload_n 2, 1) := by decide +kernel
theorem dX12_back_50 : decode cX12_back 50 = .ok (.iadd, 1) := by decide +kernel
theorem dX12_back_51 : decode cX12_back 51 = .ok (.iaload, 1) := by decide +kernel
theorem dX12_back_52 : decode cX12_back 52 = .ok (.iastore, 1) := by decide +kernel
theorem dX12_back_53 : decode cX12_back 53 = .ok (.iinc 2 1, 3) := by decide +kernel
theorem dX12_back_56 : decode cX12_back 56 = .ok (.goto (-26), 3) := by decide +kernel
theorem dX12_back_59 : decode cX12_back 59 = .ok (.aload_n 0, 1) := by decide +kernel
theorem dX12_back_60 : decode cX12_back 60 = .ok (.iconst 0, 1) := by decide +kernel
theorem dX12_back_61 : decode cX12_back 61 = .ok (.putfield 121, 3) := by decide +kernel
theorem dX12_back_64 : decode cX12_back 64 = .ok (.aload_n 0, 1) := by decide +kernel
theorem dX12_back_65 : decode cX12_back 65 = .ok (.getfield 31, 3) := by decide +kernel
theorem dX12_back_68 : decode cX12_back 68 = .ok (.iconst 0, 1) := by decide +kernel
theorem dX12_back_69 : decode cX12_back 69 = .ok (.iaload, 1) := by decide +kernel
theorem dX12_back_70 : decode cX12_back 70 = .ok (.ireturn, 1) := by decide +kernel
theorem dX12_count_0 : decode cX12_count 0 = .ok (.aload_n 0, 1) := by decide +kernel
theorem dX12_count_1 : decode cX12_count 1 = .ok (.iconst 0, 1) := by decide +kernel
theorem dX12_count_2 : decode cX12_count 2 = .ok (.putfield 59, 3) := by decide +kernel
theorem dX12_count_5 : decode cX12_count 5 = .ok (.iload_n 1, 1) := by decide +kernel
theorem dX12_count_6 : decode cX12_count 6 = .ok (.iconst 0, 1) := by decide +kernel
theorem dX12_count_7 : decode cX12_count 7 = .ok (.iconst 2, 1) := by decide +kernel
theorem dX12_count_8 : decode cX12_count 8 = .ok (.invokestatic 63, 3) := by decide +kernel
theorem dX12_count_11 : decode cX12_count 11 = .ok (.ifCond .eq 12, 3) := by decide +kernel
theorem dX12_count_14 : decode cX12_count 14 = .ok (.aload_n 0, 1) := by decide +kernel
theorem dX12_count_15 : decode cX12_count 15 = .ok (.getfield 13, 3) := by decide +kernel
theorem dX12_count_18 : decode cX12_count 18 = .ok (.iload_n 1, 1) := by decide +kernel
theorem dX12_count_19 : decode cX12_count 19 = .ok (.iaload, 1) := by decide +kernel
theorem dX12_count_20 : decode cX12_count 20 = .ok (.goto 28, 3) := by decide +kernel
theorem dX12_count_23 : decode cX12_count 23 = .ok (.iload_n 1, 1) := by decide +kernel
theorem dX12_count_24 : decode cX12_count 24 = .ok (.iconst 3, 1) := by decide +kernel
theorem dX12_count_25 : decode cX12_count 25 = .ok (.if_icmp .ne 10, 3) := by decide +kernel
theorem dX12_count_28 : decode cX12_count 28 = .ok (.aload_n 0, 1) := by decide +kernel
theorem dX12_count_29 : decode cX12_count 29 = .ok (.getfield 118, 3) := by decide +kernel
theorem dX12_count_32 : decode cX12_count 32 = .ok (.goto 16, 3) := by decide +kernel
theorem dX12_count_35 : decode cX12_count 35 = .ok (.iload_n 1, 1) := by decide +kernel
theorem dX12_count_36 : decode cX12_count 36 = .ok (.iconst 4, 1) := by decide +kernel
theorem dX12_count_37 : decode cX12_count 37 = .ok (.if_icmp .ne 10, 3) := by decide +kernel
theorem dX12_count_40 : decode cX12_count 40 = .ok (.aload_n 0, 1) := by decide +kernel
theorem dX12_count_41 : decode cX12_count 41 = .ok (.getfield 67, 3) := by decide +kernel
theorem dX12_count_44 : decode cX12_count 44 = .ok (.goto 4, 3) := by decide +kernel
theorem dX12_count_47 : decode cX12_count 47 = .ok (.iconst (-1), 1) := by decide +kernel
theorem dX12_count_48 : decode cX12_count 48 = .ok (.ireturn, 1) := by decide +kernel
theorem dX12_trace_0 : decode cX12_trace 0 = .ok (.aload_n 0, 1) := by decide +kernel
theorem dX12_trace_1 : decode cX12_trace 1 = .ok (.iconst 0, 1) := by decide +kernel
theorem dX12_trace_2 : decode cX12_trace 2 = .ok (.putfield 59, 3) := by decide +kernel
theorem dX12_trace_5 : decode cX12_trace 5 = .ok (.aload_n 0, 1) := by decide +kernel
theorem dX12_trace_6 : decode cX12_trace 6 = .ok (.getfield 175, 3) := by decide +kernel
theorem dX12_trace_9 : decode cX12_trace 9 = .ok (.lreturn, 1) := by decide +kernel
theorem dJ9_max_7cf53_0 : decode cJ9_max_7cf53 0 = .ok (.iload_n 0, 1) := by decide +kernel
theorem dJ9_max_7cf53_1 : decode cJ9_max_7cf53 1 = .ok (.iload_n 1, 1) := by decide +kernel
theorem dJ9_max_7cf53_2 : decode cJ9_max_7cf53 2 = .ok (.if_icmp .lt 7, 3) := by decide +kernel
theorem dJ9_max_7cf53_5 : decode cJ9_max_7cf53 5 = .ok (.iload_n 0, 1) := by decide +kernel
theorem dJ9_max_7cf53_6 : decode cJ9_max_7cf53 6 = .ok (.goto 4, 3) := by decide +kernel
theorem dJ9_max_7cf53_9 : decode cJ9_max_7cf53 9 = .ok (.iload_n 1, 1) := by decide +kernel
theorem dJ9_max_7cf53_10 : decode cJ9_max_7cf53 10 = .ok (.ireturn, 1) := by decide +kernel
theorem dJ9_min_7cf53_0 : decode cJ9_min_7cf53 0 = .ok (.iload_n 0, 1) := by decide +kernel
theorem dJ9_min_7cf53_1 : decode cJ9_min_7cf53 1 = .ok (.iload_n 1, 1) := by decide +kernel
theorem dJ9_min_7cf53_2 : decode cJ9_min_7cf53 2 = .ok (.if_icmp .gt 7, 3) := by decide +kernel
theorem dJ9_min_7cf53_5 : decode cJ9_min_7cf53 5 = .ok (.iload_n 0, 1) := by decide +kernel
theorem dJ9_min_7cf53_6 : decode cJ9_min_7cf53 6 = .ok (.goto 4, 3) := by decide +kernel
theorem dJ9_min_7cf53_9 : decode cJ9_min_7cf53 9 = .ok (.iload_n 1, 1) := by decide +kernel
theorem dJ9_min_7cf53_10 : decode cJ9_min_7cf53 10 = .ok (.ireturn, 1) := by decide +kernel
theorem dJ7_fill_53178_0 : decode cJ7_fill_53178 0 = .ok (.iconst 0, 1) := by decide +kernel
theorem dJ7_fill_53178_1 : decode cJ7_fill_53178 1 = .ok (.istore_n 2, 1) := by decide +kernel
theorem dJ7_fill_53178_2 : decode cJ7_fill_53178 2 = .ok (.aload_n 0, 1) := by decide +kernel
theorem dJ7_fill_53178_3 : decode cJ7_fill_53178 3 = .ok (.arraylength, 1) := by decide +kernel
theorem dJ7_fill_53178_4 : decode cJ7_fill_53178 4 = .ok (.istore_n 3, 1) := by decide +kernel
theorem dJ7_fill_53178_5 : decode cJ7_fill_53178 5 = .ok (.iload_n 2, 1) := by decide +kernel
theorem dJ7_fill_53178_6 : decode cJ7_fill_53178 6 = .ok (.iload_n 3, 1) := by decide +kernel
theorem dJ7_fill_53178_7 : decode cJ7_fill_53178 7 = .ok (.if_icmp .ge 13, 3) := by decide +kernel
theorem dJ7_fill_53178_10 : decode cJ7_fill_53178 10 = .ok (.aload_n 0, 1) := by decide +kernel
theorem dJ7_fill_53178_11 : decode cJ7_fill_53178 11 = .ok (.iload_n 2, 1) := by decide +kernel
theorem dJ7_fill_53178_12 : decode cJ7_fill_53178 12 = .ok (.iload_n 1, 1) := by decide +kernel
theorem dJ7_fill_53178_13 : decode cJ7_fill_53178 13 = .ok (.iastore, 1) := by decide +kernel
theorem dJ7_fill_53178_14 : decode cJ7_fill_53178 14 = .ok (.iinc 2 1, 3) := by decide +kernel
theorem dJ7_fill_53178_17 : decode cJ7_fill_53178 17 = .ok (.goto (-12), 3) := by decide +kernel
theorem dJ7_fill_53178_20 : decode cJ7_fill_53178 20 = .ok (.return_, 1) := by decide +kernel
theorem dL_law_0 : decode cL_law 0 = .ok (.new 7, 3) := by decide +kernel
theorem dL_law_3 : decode cL_law 3 = .ok (.dup, 1) := by decide +kernel
theorem dL_law_4 : decode cL_law 4 = .ok (.invokespecial 9, 3) := by decide +kernel
theorem dL_law_7 : decode cL_law 7 = .ok (.astore_n 1, 1) := by decide +kernel
theorem dL_law_8 : decode cL_law 8 = .ok (.new 10, 3) := by decide +kernel
theorem dL_law_11 : decode cL_law 11 = .ok (.dup, 1) := by decide +kernel
theorem dL_law_12 : decode cL_law 12 = .ok (.invokespecial 12, 3) := by decide +kernel
theorem dL_law_15 : decode cL_law 15 = .ok (.astore_n 2, 1) := by decide +kernel
theorem dL_law_16 : decode cL_law 16 = .ok (.iconst 0, 1) := by decide +kernel
theorem dL_law_17 : decode cL_law 17 = .ok (.istore_n 3, 1) := by decide +kernel
theorem dL_law_18 : decode cL_law 18 = .ok (.iload_n 3, 1) := by decide +kernel
theorem dL_law_19 : decode cL_law 19 = .ok (.aload_n 0, 1) := by decide +kernel
theorem dL_law_20 : decode cL_law 20 = .ok (.arraylength, 1) := by decide +kernel
theorem dL_law_21 : decode cL_law 21 = .ok (.iconst 5, 1) := by decide +kernel
theorem dL_law_22 : decode cL_law 22 = .ok (.isub, 1) := by decide +kernel
theorem dL_law_23 : decode cL_law 23 = .ok (.if_icmp .gt 795, 3) := by decide +kernel
theorem dL_law_26 : decode cL_law 26 = .ok (.aload_n 0, 1) := by decide +kernel
theorem dL_law_27 : decode cL_law 27 = .ok (.iload_n 3, 1) := by decide +kernel
theorem dL_law_28 : decode cL_law 28 = .ok (.iaload, 1) := by decide +kernel
theorem dL_law_29 : decode cL_law 29 = .ok (.bipush 31, 2) := by decide +kernel
theorem dL_law_31 : decode cL_law 31 = .ok (.iand, 1) := by decide +kernel
theorem dL_law_32 : decode cL_law 32 = .ok (.tableswitch 780 0 28 #[132, 155, 168, 181, 214, 237, 260, 273, 296, 329, 352, 365, 398, 411, 424, 447, 460, 473, 516, 529, 552, 585, 598, 611, 664, 697, 720, 743, 766], 132) := by decide +kernel
theorem dL_law_164 : decode cL_law 164 = .ok (.aload_n 1, 1) := by decide +kernel
theorem dL_law_165 : decode cL_law 165 = .ok (.aload_n 0, 1) := by decide +kernel
theorem dL_law_166 : decode cL_law 166 = .ok (.iload_n 3, 1) := by decide +kernel
theorem dL_law_167 : decode cL_law 167 = .ok (.iconst 1, 1) := by decide +kernel
theorem dL_law_168 : decode cL_law 168 = .ok (.iadd, 1) := by decide +kernel
theorem dL_law_169 : decode cL_law 169 = .ok (.iaload, 1) := by decide +kernel
theorem dL_law_170 : decode cL_law 170 = .ok (.invokevirtual 13, 3) := by decide +kernel
theorem dL_law_173 : decode cL_law 173 = .ok (.aload_n 2, 1) := by decide +kernel
theorem dL_law_174 : decode cL_law 174 = .ok (.aload_n 0, 1) := by decide +kernel
theorem dL_law_175 : decode cL_law 175 = .ok (.iload_n 3, 1) := by decide +kernel
theorem dL_law_176 : decode cL_law 176 = .ok (.iconst 1, 1) := by decide +kernel
theorem dL_law_177 : decode cL_law 177 = .ok (.iadd, 1) := by decide +kernel
theorem dL_law_178 : decode cL_law 178 = .ok (.iaload, 1) := by decide +kernel
theorem dL_law_179 : decode cL_law 179 = .ok (.invokevirtual 17, 3) := by decide +kernel
theorem dL_law_182 : decode cL_law 182 = .ok (.if_icmp .eq 630, 3) := by decide +kernel
theorem dL_law_185 : decode cL_law 185 = .ok (.iconst 0, 1) := by decide +kernel
theorem dL_law_186 : decode cL_law 186 = .ok (.ireturn, 1) := by decide +kernel
theorem dL_law_187 : decode cL_law 187 = .ok (.aload_n 1, 1) := by decide +kernel
theorem dL_law_188 : decode cL_law 188 = .ok (.invokevirtual 18, 3) := by decide +kernel
theorem dL_law_191 : decode cL_law 191 = .ok (.aload_n 2, 1) := by decide +kernel
theorem dL_law_192 : decode cL_law 192 = .ok (.invokevirtual 22, 3) := by decide +kernel
theorem dL_law_195 : decode cL_law 195 = .ok (.if_icmp .eq 617, 3) := by decide +kernel
theorem dL_law_198 : decode cL_law 198 = .ok (.iconst 0, 1) := by decide +kernel
theorem dL_law_199 : decode cL_law 199 = .ok (.ireturn, 1) := by decide +kernel
theorem dL_law_200 : decode cL_law 200 = .ok (.aload_n 1, 1) := by decide +kernel
theorem dL_law_201 : decode cL_law 201 = .ok (.invokevirtual 23, 3) := by decide +kernel
theorem dL_law_204 : decode cL_law 204 = .ok (.aload_n 2, 1) := by decide +kernel
theorem dL_law_205 : decode cL_law 205 = .ok (.invokevirtual 26, 3) := by decide +kernel
theorem dL_law_208 : decode cL_law 208 = .ok (.if_icmp .eq 604, 3) := by decide +kernel
theorem dL_law_211 : decode cL_law 211 = .ok (.iconst 0, 1) := by decide +kernel
theorem dL_law_212 : decode cL_law 212 = .ok (.ireturn, 1) := by decide +kernel
theorem dL_law_213 : decode cL_law 213 = .ok (.aload_n 1, 1) := by decide +kernel
theorem dL_law_214 : decode cL_law 214 = .ok (.aload_n 0, 1) := by decide +kernel
theorem dL_law_215 : decode cL_law 215 = .ok (.iload_n 3, 1) := by decide +kernel
theorem dL_law_216 : decode cL_law 216 = .ok (.iconst 1, 1) := by decide +kernel
theorem dL_law_217 : decode cL_law 217 = .ok (.iadd, 1) := by decide +kernel
theorem dL_law_218 : decode cL_law 218 = .ok (.iaload, 1) := by decide +kernel
theorem dL_law_219 : decode cL_law 219 = .ok (.aload_n 0, 1) := by decide +kernel
theorem dL_law_220 : decode cL_law 220 = .ok (.iload_n 3, 1) := by decide +kernel
theorem dL_law_221 : decode cL_law 221 = .ok (.iconst 2, 1) := by decide +kernel
theorem dL_law_222 : decode cL_law 222 = .ok (.iadd, 1) := by decide +kernel
theorem dL_law_223 : decode cL_law 223 = .ok (.iaload, 1) := by decide +kernel
theorem dL_law_224 : decode cL_law 224 = .ok (.invokevirtual 27, 3) := by decide +kernel
theorem dL_law_227 : decode cL_law 227 = .ok (.aload_n 2, 1) := by decide +kernel
theorem dL_law_228 : decode cL_law 228 = .ok (.aload_n 0, 1) := by decide +kernel
theorem dL_law_229 : decode cL_law 229 = .ok (.iload_n 3, 1) := by decide +kernel
theorem dL_law_230 : decode cL_law 230 = .ok (.iconst 1, 1) := by decide +kernel
theorem dL_law_231 : decode cL_law 231 = .ok (.iadd, 1) := by decide +kernel
theorem dL_law_232 : decode cL_law 232 = .ok (.iaload, 1) := by decide +kernel
theorem dL_law_233 : decode cL_law 233 = .ok (.aload_n 0, 1) := by decide +kernel
theorem dL_law_234 : decode cL_law 234 = .ok (.iload_n 3, 1) := by decide +kernel
theorem dL_law_235 : decode cL_law 235 = .ok (.iconst 2, 1) := by decide +kernel
theorem dL_law_236 : decode cL_law 236 = .ok (.iadd, 1) := by decide +kernel
theorem dL_law_237 : decode cL_law 237 = .ok (.iaload, 1) := by decide +kernel
theorem dL_law_238 : decode cL_law 238 = .ok (.invokevirtual 31, 3) := by decide +kernel
theorem dL_law_241 : decode cL_law 241 = .ok (.if_icmp .eq 571, 3) := by decide +kernel
theorem dL_law_244 : decode cL_law 244 = .ok (.iconst 0, 1) := by decide +kernel
theorem dL_law_245 : decode cL_law 245 = .ok (.ireturn, 1) := by decide +kernel
theorem dL_law_246 : decode cL_law 246 = .ok (.aload_n 1, 1) := by decide +kernel
theorem dL_law_247 : decode cL_law 247 = .ok (.aload_n 0, 1) := by decide +kernel
theorem dL_law_248 : decode cL_law 248 = .ok (.iload_n 3, 1) := by decide +kernel
theorem dL_law_249 : decode cL_law 249 = .ok (.iconst 1, 1) := by decide +kernel
theorem dL_law_250 : decode cL_law 250 = .ok (.iadd, 1) := by decide +kernel
theorem dL_law_251 : decode cL_law 251 = .ok (.iaload, 1) := by decide +kernel
theorem dL_law_252 : decode cL_law 252 = .ok (.invokevirtual 32, 3) := by decide +kernel
theorem dL_law_255 : decode cL_law 255 = .ok (.aload_n 2, 1) := by decide +kernel
theorem dL_law_256 : decode cL_law 256 = .ok (.aload_n 0, 1) := by decide +kernel
theorem dL_law_257 : decode cL_law 257 = .ok (.iload_n 3, 1) := by decide +kernel
theorem dL_law_258 : decode cL_law 258 = .ok (.iconst 1, 1) := by decide +kernel
theorem dL_law_259 : decode cL_law 259 = .ok (.iadd, 1) := by decide +kernel
theorem dL_law_260 : decode cL_law 260 = .ok (.iaload, 1) := by decide +kernel
theorem dL_law_261 : decode cL_law 261 = .ok (.invokevirtual 35, 3) := by decide +kernel
theorem dL_law_264 : decode cL_law 264 = .ok (.if_icmp .eq 548, 3) := by decide +kernel
theorem dL_law_267 : decode cL_law 267 = .ok (.iconst 0, 1) := by decide +kernel
theorem dL_law_268 : decode cL_law 268 = .ok (.ireturn, 1) := by decide +kernel
theorem dL_law_269 : decode cL_law 269 = .ok (.aload_n 1, 1) := by decide +kernel
theorem dL_law_270 : decode cL_law 270 = .ok (.aload_n 0, 1) := by decide +kernel
theorem dL_law_271 : decode cL_law 271 = .ok (.iload_n 3, 1) := by decide +kernel
theorem dL_law_272 : decode cL_law 272 = .ok (.iconst 1, 1) := by decide +kernel
theorem dL_law_273 : decode cL_law 273 = .ok (.iadd, 1) := by decide +kernel
theorem dL_law_274 : decode cL_law 274 = .ok (.iaload, 1) := by decide +kernel
theorem dL_law_275 : decode cL_law 275 = .ok (.invokevirtual 36, 3) := by decide +kernel
theorem dL_law_278 : decode cL_law 278 = .ok (.aload_n 2, 1) := by decide +kernel
theorem dL_law_279 : decode cL_law 279 = .ok (.aload_n 0, 1) := by decide +kernel
theorem dL_law_280 : decode cL_law 280 = .ok (.iload_n 3, 1) := by decide +kernel
theorem dL_law_281 : decode cL_law 281 = .ok (.iconst 1, 1) := by decide +kernel
theorem dL_law_282 : decode cL_law 282 = .ok (.iadd, 1) := by decide +kernel
theorem dL_law_283 : decode cL_law 283 = .ok (.iaload, 1) := by decide +kernel
theorem dL_law_284 : decode cL_law 284 = .ok (.invokevirtual 39, 3) := by decide +kernel
theorem dL_law_287 : decode cL_law 287 = .ok (.if_icmp .eq 525, 3) := by decide +kernel
theorem dL_law_290 : decode cL_law 290 = .ok (.iconst 0, 1) := by decide +kernel
theorem dL_law_291 : decode cL_law 291 = .ok (.ireturn, 1) := by decide +kernel
theorem dL_law_292 : decode cL_law 292 = .ok (.aload_n 1, 1) := by decide +kernel
theorem dL_law_293 : decode cL_law 293 = .ok (.invokevirtual 40, 3) := by decide +kernel
theorem dL_law_296 : decode cL_law 296 = .ok (.aload_n 2, 1) := by decide +kernel
theorem dL_law_297 : decode cL_law 297 = .ok (.invokevirtual 43, 3) := by decide +kernel
theorem dL_law_300 : decode cL_law 300 = .ok (.if_icmp .eq 512, 3) := by decide +kernel
theorem dL_law_303 : decode cL_law 303 = .ok (.iconst 0, 1) := by decide +kernel
theorem dL_law_304 : decode cL_law 304 = .ok (.ireturn, 1) := by decide +kernel
theorem dL_law_305 : decode cL_law 305 = .ok (.aload_n 1, 1) := by decide +kernel
theorem dL_law_306 : decode cL_law 306 = .ok (.aload_n 0, 1) := by decide +kernel
theorem dL_law_307 : decode cL_law 307 = .ok (.iload_n 3, 1) := by decide +kernel
theorem dL_law_308 : decode cL_law 308 = .ok (.iconst 1, 1) := by decide +kernel
theorem dL_law_309 : decode cL_law 309 = .ok (.iadd, 1) := by decide +kernel
theorem dL_law_310 : decode cL_law 310 = .ok (.iaload, 1) := by decide +kernel
theorem dL_law_311 : decode cL_law 311 = .ok (.invokevirtual 44, 3) := by decide +kernel
theorem dL_law_314 : decode cL_law 314 = .ok (.aload_n 2, 1) := by decide +kernel
theorem dL_law_315 : decode cL_law 315 = .ok (.aload_n 0, 1) := by decide +kernel
theorem dL_law_316 : decode cL_law 316 = .ok (.iload_n 3, 1) := by decide +kernel
theorem dL_law_317 : decode cL_law 317 = .ok (.iconst 1, 1) := by decide +kernel
theorem dL_law_318 : decode cL_law 318 = .ok (.iadd, 1) := by decide +kernel
theorem dL_law_319 : decode cL_law 319 = .ok (.iaload, 1) := by decide +kernel
theorem dL_law_320 : decode cL_law 320 = .ok (.invokevirtual 47, 3) := by decide +kernel
theorem dL_law_323 : decode cL_law 323 = .ok (.if_icmp .eq 489, 3) := by decide +kernel
theorem dL_law_326 : decode cL_law 326 = .ok (.iconst 0, 1) := by decide +kernel
theorem dL_law_327 : decode cL_law 327 = .ok (.ireturn, 1) := by decide +kernel
theorem dL_law_328 : decode cL_law 328 = .ok (.aload_n 1, 1) := by decide +kernel
theorem dL_law_329 : decode cL_law 329 = .ok (.aload_n 0, 1) := by decide +kernel
theorem dL_law_330 : decode cL_law 330 = .ok (.iload_n 3, 1) := by decide +kernel
theorem dL_law_331 : decode cL_law 331 = .ok (.iconst 1, 1) := by decide +kernel
theorem dL_law_332 : decode cL_law 332 = .ok (.iadd, 1) := by decide +kernel
theorem dL_law_333 : decode cL_law 333 = .ok (.iaload, 1) := by decide +kernel
theorem dL_law_334 : decode cL_law 334 = .ok (.aload_n 0, 1) := by decide +kernel
theorem dL_law_335 : decode cL_law 335 = .ok (.iload_n 3, 1) := by decide +kernel
theorem dL_law_336 : decode cL_law 336 = .ok (.iconst 2, 1) := by decide +kernel
theorem dL_law_337 : decode cL_law 337 = .ok (.iadd, 1) := by decide +kernel
theorem dL_law_338 : decode cL_law 338 = .ok (.iaload, 1) := by decide +kernel
theorem dL_law_339 : decode cL_law 339 = .ok (.invokevirtual 48, 3) := by decide +kernel
theorem dL_law_342 : decode cL_law 342 = .ok (.aload_n 2, 1) := by decide +kernel
theorem dL_law_343 : decode cL_law 343 = .ok (.aload_n 0, 1) := by decide +kernel
theorem dL_law_344 : decode cL_law 344 = .ok (.iload_n 3, 1) := by decide +kernel
theorem dL_law_345 : decode cL_law 345 = .ok (.iconst 1, 1) := by decide +kernel
theorem dL_law_346 : decode cL_law 346 = .ok (.iadd, 1) := by decide +kernel
theorem dL_law_347 : decode cL_law 347 = .ok (.iaload, 1) := by decide +kernel
theorem dL_law_348 : decode cL_law 348 = .ok (.aload_n 0, 1) := by decide +kernel
theorem dL_law_349 : decode cL_law 349 = .ok (.iload_n 3, 1) := by decide +kernel
theorem dL_law_350 : decode cL_law 350 = .ok (.iconst 2, 1) := by decide +kernel
theorem dL_law_351 : decode cL_law 351 = .ok (.iadd, 1) := by decide +kernel
theorem dL_law_352 : decode cL_law 352 = .ok (.iaload, 1) := by decide +kernel
theorem dL_law_353 : decode cL_law 353 = .ok (.invokevirtual 51, 3) := by decide +kernel
theorem dL_law_356 : decode cL_law 356 = .ok (.if_icmp .eq 456, 3) := by decide +kernel
theorem dL_law_359 : decode cL_law 359 = .ok (.iconst 0, 1) := by decide +kernel
theorem dL_law_360 : decode cL_law 360 = .ok (.ireturn, 1) := by decide +kernel
theorem dL_law_361 : decode cL_law 361 = .ok (.aload_n 1, 1) := by decide +kernel
theorem dL_law_362 : decode cL_law 362 = .ok (.aload_n 0, 1) := by decide +kernel
theorem dL_law_363 : decode cL_law 363 = .ok (.iload_n 3, 1) := by decide +kernel
theorem dL_law_364 : decode cL_law 364 = .ok (.iconst 1, 1) := by decide +kernel
theorem dL_law_365 : decode cL_law 365 = .ok (.iadd, 1) := by decide +kernel
theorem dL_law_366 : decode cL_law 366 = .ok (.iaload, 1) := by decide +kernel
theorem dL_law_367 : decode cL_law 367 = .ok (.invokevirtual 52, 3) := by decide +kernel
theorem dL_law_370 : decode cL_law 370 = .ok (.aload_n 2, 1) := by decide +kernel
theorem dL_law_371 : decode cL_law 371 = .ok (.aload_n 0, 1) := by decide +kernel
theorem dL_law_372 : decode cL_law 372 = .ok (.iload_n 3, 1) := by decide +kernel
theorem dL_law_373 : decode cL_law 373 = .ok (.iconst 1, 1) := by decide +kernel
theorem dL_law_374 : decode cL_law 374 = .ok (.iadd, 1) := by decide +kernel
theorem dL_law_375 : decode cL_law 375 = .ok (.iaload, 1) := by decide +kernel
theorem dL_law_376 : decode cL_law 376 = .ok (.invokevirtual 55, 3) := by decide +kernel
theorem dL_law_379 : decode cL_law 379 = .ok (.if_icmp .eq 433, 3) := by decide +kernel
theorem dL_law_382 : decode cL_law 382 = .ok (.iconst 0, 1) := by decide +kernel
theorem dL_law_383 : decode cL_law 383 = .ok (.ireturn, 1) := by decide +kernel
theorem dL_law_384 : decode cL_law 384 = .ok (.aload_n 1, 1) := by decide +kernel
theorem dL_law_385 : decode cL_law 385 = .ok (.invokevirtual 56, 3) := by decide +kernel
theorem dL_law_388 : decode cL_law 388 = .ok (.aload_n 2, 1) := by decide +kernel
theorem dL_law_389 : decode cL_law 389 = .ok (.invokevirtual 59, 3) := by decide +kernel
theorem dL_law_392 : decode cL_law 392 = .ok (.if_icmp .eq 420, 3) := by decide +kernel
theorem dL_law_395 : decode cL_law 395 = .ok (.iconst 0, 1) := by decide +kernel
theorem dL_law_396 : decode cL_law 396 = .ok (.ireturn, 1) := by decide +kernel
theorem dL_law_397 : decode cL_law 397 = .ok (.aload_n 1, 1) := by decide +kernel
theorem dL_law_398 : decode cL_law 398 = .ok (.aload_n 0, 1) := by decide +kernel
theorem dL_law_399 : decode cL_law 399 = .ok (.iload_n 3, 1) := by decide +kernel
theorem dL_law_400 : decode cL_law 400 = .ok (.iconst 1, 1) := by decide +kernel
theorem dL_law_401 : decode cL_law 401 = .ok (.iadd, 1) := by decide +kernel
theorem dL_law_402 : decode cL_law 402 = .ok (.iaload, 1) := by decide +kernel
theorem dL_law_403 : decode cL_law 403 = .ok (.aload_n 0, 1) := by decide +kernel
theorem dL_law_404 : decode cL_law 404 = .ok (.iload_n 3, 1) := by decide +kernel
theorem dL_law_405 : decode cL_law 405 = .ok (.iconst 2, 1) := by decide +kernel
theorem dL_law_406 : decode cL_law 406 = .ok (.iadd, 1) := by decide +kernel
theorem dL_law_407 : decode cL_law 407 = .ok (.iaload, 1) := by decide +kernel
theorem dL_law_408 : decode cL_law 408 = .ok (.invokevirtual 60, 3) := by decide +kernel
theorem dL_law_411 : decode cL_law 411 = .ok (.aload_n 2, 1) := by decide +kernel
theorem dL_law_412 : decode cL_law 412 = .ok (.aload_n 0, 1) := by decide +kernel
theorem dL_law_413 : decode cL_law 413 = .ok (.iload_n 3, 1) := by decide +kernel
theorem dL_law_414 : decode cL_law 414 = .ok (.iconst 1, 1) := by decide +kernel
theorem dL_law_415 : decode cL_law 415 = .ok (.iadd, 1) := by decide +kernel
theorem dL_law_416 : decode cL_law 416 = .ok (.iaload, 1) := by decide +kernel
theorem dL_law_417 : decode cL_law 417 = .ok (.aload_n 0, 1) := by decide +kernel
theorem dL_law_418 : decode cL_law 418 = .ok (.iload_n 3, 1) := by decide +kernel
theorem dL_law_419 : decode cL_law 419 = .ok (.iconst 2, 1) := by decide +kernel
theorem dL_law_420 : decode cL_law 420 = .ok (.iadd, 1) := by decide +kernel
theorem dL_law_421 : decode cL_law 421 = .ok (.iaload, 1) := by decide +kernel
theorem dL_law_422 : decode cL_law 422 = .ok (.invokevirtual 63, 3) := by decide +kernel
theorem dL_law_425 : decode cL_law 425 = .ok (.if_icmp .eq 387, 3) := by decide +kernel
theorem dL_law_428 : decode cL_law 428 = .ok (.iconst 0, 1) := by decide +kernel
theorem dL_law_429 : decode cL_law 429 = .ok (.ireturn, 1) := by decide +kernel
theorem dL_law_430 : decode cL_law 430 = .ok (.aload_n 1, 1) := by decide +kernel
theorem dL_law_431 : decode cL_law 431 = .ok (.invokevirtual 64, 3) := by decide +kernel
theorem dL_law_434 : decode cL_law 434 = .ok (.aload_n 2, 1) := by decide +kernel
theorem dL_law_435 : decode cL_law 435 = .ok (.invokevirtual 67, 3) := by decide +kernel
theorem dL_law_438 : decode cL_law 438 = .ok (.if_icmp .eq 374, 3) := by decide +kernel
theorem dL_law_441 : decode cL_law 441 = .ok (.iconst 0, 1) := by decide +kernel
theorem dL_law_442 : decode cL_law 442 = .ok (.ireturn, 1) := by decide +kernel
theorem dL_law_443 : decode cL_law 443 = .ok (.aload_n 1, 1) := by decide +kernel
theorem dL_law_444 : decode cL_law 444 = .ok (.invokevirtual 68, 3) := by decide +kernel
theorem dL_law_447 : decode cL_law 447 = .ok (.aload_n 2, 1) := by decide +kernel
theorem dL_law_448 : decode cL_law 448 = .ok (.invokevirtual 71, 3) := by decide +kernel
theorem dL_law_451 : decode cL_law 451 = .ok (.if_icmp .eq 361, 3) := by decide +kernel
theorem dL_law_454 : decode cL_law 454 = .ok (.iconst 0, 1) := by decide +kernel
theorem dL_law_455 : decode cL_law 455 = .ok (.ireturn, 1) := by decide +kernel
theorem dL_law_456 : decode cL_law 456 = .ok (.aload_n 1, 1) := by decide +kernel
theorem dL_law_457 : decode cL_law 457 = .ok (.aload_n 0, 1) := by decide +kernel
theorem dL_law_458 : decode cL_law 458 = .ok (.iload_n 3, 1) := by decide +kernel
theorem dL_law_459 : decode cL_law 459 = .ok (.iconst 1, 1) := by decide +kernel
theorem dL_law_460 : decode cL_law 460 = .ok (.iadd, 1) := by decide +kernel
theorem dL_law_461 : decode cL_law 461 = .ok (.iaload, 1) := by decide +kernel
theorem dL_law_462 : decode cL_law 462 = .ok (.invokevirtual 72, 3) := by decide +kernel
theorem dL_law_465 : decode cL_law 465 = .ok (.aload_n 2, 1) := by decide +kernel
theorem dL_law_466 : decode cL_law 466 = .ok (.aload_n 0, 1) := by decide +kernel
theorem dL_law_467 : decode cL_law 467 = .ok (.iload_n 3, 1) := by decide +kernel
theorem dL_law_468 : decode cL_law 468 = .ok (.iconst 1, 1) := by decide +kernel
theorem dL_law_469 : decode cL_law 469 = .ok (.iadd, 1) := by decide +kernel
theorem dL_law_470 : decode cL_law 470 = .ok (.iaload, 1) := by decide +kernel
theorem dL_law_471 : decode cL_law 471 = .ok (.invokevirtual 75, 3) := by decide +kernel
theorem dL_law_474 : decode cL_law 474 = .ok (.if_icmp .eq 338, 3) := by decide +kernel
theorem dL_law_477 : decode cL_law 477 = .ok (.iconst 0, 1) := by decide +kernel
theorem dL_law_478 : decode cL_law 478 = .ok (.ireturn, 1) := by decide +kernel
theorem dL_law_479 : decode cL_law 479 = .ok (.aload_n 1, 1) := by decide +kernel
theorem dL_law_480 : decode cL_law 480 = .ok (.invokevirtual 76, 3) := by decide +kernel
theorem dL_law_483 : decode cL_law 483 = .ok (.aload_n 2, 1) := by decide +kernel
theorem dL_law_484 : decode cL_law 484 = .ok (.invokevirtual 79, 3) := by decide +kernel
theorem dL_law_487 : decode cL_law 487 = .ok (.if_icmp .eq 325, 3) := by decide +kernel
theorem dL_law_490 : decode cL_law 490 = .ok (.iconst 0, 1) := by decide +kernel
theorem dL_law_491 : decode cL_law 491 = .ok (.ireturn, 1) := by decide +kernel
theorem dL_law_492 : decode cL_law 492 = .ok (.aload_n 1, 1) := by decide +kernel
theorem dL_law_493 : decode cL_law 493 = .ok (.invokevirtual 80, 3) := by decide +kernel
theorem dL_law_496 : decode cL_law 496 = .ok (.aload_n 2, 1) := by decide +kernel
theorem dL_law_497 : decode cL_law 497 = .ok (.invokevirtual 83, 3) := by decide +kernel
theorem dL_law_500 : decode cL_law 500 = .ok (.if_icmp .eq 312, 3) := by decide +kernel
theorem dL_law_503 : decode cL_law 503 = .ok (.iconst 0, 1) := by decide +kernel
theorem dL_law_504 : decode cL_law 504 = .ok (.ireturn, 1) := by decide +kernel
theorem dL_law_505 : decode cL_law 505 = .ok (.aload_n 1, 1) := by decide +kernel
theorem dL_law_506 : decode cL_law 506 = .ok (.aload_n 0, 1) := by decide +kernel
theorem dL_law_507 : decode cL_law 507 = .ok (.iload_n 3, 1) := by decide +kernel
theorem dL_law_508 : decode cL_law 508 = .ok (.iconst 1, 1) := by decide +kernel
theorem dL_law_509 : decode cL_law 509 = .ok (.iadd, 1) := by decide +kernel
theorem dL_law_510 : decode cL_law 510 = .ok (.iaload, 1) := by decide +kernel
theorem dL_law_511 : decode cL_law 511 = .ok (.aload_n 0, 1) := by decide +kernel
theorem dL_law_512 : decode cL_law 512 = .ok (.iload_n 3, 1) := by decide +kernel
theorem dL_law_513 : decode cL_law 513 = .ok (.iconst 2, 1) := by decide +kernel
theorem dL_law_514 : decode cL_law 514 = .ok (.iadd, 1) := by decide +kernel
theorem dL_law_515 : decode cL_law 515 = .ok (.iaload, 1) := by decide +kernel
theorem dL_law_516 : decode cL_law 516 = .ok (.aload_n 0, 1) := by decide +kernel
theorem dL_law_517 : decode cL_law 517 = .ok (.iload_n 3, 1) := by decide +kernel
theorem dL_law_518 : decode cL_law 518 = .ok (.iconst 3, 1) := by decide +kernel
theorem dL_law_519 : decode cL_law 519 = .ok (.iadd, 1) := by decide +kernel
theorem dL_law_520 : decode cL_law 520 = .ok (.iaload, 1) := by decide +kernel
theorem dL_law_521 : decode cL_law 521 = .ok (.invokevirtual 84, 3) := by decide +kernel
theorem dL_law_524 : decode cL_law 524 = .ok (.aload_n 2, 1) := by decide +kernel
theorem dL_law_525 : decode cL_law 525 = .ok (.aload_n 0, 1) := by decide +kernel
theorem dL_law_526 : decode cL_law 526 = .ok (.iload_n 3, 1) := by decide +kernel
theorem dL_law_527 : decode cL_law 527 = .ok (.iconst 1, 1) := by decide +kernel
theorem dL_law_528 : decode cL_law 528 = .ok (.iadd, 1) := by decide +kernel
theorem dL_law_529 : decode cL_law 529 = .ok (.iaload, 1) := by decide +kernel
theorem dL_law_530 : decode cL_law 530 = .ok (.aload_n 0, 1) := by decide +kernel
theorem dL_law_531 : decode cL_law 531 = .ok (.iload_n 3, 1) := by decide +kernel
theorem dL_law_532 : decode cL_law 532 = .ok (.iconst 2, 1) := by decide +kernel
theorem dL_law_533 : decode cL_law 533 = .ok (.iadd, 1) := by decide +kernel
theorem dL_law_534 : decode cL_law 534 = .ok (.iaload, 1) := by decide +kernel
theorem dL_law_535 : decode cL_law 535 = .ok (.aload_n 0, 1) := by decide +kernel
theorem dL_law_536 : decode cL_law 536 = .ok (.iload_n 3, 1) := by decide +kernel
theorem dL_law_537 : decode cL_law 537 = .ok (.iconst 3, 1) := by decide +kernel
theorem dL_law_538 : decode cL_law 538 = .ok (.iadd, 1) := by decide +kernel
theorem dL_law_539 : decode cL_law 539 = .ok (.iaload, 1) := by decide +kernel
theorem dL_law_540 : decode cL_law 540 = .ok (.invokevirtual 88, 3) := by decide +kernel
theorem dL_law_543 : decode cL_law 543 = .ok (.if_icmp .eq 269, 3) := by decide +kernel
theorem dL_law_546 : decode cL_law 546 = .ok (.iconst 0, 1) := by decide +kernel
theorem dL_law_547 : decode cL_law 547 = .ok (.ireturn, 1) := by decide +kernel
theorem dL_law_548 : decode cL_law 548 = .ok (.aload_n 1, 1) := by decide +kernel
theorem dL_law_549 : decode cL_law 549 = .ok (.invokevirtual 89, 3) := by decide +kernel
theorem dL_law_552 : decode cL_law 552 = .ok (.aload_n 2, 1) := by decide +kernel
theorem dL_law_553 : decode cL_law 553 = .ok (.invokevirtual 92, 3) := by decide +kernel
theorem dL_law_556 : decode cL_law 556 = .ok (.if_icmp .eq 256, 3) := by decide +kernel
theorem dL_law_559 : decode cL_law 559 = .ok (.iconst 0, 1) := by decide +kernel
theorem dL_law_560 : decode cL_law 560 = .ok (.ireturn, 1) := by decide +kernel
theorem dL_law_561 : decode cL_law 561 = .ok (.aload_n 1, 1) := by decide +kernel
theorem dL_law_562 : decode cL_law 562 = .ok (.aload_n 0, 1) := by decide +kernel
theorem dL_law_563 : decode cL_law 563 = .ok (.iload_n 3, 1) := by decide +kernel
theorem dL_law_564 : decode cL_law 564 = .ok (.iconst 1, 1) := by decide +kernel
theorem dL_law_565 : decode cL_law 565 = .ok (.iadd, 1) := by decide +kernel
theorem dL_law_566 : decode cL_law 566 = .ok (.iaload, 1) := by decide +kernel
theorem dL_law_567 : decode cL_law 567 = .ok (.invokevirtual 93, 3) := by decide +kernel
theorem dL_law_570 : decode cL_law 570 = .ok (.aload_n 2, 1) := by decide +kernel
theorem dL_law_571 : decode cL_law 571 = .ok (.aload_n 0, 1) := by decide +kernel
theorem dL_law_572 : decode cL_law 572 = .ok (.iload_n 3, 1) := by decide +kernel
theorem dL_law_573 : decode cL_law 573 = .ok (.iconst 1, 1) := by decide +kernel
theorem dL_law_574 : decode cL_law 574 = .ok (.iadd, 1) := by decide +kernel
theorem dL_law_575 : decode cL_law 575 = .ok (.iaload, 1) := by decide +kernel
theorem dL_law_576 : decode cL_law 576 = .ok (.invokevirtual 96, 3) := by decide +kernel
theorem dL_law_579 : decode cL_law 579 = .ok (.if_icmp .eq 233, 3) := by decide +kernel
theorem dL_law_582 : decode cL_law 582 = .ok (.iconst 0, 1) := by decide +kernel
theorem dL_law_583 : decode cL_law 583 = .ok (.ireturn, 1) := by decide +kernel
theorem dL_law_584 : decode cL_law 584 = .ok (.aload_n 1, 1) := by decide +kernel
theorem dL_law_585 : decode cL_law 585 = .ok (.aload_n 0, 1) := by decide +kernel
theorem dL_law_586 : decode cL_law 586 = .ok (.iload_n 3, 1) := by decide +kernel
theorem dL_law_587 : decode cL_law 587 = .ok (.iconst 1, 1) := by decide +kernel
theorem dL_law_588 : decode cL_law 588 = .ok (.iadd, 1) := by decide +kernel
theorem dL_law_589 : decode cL_law 589 = .ok (.iaload, 1) := by decide +kernel
theorem dL_law_590 : decode cL_law 590 = .ok (.aload_n 0, 1) := by decide +kernel
theorem dL_law_591 : decode cL_law 591 = .ok (.iload_n 3, 1) := by decide +kernel
theorem dL_law_592 : decode cL_law 592 = .ok (.iconst 2, 1) := by decide +kernel
theorem dL_law_593 : decode cL_law 593 = .ok (.iadd, 1) := by decide +kernel
theorem dL_law_594 : decode cL_law 594 = .ok (.iaload, 1) := by decide +kernel
theorem dL_law_595 : decode cL_law 595 = .ok (.invokevirtual 97, 3) := by decide +kernel
theorem dL_law_598 : decode cL_law 598 = .ok (.aload_n 2, 1) := by decide +kernel
theorem dL_law_599 : decode cL_law 599 = .ok (.aload_n 0, 1) := by decide +kernel
theorem dL_law_600 : decode cL_law 600 = .ok (.iload_n 3, 1) := by decide +kernel
theorem dL_law_601 : decode cL_law 601 = .ok (.iconst 1, 1) := by decide +kernel
theorem dL_law_602 : decode cL_law 602 = .ok (.iadd, 1) := by decide +kernel
theorem dL_law_603 : decode cL_law 603 = .ok (.iaload, 1) := by decide +kernel
theorem dL_law_604 : decode cL_law 604 = .ok (.aload_n 0, 1) := by decide +kernel
theorem dL_law_605 : decode cL_law 605 = .ok (.iload_n 3, 1) := by decide +kernel
theorem dL_law_606 : decode cL_law 606 = .ok (.iconst 2, 1) := by decide +kernel
theorem dL_law_607 : decode cL_law 607 = .ok (.iadd, 1) := by decide +kernel
theorem dL_law_608 : decode cL_law 608 = .ok (.iaload, 1) := by decide +kernel
theorem dL_law_609 : decode cL_law 609 = .ok (.invokevirtual 100, 3) := by decide +kernel
theorem dL_law_612 : decode cL_law 612 = .ok (.if_icmp .eq 200, 3) := by decide +kernel
theorem dL_law_615 : decode cL_law 615 = .ok (.iconst 0, 1) := by decide +kernel
theorem dL_law_616 : decode cL_law 616 = .ok (.ireturn, 1) := by decide +kernel
theorem dL_law_617 : decode cL_law 617 = .ok (.aload_n 1, 1) := by decide +kernel
theorem dL_law_618 : decode cL_law 618 = .ok (.invokevirtual 101, 3) := by decide +kernel
theorem dL_law_621 : decode cL_law 621 = .ok (.aload_n 2, 1) := by decide +kernel
theorem dL_law_622 : decode cL_law 622 = .ok (.invokevirtual 104, 3) := by decide +kernel
theorem dL_law_625 : decode cL_law 625 = .ok (.if_icmp .eq 187, 3) := by decide +kernel
theorem dL_law_628 : decode cL_law 628 = .ok (.iconst 0, 1) := by decide +kernel
theorem dL_law_629 : decode cL_law 629 = .ok (.ireturn, 1) := by decide +kernel
theorem dL_law_630 : decode cL_law 630 = .ok (.aload_n 1, 1) := by decide +kernel
theorem dL_law_631 : decode cL_law 631 = .ok (.invokevirtual 105, 3) := by decide +kernel
theorem dL_law_634 : decode cL_law 634 = .ok (.aload_n 2, 1) := by decide +kernel
theorem dL_law_635 : decode cL_law 635 = .ok (.invokevirtual 108, 3) := by decide +kernel
theorem dL_law_638 : decode cL_law 638 = .ok (.if_icmp .eq 174, 3) := by decide +kernel
theorem dL_law_641 : decode cL_law 641 = .ok (.iconst 0, 1) := by decide +kernel
theorem dL_law_642 : decode cL_law 642 = .ok (.ireturn, 1) := by decide +kernel
theorem dL_law_643 : decode cL_law 643 = .ok (.aload_n 1, 1) := by decide +kernel
theorem dL_law_644 : decode cL_law 644 = .ok (.aload_n 0, 1) := by decide +kernel
theorem dL_law_645 : decode cL_law 645 = .ok (.iload_n 3, 1) := by decide +kernel
theorem dL_law_646 : decode cL_law 646 = .ok (.iconst 1, 1) := by decide +kernel
theorem dL_law_647 : decode cL_law 647 = .ok (.iadd, 1) := by decide +kernel
theorem dL_law_648 : decode cL_law 648 = .ok (.iaload, 1) := by decide +kernel
theorem dL_law_649 : decode cL_law 649 = .ok (.aload_n 0, 1) := by decide +kernel
theorem dL_law_650 : decode cL_law 650 = .ok (.iload_n 3, 1) := by decide +kernel
theorem dL_law_651 : decode cL_law 651 = .ok (.iconst 2, 1) := by decide +kernel
theorem dL_law_652 : decode cL_law 652 = .ok (.iadd, 1) := by decide +kernel
theorem dL_law_653 : decode cL_law 653 = .ok (.iaload, 1) := by decide +kernel
theorem dL_law_654 : decode cL_law 654 = .ok (.aload_n 0, 1) := by decide +kernel
theorem dL_law_655 : decode cL_law 655 = .ok (.iload_n 3, 1) := by decide +kernel
theorem dL_law_656 : decode cL_law 656 = .ok (.iconst 3, 1) := by decide +kernel
theorem dL_law_657 : decode cL_law 657 = .ok (.iadd, 1) := by decide +kernel
theorem dL_law_658 : decode cL_law 658 = .ok (.iaload, 1) := by decide +kernel
theorem dL_law_659 : decode cL_law 659 = .ok (.aload_n 0, 1) := by decide +kernel
theorem dL_law_660 : decode cL_law 660 = .ok (.iload_n 3, 1) := by decide +kernel
theorem dL_law_661 : decode cL_law 661 = .ok (.iconst 4, 1) := by decide +kernel
theorem dL_law_662 : decode cL_law 662 = .ok (.iadd, 1) := by decide +kernel
theorem dL_law_663 : decode cL_law 663 = .ok (.iaload, 1) := by decide +kernel
theorem dL_law_664 : decode cL_law 664 = .ok (.invokevirtual 109, 3) := by decide +kernel
theorem dL_law_667 : decode cL_law 667 = .ok (.aload_n 2, 1) := by decide +kernel
theorem dL_law_668 : decode cL_law 668 = .ok (.aload_n 0, 1) := by decide +kernel
theorem dL_law_669 : decode cL_law 669 = .ok (.iload_n 3, 1) := by decide +kernel
theorem dL_law_670 : decode cL_law 670 = .ok (.iconst 1, 1) := by decide +kernel
theorem dL_law_671 : decode cL_law 671 = .ok (.iadd, 1) := by decide +kernel
theorem dL_law_672 : decode cL_law 672 = .ok (.iaload, 1) := by decide +kernel
theorem dL_law_673 : decode cL_law 673 = .ok (.aload_n 0, 1) := by decide +kernel
theorem dL_law_674 : decode cL_law 674 = .ok (.iload_n 3, 1) := by decide +kernel
theorem dL_law_675 : decode cL_law 675 = .ok (.iconst 2, 1) := by decide +kernel
theorem dL_law_676 : decode cL_law 676 = .ok (.iadd, 1) := by decide +kernel
theorem dL_law_677 : decode cL_law 677 = .ok (.iaload, 1) := by decide +kernel
theorem dL_law_678 : decode cL_law 678 = .ok (.aload_n 0, 1) := by decide +kernel
theorem dL_law_679 : decode cL_law 679 = .ok (.iload_n 3, 1) := by decide +kernel
theorem dL_law_680 : decode cL_law 680 = .ok (.iconst 3, 1) := by decide +kernel
theorem dL_law_681 : decode cL_law 681 = .ok (.iadd, 1) := by decide +kernel
theorem dL_law_682 : decode cL_law 682 = .ok (.iaload, 1) := by decide +kernel
theorem dL_law_683 : decode cL_law 683 = .ok (.aload_n 0, 1) := by decide +kernel
theorem dL_law_684 : decode cL_law 684 = .ok (.iload_n 3, 1) := by decide +kernel
theorem dL_law_685 : decode cL_law 685 = .ok (.iconst 4, 1) := by decide +kernel
theorem dL_law_686 : decode cL_law 686 = .ok (.iadd, 1) := by decide +kernel
theorem dL_law_687 : decode cL_law 687 = .ok (.iaload, 1) := by decide +kernel
theorem dL_law_688 : decode cL_law 688 = .ok (.invokevirtual 113, 3) := by decide +kernel
theorem dL_law_691 : decode cL_law 691 = .ok (.if_icmp .eq 121, 3) := by decide +kernel
theorem dL_law_694 : decode cL_law 694 = .ok (.iconst 0, 1) := by decide +kernel
theorem dL_law_695 : decode cL_law 695 = .ok (.ireturn, 1) := by decide +kernel
theorem dL_law_696 : decode cL_law 696 = .ok (.aload_n 1, 1) := by decide +kernel
theorem dL_law_697 : decode cL_law 697 = .ok (.aload_n 0, 1) := by decide +kernel
theorem dL_law_698 : decode cL_law 698 = .ok (.iload_n 3, 1) := by decide +kernel
theorem dL_law_699 : decode cL_law 699 = .ok (.iconst 1, 1) := by decide +kernel
theorem dL_law_700 : decode cL_law 700 = .ok (.iadd, 1) := by decide +kernel
theorem dL_law_701 : decode cL_law 701 = .ok (.iaload, 1) := by decide +kernel
theorem dL_law_702 : decode cL_law 702 = .ok (.aload_n 0, 1) := by decide +kernel
theorem dL_law_703 : decode cL_law 703 = .ok (.iload_n 3, 1) := by decide +kernel
theorem dL_law_704 : decode cL_law 704 = .ok (.iconst 2, 1) := by decide +kernel
theorem dL_law_705 : decode cL_law 705 = .ok (.iadd, 1) := by decide +kernel
theorem dL_law_706 : decode cL_law 706 = .ok (.iaload, 1) := by decide +kernel
theorem dL_law_707 : decode cL_law 707 = .ok (.invokevirtual 114, 3) := by decide +kernel
theorem dL_law_710 : decode cL_law 710 = .ok (.aload_n 2, 1) := by decide +kernel
theorem dL_law_711 : decode cL_law 711 = .ok (.aload_n 0, 1) := by decide +kernel
theorem dL_law_712 : decode cL_law 712 = .ok (.iload_n 3, 1) := by decide +kernel
theorem dL_law_713 : decode cL_law 713 = .ok (.iconst 1, 1) := by decide +kernel
theorem dL_law_714 : decode cL_law 714 = .ok (.iadd, 1) := by decide +kernel
theorem dL_law_715 : decode cL_law 715 = .ok (.iaload, 1) := by decide +kernel
theorem dL_law_716 : decode cL_law 716 = .ok (.aload_n 0, 1) := by decide +kernel
theorem dL_law_717 : decode cL_law 717 = .ok (.iload_n 3, 1) := by decide +kernel
theorem dL_law_718 : decode cL_law 718 = .ok (.iconst 2, 1) := by decide +kernel
theorem dL_law_719 : decode cL_law 719 = .ok (.iadd, 1) := by decide +kernel
theorem dL_law_720 : decode cL_law 720 = .ok (.iaload, 1) := by decide +kernel
theorem dL_law_721 : decode cL_law 721 = .ok (.invokevirtual 117, 3) := by decide +kernel
theorem dL_law_724 : decode cL_law 724 = .ok (.if_icmp .eq 88, 3) := by decide +kernel
theorem dL_law_727 : decode cL_law 727 = .ok (.iconst 0, 1) := by decide +kernel
theorem dL_law_728 : decode cL_law 728 = .ok (.ireturn, 1) := by decide +kernel
theorem dL_law_729 : decode cL_law 729 = .ok (.aload_n 1, 1) := by decide +kernel
theorem dL_law_730 : decode cL_law 730 = .ok (.aload_n 0, 1) := by decide +kernel
theorem dL_law_731 : decode cL_law 731 = .ok (.iload_n 3, 1) := by decide +kernel
theorem dL_law_732 : decode cL_law 732 = .ok (.iconst 1, 1) := by decide +kernel
theorem dL_law_733 : decode cL_law 733 = .ok (.iadd, 1) := by decide +kernel
theorem dL_law_734 : decode cL_law 734 = .ok (.iaload, 1) := by decide +kernel
theorem dL_law_735 : decode cL_law 735 = .ok (.invokevirtual 118, 3) := by decide +kernel
theorem dL_law_738 : decode cL_law 738 = .ok (.aload_n 2, 1) := by decide +kernel
theorem dL_law_739 : decode cL_law 739 = .ok (.aload_n 0, 1) := by decide +kernel
theorem dL_law_740 : decode cL_law 740 = .ok (.iload_n 3, 1) := by decide +kernel
theorem dL_law_741 : decode cL_law 741 = .ok (.iconst 1, 1) := by decide +kernel
theorem dL_law_742 : decode cL_law 742 = .ok (.iadd, 1) := by decide +kernel
theorem dL_law_743 : decode cL_law 743 = .ok (.iaload, 1) := by decide +kernel
theorem dL_law_744 : decode cL_law 744 = .ok (.invokevirtual 121, 3) := by decide +kernel
theorem dL_law_747 : decode cL_law 747 = .ok (.if_icmp .eq 65, 3) := by decide +kernel
theorem dL_law_750 : decode cL_law 750 = .ok (.iconst 0, 1) := by decide +kernel
theorem dL_law_751 : decode cL_law 751 = .ok (.ireturn, 1) := by decide +kernel
theorem dL_law_752 : decode cL_law 752 = .ok (.aload_n 1, 1) := by decide +kernel
theorem dL_law_753 : decode cL_law 753 = .ok (.aload_n 0, 1) := by decide +kernel
theorem dL_law_754 : decode cL_law 754 = .ok (.iload_n 3, 1) := by decide +kernel
theorem dL_law_755 : decode cL_law 755 = .ok (.iconst 1, 1) := by decide +kernel
theorem dL_law_756 : decode cL_law 756 = .ok (.iadd, 1) := by decide +kernel
theorem dL_law_757 : decode cL_law 757 = .ok (.iaload, 1) := by decide +kernel
theorem dL_law_758 : decode cL_law 758 = .ok (.invokevirtual 122, 3) := by decide +kernel
theorem dL_law_761 : decode cL_law 761 = .ok (.aload_n 2, 1) := by decide +kernel
theorem dL_law_762 : decode cL_law 762 = .ok (.aload_n 0, 1) := by decide +kernel
theorem dL_law_763 : decode cL_law 763 = .ok (.iload_n 3, 1) := by decide +kernel
theorem dL_law_764 : decode cL_law 764 = .ok (.iconst 1, 1) := by decide +kernel
theorem dL_law_765 : decode cL_law 765 = .ok (.iadd, 1) := by decide +kernel
theorem dL_law_766 : decode cL_law 766 = .ok (.iaload, 1) := by decide +kernel
theorem dL_law_767 : decode cL_law 767 = .ok (.invokevirtual 125, 3) := by decide +kernel
theorem dL_law_770 : decode cL_law 770 = .ok (.if_icmp .eq 42, 3) := by decide +kernel
theorem dL_law_773 : decode cL_law 773 = .ok (.iconst 0, 1) := by decide +kernel
theorem dL_law_774 : decode cL_law 774 = .ok (.ireturn, 1) := by decide +kernel
theorem dL_law_775 : decode cL_law 775 = .ok (.aload_n 1, 1) := by decide +kernel
theorem dL_law_776 : decode cL_law 776 = .ok (.aload_n 0, 1) := by decide +kernel
theorem dL_law_777 : decode cL_law 777 = .ok (.iload_n 3, 1) := by decide +kernel
theorem dL_law_778 : decode cL_law 778 = .ok (.iconst 1, 1) := by decide +kernel
theorem dL_law_779 : decode cL_law 779 = .ok (.iadd, 1) := by decide +kernel
theorem dL_law_780 : decode cL_law 780 = .ok (.iaload, 1) := by decide +kernel
theorem dL_law_781 : decode cL_law 781 = .ok (.invokevirtual 126, 3) := by decide +kernel
theorem dL_law_784 : decode cL_law 784 = .ok (.aload_n 2, 1) := by decide +kernel
theorem dL_law_785 : decode cL_law 785 = .ok (.aload_n 0, 1) := by decide +kernel
theorem dL_law_786 : decode cL_law 786 = .ok (.iload_n 3, 1) := by decide +kernel
theorem dL_law_787 : decode cL_law 787 = .ok (.iconst 1, 1) := by decide +kernel
theorem dL_law_788 : decode cL_law 788 = .ok (.iadd, 1) := by decide +kernel
theorem dL_law_789 : decode cL_law 789 = .ok (.iaload, 1) := by decide +kernel
theorem dL_law_790 : decode cL_law 790 = .ok (.invokevirtual 129, 3) := by decide +kernel
theorem dL_law_793 : decode cL_law 793 = .ok (.if_icmp .eq 19, 3) := by decide +kernel
theorem dL_law_796 : decode cL_law 796 = .ok (.iconst 0, 1) := by decide +kernel
theorem dL_law_797 : decode cL_law 797 = .ok (.ireturn, 1) := by decide +kernel
theorem dL_law_798 : decode cL_law 798 = .ok (.aload_n 1, 1) := by decide +kernel
theorem dL_law_799 : decode cL_law 799 = .ok (.invokevirtual 130, 3) := by decide +kernel
theorem dL_law_802 : decode cL_law 802 = .ok (.aload_n 2, 1) := by decide +kernel
theorem dL_law_803 : decode cL_law 803 = .ok (.invokevirtual 134, 3) := by decide +kernel
theorem dL_law_806 : decode cL_law 806 = .ok (.lcmp, 1) := by decide +kernel
theorem dL_law_807 : decode cL_law 807 = .ok (.ifCond .eq 5, 3) := by decide +kernel
theorem dL_law_810 : decode cL_law 810 = .ok (.iconst 0, 1) := by decide +kernel
theorem dL_law_811 : decode cL_law 811 = .ok (.ireturn, 1) := by decide +kernel
theorem dL_law_812 : decode cL_law 812 = .ok (.iinc 3 5, 3) := by decide +kernel
theorem dL_law_815 : decode cL_law 815 = .ok (.goto (-797), 3) := by decide +kernel
theorem dL_law_818 : decode cL_law 818 = .ok (.iconst 1, 1) := by decide +kernel
theorem dL_law_819 : decode cL_law 819 = .ok (.ireturn, 1) := by decide +kernel
end
section
/-! the memory: all ints of the two objects' worlds, by the cell's number and the slot; the two longs by the cell's number -/
abbrev Mem : Type := (Nat → Nat → Int32) × (Nat → Int64)
def gM (M : Mem) (i k : Nat) : Int32 := M.1 i k
def sM (M : Mem) (i k : Nat) (v : Int32) : Mem := (fun j l => if j = i ∧ l = k then v else M.1 j l, M.2)
def gL (M : Mem) (i : Nat) : Int64 := M.2 i
def sL (M : Mem) (i : Nat) (v : Int64) : Mem := (M.1, fun j => if j = i then v else M.2 j)
theorem g_s (M : Mem) (i k : Nat) (v : Int32) (j l : Nat) : gM (sM M i k v) j l = if j = i ∧ l = k then v else gM M j l := rfl
theorem g_ss (M : Mem) (i k : Nat) (v : Int32) : gM (sM M i k v) i k = v := by simp [g_s]
theorem g_si {M : Mem} {i k : Nat} {v : Int32} {j l : Nat} (h : j ≠ i) : gM (sM M i k v) j l = gM M j l := by simp [g_s, h]
theorem g_sk {M : Mem} {i k : Nat} {v : Int32} {j l : Nat} (h : l ≠ k) : gM (sM M i k v) j l = gM M j l := by simp [g_s, h]
theorem g_sL (M : Mem) (i : Nat) (v : Int64) (j l : Nat) : gM (sL M i v) j l = gM M j l := rfl
theorem l_sM (M : Mem) (i k : Nat) (v : Int32) (j : Nat) : gL (sM M i k v) j = gL M j := rfl
theorem l_sL (M : Mem) (i : Nat) (v : Int64) (j : Nat) : gL (sL M i v) j = if j = i then v else gL M j := rfl
theorem mem_ext {M N : Mem} (h : ∀ i k, gM M i k = gM N i k) (h2 : ∀ i, gL M i = gL N i) : M = N := Prod.ext (funext fun i => funext fun k => h i k) (funext fun i => h2 i)
/-- the ferry that is told: its cell's number -/
def feB (x : Int32) : Nat := if x = 11 then 11 else 3
/-- the cells' kinds by their numbers: 0 int[], 1 boolean[], 2 long[], 3 Moment[], 4 Passenger[], 10 + n an object of the n-th class -/
def shKL : List Nat := [21, 20, 0, 12, 0, 0, 0, 0, 0, 0, 0, 12, 0, 0, 0, 0, 0, 0, 0, 14, 0, 0, 18, 3,
  14, 0, 0, 14, 0, 0, 14, 0, 0, 14, 0, 0, 14, 0, 0, 14, 0, 0, 14, 0, 0, 14, 0, 0, 14, 0, 0, 14, 0, 0,
  3, 0, 0, 3, 19, 3, 0, 0, 14, 0, 0, 14, 0, 0, 14, 0, 0, 14, 0, 0, 4, 2,
  14, 0, 0, 14, 0, 0, 14, 0, 0, 14, 0, 0, 14, 0, 0, 14, 0, 0, 14, 0, 0, 14, 0, 0, 14, 0, 0,
  17, 15, 11, 13, 16, 10, 22, 0, 0, 0, 0, 0, 0, 0, 0, 0, 0, 1, 0, 0, 0, 0, 0]
def shNL : List Nat := [0, 0, 200, 0, 6, 6, 6, 4, 4, 64, 200, 0, 6, 6, 6, 4, 4, 64, 200, 0, 6, 6, 0, 10,
  0, 6, 6, 0, 6, 6, 0, 6, 6, 0, 6, 6, 0, 6, 6, 0, 6, 6, 0, 6, 6, 0, 6, 6, 0, 6, 6, 0, 6, 6,
  2, 5, 5, 7, 0, 4, 3, 3, 0, 6, 6, 0, 6, 6, 0, 6, 6, 0, 6, 6, 6, 1,
  0, 6, 6, 0, 6, 6, 0, 6, 6, 0, 6, 6, 0, 6, 6, 0, 6, 6, 0, 6, 6, 0, 6, 6, 0, 6, 6,
  0, 0, 0, 0, 0, 0, 0, 200, 6, 12, 12, 12, 8, 8, 15, 15, 30, 2, 150, 5, 5, 3, 3]
def shK (i : Nat) : Nat := shKL.getD i 99
def shN (i : Nat) : Nat := shNL.getD i 0
/-- where the Moments of a row of Moments begin -/
def shB (i : Nat) : Nat := if i = 23 then 24 else if i = 54 then 76 else if i = 57 then 82 else 62
def isMoL : List Nat := [19, 24, 27, 30, 33, 36, 39, 42, 45, 48, 51, 62, 65, 68, 71, 76, 79, 82, 85, 88, 91, 94, 97, 100]
def isMo (b : Nat) : Prop := b ∈ isMoL
def isFe (b : Nat) : Prop := b = 3 ∨ b = 11
theorem isFe_feB (x : Int32) : isFe (feB x) := by unfold feB isFe; split <;> simp
end
section
/-! loops with fuel, calls in sequence, facts on the cells' numbers -/
def itr {β : Type} (S : β → β) (z : β) : Nat → β
  | 0 => z
  | n + 1 => S (itr S z n)
theorem itr_succ {β : Type} (S : β → β) (z : β) (n : Nat) : itr S z (n + 1) = S (itr S z n) := rfl
def fuel : Nat := 1000
def bI {α : Type} (o : Option (Mem × Int32)) (k : Mem → Int32 → Option α) : Option α := match o with
  | none => none
  | some q => k q.1 q.2
def bL {α : Type} (o : Option (Mem × Int64)) (k : Mem → Int64 → Option α) : Option α := match o with
  | none => none
  | some q => k q.1 q.2
def bV {α : Type} (o : Option Mem) (k : Mem → Option α) : Option α := match o with
  | none => none
  | some q => k q
theorem bI_some {α : Type} (M : Mem) (r : Int32) (k : Mem → Int32 → Option α) : bI (some (M, r)) k = k M r := rfl
theorem bL_some {α : Type} (M : Mem) (r : Int64) (k : Mem → Int64 → Option α) : bL (some (M, r)) k = k M r := rfl
theorem bV_some {α : Type} (M : Mem) (k : Mem → Option α) : bV (some M) k = k M := rfl
abbrev inB (x : Int32) (n : Nat) : Prop := 0 ≤ x.toInt ∧ x.toInt < (n : Int)
theorem inB_lt {x : Int32} {n : Nat} (h : inB x n) : x.toNatClampNeg < n := by
  have h2 : x.toNatClampNeg = x.toInt.toNat := rfl
  omega
def isR (r : Nat) : Prop := r = 117 ∨ r = 118
def isA6 (q : Nat) : Prop := shK q = 0 ∧ shN q = 6
def isKi (t : Nat) : Prop := t = 103 ∨ t = 104 ∨ t = 105 ∨ t = 106 ∨ t = 107 ∨ t = 108
theorem isMo_all {P : Nat → Prop} (h : ∀ b ∈ isMoL, P b) {b : Nat} (hb : isMo b) : P b := h b hb
theorem mo_k {b : Nat} (hb : isMo b) : shK b = 14 := isMo_all (P := fun b => shK b = 14) (by decide) hb
theorem mo_lt {b : Nat} (hb : isMo b) : b < 126 := isMo_all (P := fun b => b < 126) (by decide) hb
theorem mo_1 {b : Nat} (hb : isMo b) : isA6 (b + 1) := isMo_all (P := fun b => isA6 (b + 1)) (by unfold isA6; decide) hb
theorem mo_2 {b : Nat} (hb : isMo b) : isA6 (b + 2) := isMo_all (P := fun b => isA6 (b + 2)) (by unfold isA6; decide) hb
theorem mo_P {x : Int32} (h : inB x 10) : isMo (24 + 3 * x.toNatClampNeg) := by
  have h2 := inB_lt h
  generalize x.toNatClampNeg = n at h2
  exact (show ∀ n, n < 10 → isMo (24 + 3 * n) by unfold isMo; decide) n h2
theorem mo_I {x : Int32} (h : inB x 2) : isMo (76 + 3 * x.toNatClampNeg) := by
  have h2 := inB_lt h
  generalize x.toNatClampNeg = n at h2
  exact (show ∀ n, n < 2 → isMo (76 + 3 * n) by unfold isMo; decide) n h2
theorem mo_L {x : Int32} (h : inB x 7) : isMo (82 + 3 * x.toNatClampNeg) := by
  have h2 := inB_lt h
  generalize x.toNatClampNeg = n at h2
  exact (show ∀ n, n < 7 → isMo (82 + 3 * n) by unfold isMo; decide) n h2
theorem mo_Q {x : Int32} (h : inB x 4) : isMo (62 + 3 * x.toNatClampNeg) := by
  have h2 := inB_lt h
  generalize x.toNatClampNeg = n at h2
  exact (show ∀ n, n < 4 → isMo (62 + 3 * n) by unfold isMo; decide) n h2
theorem mo_19 : isMo 19 := by unfold isMo; decide
theorem mo_82 : isMo 82 := by unfold isMo; decide
theorem mo_62 : isMo 62 := by unfold isMo; decide
theorem fe_lt {f : Nat} (hf : isFe f) : f < 126 := by rcases hf with rfl | rfl <;> decide
theorem fe_k {f : Nat} (hf : isFe f) : shK f = 12 := by rcases hf with rfl | rfl <;> decide
theorem fe_a {f : Nat} (hf : isFe f) (k : Nat) (hk : k < 8) (h0 : 0 < k) : shK (f + k) = 0 := by
  rcases hf with rfl | rfl
  · exact (show ∀ k, k < 8 → 0 < k → shK (3 + k) = 0 by decide) k hk h0
  · exact (show ∀ k, k < 8 → 0 < k → shK (11 + k) = 0 by decide) k hk h0
theorem fe_n {f : Nat} (hf : isFe f) (k : Nat) (hk : k < 8) (h0 : 0 < k) : shN (f + k) = [0, 6, 6, 6, 4, 4, 64, 200].getD k 0 := by
  rcases hf with rfl | rfl
  · exact (show ∀ k, k < 8 → 0 < k → shN (3 + k) = [0, 6, 6, 6, 4, 4, 64, 200].getD k 0 by decide) k hk h0
  · exact (show ∀ k, k < 8 → 0 < k → shN (11 + k) = [0, 6, 6, 6, 4, 4, 64, 200].getD k 0 by decide) k hk h0
theorem r_k {r : Nat} (hr : isR r) : shK r = 0 := by rcases hr with rfl | rfl <;> decide
theorem r_n {r : Nat} (hr : isR r) : shN r = 15 := by rcases hr with rfl | rfl <;> decide
theorem r_117 : isR 117 := Or.inl rfl
theorem r_118 : isR 118 := Or.inr rfl
end
section
/-! the world as a function of the memory; the judgement Jp: 'the rest of the method, from this pc on, does what res says' -/
def shp (ad : Nat → Nat) (cid : Nat → ClassId) (M : Mem) (i : Nat) : va_E :=
  match shK i with
  | 0 => .inl (cid 0, shN i, .inl (gM M i))
  | 1 => .inl (cid 1, shN i, .inl (gM M i))
  | 2 => .inl (cid 2, shN i, .inr (.inl (fun j => if j = 0 then gL M i else 0)))
  | 3 => .inl (cid 3, shN i, .inr (.inr (.inr (.inr (fun j => if j < shN i then some (ad (shB i + 3 * j)) else none)))))
  | 4 => .inl (cid 4, shN i, .inr (.inr (.inr (.inr (fun j => if j < shN i then some (ad (103 + j)) else none)))))
  | 12 => .inr (2, [.int (gM M i 0), .ref (ad (i + 1)), .ref (ad (i + 2)), .ref (ad (i + 3)), .int (gM M i 4), .ref (ad (i + 4)), .ref (ad (i + 5)), .int (gM M i 7), .int (gM M i 8), .ref (ad (i + 6)), .ref (ad (i + 7))])
  | 14 => .inr (4, [.int (gM M i 0), .int (gM M i 1), .int (gM M i 2), .ref (ad (i + 1)), .ref (ad (i + 2)), .int (gM M i 5)])
  | 18 => .inr (8, [.ref (ad 23), .int (gM M i 1), .int (gM M i 2)])
  | 19 => .inr (9, [.ref (ad 59), .ref (ad 60), .ref (ad 61), .int (gM M i 3), .int (gM M i 4), .int (gM M i 5)])
  | 20 => .inr (10, [.ref (ad 2), .int (gM M i 1), .int (gM M i 2), .int (gM M i 3), .int (gM M i 4), .int (gM M i 5)])
  | 21 => .inr (11, [.ref (ad 1), .ref (ad (feB (gM M i 1))), .ref (ad (feB (gM M i 2))), .ref (ad 19), .ref (ad 22), .ref (ad 54), .int (gM M i 6), .ref (ad 55), .ref (ad 56), .int (gM M i 9), .ref (ad 57), .ref (ad 58), .ref (ad 74), .ref (ad 75)])
  | 22 => .inr (12, [.int (gM M i 0), .long (gL M i), .ref (ad 110), .int (gM M i 3), .int (gM M i 4), .int (gM M i 5), .int (gM M i 6), .int (gM M i 7), .int (gM M i 8), .ref (ad 111), .ref (ad 112), .ref (ad 113), .ref (ad 114), .ref (ad 115), .ref (ad 116), .int (gM M i 15), .ref (ad 117), .ref (ad 118), .ref (ad 119), .ref (ad 120), .ref (ad 121), .int (gM M i 21), .ref (ad 122), .ref (ad 123), .int (gM M i 24), .ref (ad 124), .ref (ad 125)])
  | n => .inr (n - 10, [])
def wld (ad : Nat → Nat) (cid : Nat → ClassId) (M : Mem) : va_W := (List.range 126).map (fun i => (ad i, shp ad cid M i))
theorem wld_get {ad : Nat → Nat} {cid : Nat → ClassId} {M : Mem} {i : Nat} (h : i < 126) : (wld ad cid M)[i]? = some (ad i, shp ad cid M i) := by
  simp [wld, h]
theorem wld_len {ad : Nat → Nat} {cid : Nat → ClassId} {M : Mem} : (wld ad cid M).length = 126 := by simp [wld]
theorem wld_lt {ad : Nat → Nat} {cid : Nat → ClassId} {M : Mem} {i : Nat} {q : Nat × va_E} (h : (wld ad cid M)[i]? = some q) : i < 126 ∧ q = (ad i, shp ad cid M i) := by
  have h1 : i < 126 := by have := (List.getElem?_eq_some_iff.mp h).1; rwa [wld_len] at this
  rw [wld_get h1] at h
  exact ⟨h1, (Option.some.inj h).symm⟩
theorem shp_congr {ad : Nat → Nat} {cid : Nat → ClassId} {M N : Mem} {i : Nat} (h : gM N i = gM M i) (h2 : gL N i = gL M i) : shp ad cid N i = shp ad cid M i := by
  unfold shp
  rw [h, h2]
theorem wld_set {ad : Nat → Nat} {cid : Nat → ClassId} {M N : Mem} {i : Nat} {e : va_E} (he : shp ad cid N i = e) (h : ∀ j, j ≠ i → gM N j = gM M j ∧ gL N j = gL M j) : (wld ad cid M).set i (ad i, e) = wld ad cid N := by
  apply List.ext_getElem?
  intro j
  by_cases hj : j < 126
  · rw [wld_get hj]
    by_cases hji : j = i
    · subst hji
      rw [List.getElem?_set_self (by rw [wld_len]; exact hj), he]
    · rw [List.getElem?_set_ne (Ne.symm hji), wld_get hj, shp_congr (h j hji).1 (h j hji).2]
  · rw [List.getElem?_eq_none (by rw [List.length_set, wld_len]; omega), List.getElem?_eq_none (by rw [wld_len]; omega)]
def iA (ad : Nat → Nat) : Nat → Prop := fun q => ∃ i, i < 126 ∧ q = ad i
def lyOk (ad : Nat → Nat) : Prop := ∀ i j, i < 126 → j < 126 → ad i = ad j → i = j
theorem wld_D {ad : Nat → Nat} {cid : Nat → ClassId} {M : Mem} (h : lyOk ad) : va_D (iA ad) (wld ad cid M) := by
  refine ⟨fun i j p q hi hj hpq => ?_, fun k q hk => ?_⟩
  · obtain ⟨h1, rfl⟩ := wld_lt hi
    obtain ⟨h2, rfl⟩ := wld_lt hj
    exact h i j h1 h2 hpq
  · obtain ⟨h1, rfl⟩ := wld_lt hk
    exact ⟨k, h1, rfl⟩
abbrev tysOf (cid : Nat → ClassId) : List (ClassId × FieldType) := [(cid 0, .int), (cid 1, .boolean), (cid 2, .long), (cid 3, .object RX4), (cid 4, .object RX7)]
/-- words of the tables that every method may lean on -/
def wAll : List Cond := lw_tbl.filter goodWord
theorem wAll_of {w : Cond} (h : w ∈ lw_tbl) (hg : goodWord w = true) : w ∈ wAll := List.mem_filter.mpr ⟨h, hg⟩
theorem wAll_good {w : Cond} (h : w ∈ wAll) : goodWord w = true := (List.mem_filter.mp h).2
theorem good_ws {T : List Cond} {b : Cond} (hT : ∀ w ∈ wAll, w ∈ T) (hb : b ∈ wAll) : GoodIn T (b :: wAll) := by
  intro w hw
  rcases List.mem_cons.mp hw with rfl | hw
  · exact ⟨hT _ hb, good_of_word (wAll_good hb)⟩
  · exact ⟨hT _ hw, good_of_word (wAll_good hw)⟩
theorem good_more {T : List Cond} (a : List Cond) {b : List Cond} (hT : ∀ w ∈ wAll, w ∈ T) (ha : ∀ w ∈ a, w ∈ wAll) (hb : GoodIn T b) : GoodIn T (a ++ b) := by
  intro w hw
  rcases List.mem_append.mp hw with hw | hw
  · exact ⟨hT _ (ha w hw), good_of_word (wAll_good (ha w hw))⟩
  · exact hb w hw
def isNest : Cond → Bool
  | .fieldLinkNest .. => true
  | .methodLinkNest .. => true
  | _ => false
/-- the links to private members of nest mates: they go along from state to state -/
def nestOk (U : State) : Prop := ∀ w ∈ lw_tbl, isNest w = true → va_Nw w U
theorem nest_warm {s U : State} (hW : s.WarmedH U.vm) (h : nestOk s) : nestOk U := by
  intro w hw hn
  have h1 := h w hw hn
  match w, hn, h1 with
  | .fieldLinkNest .., _, h1 => exact va_Nw.warmF hW h1
  | .methodLinkNest .., _, h1 => exact va_Nw.warmM hW h1
theorem nest_same {s U : State} (hv : s.vm = U.vm) (h : nestOk s) : nestOk U := by
  intro w hw hn
  have h1 := h w hw hn
  match w, hn, h1 with
  | .fieldLinkNest .., _, h1 => exact va_Nw.same rfl hv h1
  | .methodLinkNest .., _, h1 => exact va_Nw.same rfl hv h1
abbrev Cx : Type := Program × Launch × Env × Room × State × MethodId × Array Value × List Frame × Method × Code × va_G × Nat × Nat
def cxL (X : Cx) : Launch := X.2.1
def cxR (X : Cx) : Room := X.2.2.2.1
def cxS (X : Cx) : State := X.2.2.2.2.1
def cxM (X : Cx) : MethodId := X.2.2.2.2.2.1
def cxA (X : Cx) : Array Value := X.2.2.2.2.2.2.1
def cxB (X : Cx) : List Frame := X.2.2.2.2.2.2.2.1
def cxMe (X : Cx) : Method := X.2.2.2.2.2.2.2.2.1
def cxC (X : Cx) : Code := X.2.2.2.2.2.2.2.2.2.1
def cxD (X : Cx) : va_G := X.2.2.2.2.2.2.2.2.2.2.1
def cxK (X : Cx) : Nat := X.2.2.2.2.2.2.2.2.2.2.2.1
def cxN (X : Cx) : Nat := X.2.2.2.2.2.2.2.2.2.2.2.2
def cxW (X : Cx) (H : Heap) (locs : List Loc) (Q : State → Prop) (g : JFrame) : Prop := W X.1 (cxL X) X.2.2.1 (cxR X) (cxS X) (cxM X) (cxA X) (cxB X) (cxMe X) (cxC X) H locs (cxK X) (cxN X) Q g
/-- locals by their numbers -/
def prs : Nat → List (Option Value) → List (Nat × Value)
  | _, [] => []
  | k, none :: t => prs (k + 1) t
  | k, some v :: t => (k, v) :: prs (k + 1) t
theorem prs_mem : ∀ (l : List (Option Value)) (k i : Nat) (v : Value), (i, v) ∈ prs k l ↔ ∃ j, i = k + j ∧ l[j]? = some (some v)
  | [], k, i, v => by simp [prs]
  | none :: t, k, i, v => by
    rw [prs, prs_mem t]
    constructor
    · rintro ⟨j, rfl, h⟩
      exact ⟨j + 1, by omega, by simpa using h⟩
    · rintro ⟨j, rfl, h⟩
      cases j with
      | zero => simp at h
      | succ j => exact ⟨j, by omega, by simpa using h⟩
  | some w :: t, k, i, v => by
    rw [prs, List.mem_cons, prs_mem t]
    constructor
    · rintro (h | ⟨j, rfl, h⟩)
      · cases h
        exact ⟨0, rfl, rfl⟩
      · exact ⟨j + 1, by omega, by simpa using h⟩
    · rintro ⟨j, rfl, h⟩
      cases j with
      | zero => simp at h; exact Or.inl (by rw [h]; rfl)
      | succ j => exact Or.inr ⟨j, by omega, by simpa using h⟩
theorem prs_at {ls : Array Slot} {nL : Nat} {lv : List (Option Value)} (h : lv_has ls nL (prs 0 lv)) {i : Nat} {v : Value} (hi : lv[i]? = some (some v)) : ls[i]? = some (.val v) := h.2.2 (i, v) ((prs_mem lv 0 i v).mpr ⟨i, by omega, hi⟩)
def cat1 (o : Option Value) : Bool := match o with
  | none => true
  | some v => v.category == 1
theorem prs_set {ls : Array Slot} {nL i : Nat} {x : Value} {lv : List (Option Value)} (hc : lv.all cat1 = true) (h : lv_has ls nL ((i, x) :: (prs 0 lv).filter (fun q => !(q.1 == i) && !(q.1 + 1 == i && q.2.category == 2)))) : lv_has ls nL (prs 0 (lv.set i (some x))) := by
  refine ⟨h.1, h.2.1, fun q hq => h.2.2 q ?_⟩
  obtain ⟨a, v⟩ := q
  obtain ⟨j, rfl, hj⟩ := (prs_mem _ 0 a v).mp hq
  rw [Nat.zero_add] at *
  by_cases hji : j = i
  · subst hji
    have hl : j < lv.length := by have := (List.getElem?_eq_some_iff.mp hj).1; simpa using this
    rw [List.getElem?_set_self hl] at hj
    cases hj
    exact List.mem_cons_self
  · rw [List.getElem?_set_ne (Ne.symm hji)] at hj
    refine List.mem_cons_of_mem _ (List.mem_filter.mpr ⟨(prs_mem lv 0 j v).mpr ⟨j, by omega, hj⟩, ?_⟩)
    have h1 := List.all_eq_true.mp hc _ (List.mem_of_getElem? hj)
    simp only [cat1, beq_iff_eq] at h1
    simp [hji, h1]
theorem prs_mask {ls : Array Slot} {nL : Nat} {lv lv' : List (Option Value)} (ms : List Bool) (he : List.zipWith (fun (b : Bool) (o : Option Value) => if b then o else none) ms lv = lv') (h : lv_has ls nL (prs 0 lv)) : lv_has ls nL (prs 0 lv') := by
  refine ⟨h.1, h.2.1, fun q hq => ?_⟩
  obtain ⟨a, v⟩ := q
  obtain ⟨j, rfl, hj⟩ := (prs_mem _ 0 a v).mp hq
  rw [← he, List.getElem?_zipWith] at hj
  refine h.2.2 _ ((prs_mem lv 0 _ v).mpr ⟨j, rfl, ?_⟩)
  cases h1 : ms[j]? with
  | none => rw [h1] at hj; simp at hj
  | some b =>
    cases h2 : lv[j]? with
    | none => rw [h1, h2] at hj; simp at hj
    | some o =>
      rw [h1, h2] at hj
      cases b with
      | true => simpa using hj
      | false => simp at hj
/-- THE JUDGEMENT -/
def Jp (X : Cx) (ad : Nat → Nat) (cid : Nat → ClassId) (nL : Nat) {α : Type} (Q : α → State → Prop) (M : Mem) (pc : Nat) (lv : List (Option Value)) (st : List Value) (res : Option α) : Prop :=
  ∀ out, res = some out → ∀ (ls : Array Slot) (H : Heap) (locs : List Loc), lv_has ls nL (prs 0 lv) → va_P (cxD X) vwCl (wld ad cid M) H → va_S (iA ad) (cxS X).heap H locs → cxW X H locs (Q out) (F0 (cxM X) pc ls st)
/-- what holds all through a method's body -/
def Ok (X : Cx) (ad : Nat → Nat) (cid : Nat → ClassId) (cc : ByteArray) (own : String) (nL : Nat) (ret : Option FieldType) (fr lo : Nat) : Prop :=
  X.1.tables.exec = Jvm.exec ∧ (cxC X).code = cc ∧ (cxC X).maxLocals = nL ∧ (cxS X).vm.findClass own = some (cxM X).cls ∧ (∀ w ∈ wAll, w.before (cxA X) (cxS X) = true) ∧ va_K (cxD X) vwCl (tysOf cid) (cxS X) ∧ nestOk (cxS X) ∧ lyOk ad ∧ (cxMe X).locks = false ∧ (cxMe X).sig.returnType = ret ∧ fr ≤ (cxR X).frames ∧ lo ≤ (cxR X).locals ∧ cxK X ≤ (cxR X).cells ∧ cxN X ≤ (cxR X).slots
section JR
variable {X : Cx} {ad : Nat → Nat} {cid : Nat → ClassId} {cc : ByteArray} {own : String} {nL : Nat} {ret : Option FieldType} {fr lo : Nat} {α : Type} {Q : α → State → Prop} {M : Mem} {pc : Nat} {lv : List (Option Value)} {st : List Value} {res : Option α}
theorem Ok.x (h : Ok X ad cid cc own nL ret fr lo) : X.1.tables.exec = Jvm.exec := h.1
theorem Ok.b (h : Ok X ad cid cc own nL ret fr lo) : (cxC X).code = cc := h.2.1
theorem Ok.ml (h : Ok X ad cid cc own nL ret fr lo) : (cxC X).maxLocals = nL := h.2.2.1
theorem Ok.ow (h : Ok X ad cid cc own nL ret fr lo) : (cxS X).vm.findClass own = some (cxM X).cls := h.2.2.2.1
theorem Ok.ts (h : Ok X ad cid cc own nL ret fr lo) : ∀ w ∈ wAll, w.before (cxA X) (cxS X) = true := h.2.2.2.2.1
theorem Ok.K (h : Ok X ad cid cc own nL ret fr lo) : va_K (cxD X) vwCl (tysOf cid) (cxS X) := h.2.2.2.2.2.1
theorem Ok.nest (h : Ok X ad cid cc own nL ret fr lo) : nestOk (cxS X) := h.2.2.2.2.2.2.1
theorem Ok.ly (h : Ok X ad cid cc own nL ret fr lo) : lyOk ad := h.2.2.2.2.2.2.2.1
theorem Ok.lk (h : Ok X ad cid cc own nL ret fr lo) : (cxMe X).locks = false := h.2.2.2.2.2.2.2.2.1
theorem Ok.r (h : Ok X ad cid cc own nL ret fr lo) : (cxMe X).sig.returnType = ret := h.2.2.2.2.2.2.2.2.2.1
theorem Ok.f1 (h : Ok X ad cid cc own nL ret fr lo) : fr ≤ (cxR X).frames := h.2.2.2.2.2.2.2.2.2.2.1
theorem Ok.l1 (h : Ok X ad cid cc own nL ret fr lo) : lo ≤ (cxR X).locals := h.2.2.2.2.2.2.2.2.2.2.2.1
theorem Ok.kc (h : Ok X ad cid cc own nL ret fr lo) : cxK X ≤ (cxR X).cells := h.2.2.2.2.2.2.2.2.2.2.2.2.1
theorem Ok.kn (h : Ok X ad cid cc own nL ret fr lo) : cxN X ≤ (cxR X).slots := h.2.2.2.2.2.2.2.2.2.2.2.2.2
theorem j_none : Jp X ad cid nL Q M pc lv st none := fun _ h => by cases h
theorem j_eq {res' : Option α} (h : res = res') (k : Jp X ad cid nL Q M pc lv st res') : Jp X ad cid nL Q M pc lv st res := h ▸ k
theorem j_pc {pc' : Nat} (h : pc = pc') (k : Jp X ad cid nL Q M pc' lv st res) : Jp X ad cid nL Q M pc lv st res := h ▸ k
theorem j_mask (ms : List Bool) {lv' : List (Option Value)} (he : List.zipWith (fun (b : Bool) (o : Option Value) => if b then o else none) ms lv = lv') (k : Jp X ad cid nL Q M pc lv' st res) : Jp X ad cid nL Q M pc lv st res :=
  fun out ho ls H locs hl hP hS => k out ho ls H locs (prs_mask ms he hl) hP hS
theorem j_iconst (hC : Ok X ad cid cc own nL ret fr lo) {n : Int} {v : Int32} (hd : decode cc pc = .ok (.iconst n, 1)) (hv : Int32.ofInt n = v) (k : Jp X ad cid nL Q M (pc + 1) lv (.int v :: st) res) : Jp X ad cid nL Q M pc lv st res :=
  fun out ho ls H locs hl hP hS => lv_iconst hC.x hC.b hd hv (k out ho ls H locs hl hP hS)
theorem j_bipush (hC : Ok X ad cid cc own nL ret fr lo) {n : Int} {v : Int32} (hd : decode cc pc = .ok (.bipush n, 2)) (hv : (Int8.ofInt n).toInt32 = v) (k : Jp X ad cid nL Q M (pc + 2) lv (.int v :: st) res) : Jp X ad cid nL Q M pc lv st res :=
  fun out ho ls H locs hl hP hS => lv_bipush hC.x hC.b hd hv (k out ho ls H locs hl hP hS)
theorem j_sipush (hC : Ok X ad cid cc own nL ret fr lo) {n : Int} {v : Int32} (hd : decode cc pc = .ok (.sipush n, 3)) (hv : (Int16.ofInt n).toInt32 = v) (k : Jp X ad cid nL Q M (pc + 3) lv (.int v :: st) res) : Jp X ad cid nL Q M pc lv st res :=
  fun out ho ls H locs hl hP hS => lv_sipush hC.x hC.b hd hv (k out ho ls H locs hl hP hS)
theorem j_lconst (hC : Ok X ad cid cc own nL ret fr lo) {n : Fin 2} {v : Int64} (hd : decode cc pc = .ok (.lconst n, 1)) (hv : Int64.ofNat (n : Nat) = v) (k : Jp X ad cid nL Q M (pc + 1) lv (.long v :: st) res) : Jp X ad cid nL Q M pc lv st res :=
  fun out ho ls H locs hl hP hS => lv_lconst hC.x hC.b hd hv (k out ho ls H locs hl hP hS)
theorem j_ldc (hC : Ok X ad cid cc own nL ret fr lo) {index : Nat} {v : Int32} (hw : Cond.constant own index v ∈ lw_tbl) (hg : goodWord (Cond.constant own index v) = true) (hd : decode cc pc = .ok (.ldc index, 2)) (k : Jp X ad cid nL Q M (pc + 2) lv (.int v :: st) res) : Jp X ad cid nL Q M pc lv st res :=
  fun out ho ls H locs hl hP hS => lv_ldc hC.x hC.b hC.ow (hC.ts _ (wAll_of hw hg)) hd (k out ho ls H locs hl hP hS)
theorem j_ldc2 (hC : Ok X ad cid cc own nL ret fr lo) {index : Nat} {v : Int64} (hw : Cond.constantLong own index v ∈ lw_tbl) (hg : goodWord (Cond.constantLong own index v) = true) (hd : decode cc pc = .ok (.ldc2_w index, 3)) (k : Jp X ad cid nL Q M (pc + 3) lv (.long v :: st) res) : Jp X ad cid nL Q M pc lv st res :=
  fun out ho ls H locs hl hP hS => lv_ldc2 hC.x hC.b hC.ow (hC.ts _ (wAll_of hw hg)) hd (k out ho ls H locs hl hP hS)
theorem j_iload_n (hC : Ok X ad cid cc own nL ret fr lo) {n : Fin 4} {x : Int32} (hd : decode cc pc = .ok (.iload_n n, 1)) (hl : lv[(n : Nat)]? = some (some (.int x))) (k : Jp X ad cid nL Q M (pc + 1) lv (.int x :: st) res) : Jp X ad cid nL Q M pc lv st res :=
  fun out ho ls H locs hh hP hS => lv_iload_n hC.x hC.b hd rfl (prs_at hh hl) (k out ho ls H locs hh hP hS)
theorem j_iload (hC : Ok X ad cid cc own nL ret fr lo) {n : Nat} {x : Int32} (hd : decode cc pc = .ok (.iload n, 2)) (hl : lv[n]? = some (some (.int x))) (k : Jp X ad cid nL Q M (pc + 2) lv (.int x :: st) res) : Jp X ad cid nL Q M pc lv st res :=
  fun out ho ls H locs hh hP hS => lv_iload hC.x hC.b hd (prs_at hh hl) (k out ho ls H locs hh hP hS)
theorem j_aload_n (hC : Ok X ad cid cc own nL ret fr lo) {n : Fin 4} {x : Nat} (hd : decode cc pc = .ok (.aload_n n, 1)) (hl : lv[(n : Nat)]? = some (some (.ref x))) (k : Jp X ad cid nL Q M (pc + 1) lv (.ref x :: st) res) : Jp X ad cid nL Q M pc lv st res :=
  fun out ho ls H locs hh hP hS => lv_aload_n hC.x hC.b hd rfl (prs_at hh hl) (k out ho ls H locs hh hP hS)
theorem j_aload (hC : Ok X ad cid cc own nL ret fr lo) {n : Nat} {x : Nat} (hd : decode cc pc = .ok (.aload n, 2)) (hl : lv[n]? = some (some (.ref x))) (k : Jp X ad cid nL Q M (pc + 2) lv (.ref x :: st) res) : Jp X ad cid nL Q M pc lv st res :=
  fun out ho ls H locs hh hP hS => lv_aload hC.x hC.b hd (prs_at hh hl) (k out ho ls H locs hh hP hS)
theorem j_istore_n (hC : Ok X ad cid cc own nL ret fr lo) {n : Fin 4} {x : Int32} {lv' : List (Option Value)} (hd : decode cc pc = .ok (.istore_n n, 1)) (hn : (n : Nat) < nL) (hc : lv.all cat1 = true) (hl : lv.set n (some (.int x)) = lv') (k : Jp X ad cid nL Q M (pc + 1) lv' st res) : Jp X ad cid nL Q M pc lv (.int x :: st) res :=
  fun out ho ls H locs hh hP hS => lv_istore_n hC.x hC.b hd rfl hh hn rfl (fun ls' h' => k out ho ls' H locs (hl ▸ prs_set hc h') hP hS)
theorem j_istore (hC : Ok X ad cid cc own nL ret fr lo) {n : Nat} {x : Int32} {lv' : List (Option Value)} (hd : decode cc pc = .ok (.istore n, 2)) (hn : n < nL) (hc : lv.all cat1 = true) (hl : lv.set n (some (.int x)) = lv') (k : Jp X ad cid nL Q M (pc + 2) lv' st res) : Jp X ad cid nL Q M pc lv (.int x :: st) res :=
  fun out ho ls H locs hh hP hS => lv_istore hC.x hC.b hd hh hn rfl (fun ls' h' => k out ho ls' H locs (hl ▸ prs_set hc h') hP hS)
theorem j_astore_n (hC : Ok X ad cid cc own nL ret fr lo) {n : Fin 4} {x : Nat} {lv' : List (Option Value)} (hd : decode cc pc = .ok (.astore_n n, 1)) (hn : (n : Nat) < nL) (hc : lv.all cat1 = true) (hl : lv.set n (some (.ref x)) = lv') (k : Jp X ad cid nL Q M (pc + 1) lv' st res) : Jp X ad cid nL Q M pc lv (.ref x :: st) res :=
  fun out ho ls H locs hh hP hS => lv_astore_n hC.x hC.b hd rfl hh hn rfl (fun ls' h' => k out ho ls' H locs (hl ▸ prs_set hc h') hP hS)
theorem j_astore (hC : Ok X ad cid cc own nL ret fr lo) {n : Nat} {x : Nat} {lv' : List (Option Value)} (hd : decode cc pc = .ok (.astore n, 2)) (hn : n < nL) (hc : lv.all cat1 = true) (hl : lv.set n (some (.ref x)) = lv') (k : Jp X ad cid nL Q M (pc + 2) lv' st res) : Jp X ad cid nL Q M pc lv (.ref x :: st) res :=
  fun out ho ls H locs hh hP hS => lv_astore hC.x hC.b hd hh hn rfl (fun ls' h' => k out ho ls' H locs (hl ▸ prs_set hc h') hP hS)
theorem j_iinc (hC : Ok X ad cid cc own nL ret fr lo) {i : Nat} {n : Int} {x v : Int32} {lv' : List (Option Value)} (hd : decode cc pc = .ok (.iinc i n, 3)) (hx : lv[i]? = some (some (.int x))) (hv : Int32.ofInt n = v) (hn : i < nL) (hc : lv.all cat1 = true) (hl : lv.set i (some (.int (x + v))) = lv') (k : Jp X ad cid nL Q M (pc + 3) lv' st res) : Jp X ad cid nL Q M pc lv st res := by
  intro out ho ls H locs hh hP hS
  obtain ⟨kx, hkx⟩ := List.getElem?_of_mem ((prs_mem lv 0 i (.int x)).mpr ⟨i, by omega, hx⟩)
  exact lv_iinc hC.x hC.b hd hh hkx (by rw [hv]) hn rfl (fun ls' h' => k out ho ls' H locs (hl ▸ prs_set hc h') hP hS)
theorem j_iadd (hC : Ok X ad cid cc own nL ret fr lo) {x y : Int32} (hd : decode cc pc = .ok (.iadd, 1)) (k : Jp X ad cid nL Q M (pc + 1) lv (.int (x + y) :: st) res) : Jp X ad cid nL Q M pc lv (.int y :: .int x :: st) res :=
  fun out ho ls H locs hl hP hS => lv_iadd hC.x hC.b hd (k out ho ls H locs hl hP hS)
theorem j_isub (hC : Ok X ad cid cc own nL ret fr lo) {x y : Int32} (hd : decode cc pc = .ok (.isub, 1)) (k : Jp X ad cid nL Q M (pc + 1) lv (.int (x - y) :: st) res) : Jp X ad cid nL Q M pc lv (.int y :: .int x :: st) res :=
  fun out ho ls H locs hl hP hS => lv_isub hC.x hC.b hd (k out ho ls H locs hl hP hS)
theorem j_imul (hC : Ok X ad cid cc own nL ret fr lo) {x y : Int32} (hd : decode cc pc = .ok (.imul, 1)) (k : Jp X ad cid nL Q M (pc + 1) lv (.int (x * y) :: st) res) : Jp X ad cid nL Q M pc lv (.int y :: .int x :: st) res :=
  fun out ho ls H locs hl hP hS => lv_imul hC.x hC.b hd (k out ho ls H locs hl hP hS)
theorem j_iand (hC : Ok X ad cid cc own nL ret fr lo) {x y : Int32} (hd : decode cc pc = .ok (.iand, 1)) (k : Jp X ad cid nL Q M (pc + 1) lv (.int (x &&& y) :: st) res) : Jp X ad cid nL Q M pc lv (.int y :: .int x :: st) res :=
  fun out ho ls H locs hl hP hS => lv_iand hC.x hC.b hd (k out ho ls H locs hl hP hS)
theorem j_ior (hC : Ok X ad cid cc own nL ret fr lo) {x y : Int32} (hd : decode cc pc = .ok (.ior, 1)) (k : Jp X ad cid nL Q M (pc + 1) lv (.int (x ||| y) :: st) res) : Jp X ad cid nL Q M pc lv (.int y :: .int x :: st) res :=
  fun out ho ls H locs hl hP hS => lv_ior hC.x hC.b hd (k out ho ls H locs hl hP hS)
theorem j_ixor (hC : Ok X ad cid cc own nL ret fr lo) {x y : Int32} (hd : decode cc pc = .ok (.ixor, 1)) (k : Jp X ad cid nL Q M (pc + 1) lv (.int (x ^^^ y) :: st) res) : Jp X ad cid nL Q M pc lv (.int y :: .int x :: st) res :=
  fun out ho ls H locs hl hP hS => lv_ixor hC.x hC.b hd (k out ho ls H locs hl hP hS)
theorem j_ishl (hC : Ok X ad cid cc own nL ret fr lo) {x y : Int32} (hd : decode cc pc = .ok (.ishl, 1)) (k : Jp X ad cid nL Q M (pc + 1) lv (.int (x <<< (y &&& 31)) :: st) res) : Jp X ad cid nL Q M pc lv (.int y :: .int x :: st) res :=
  fun out ho ls H locs hl hP hS => lv_ishl hC.x hC.b hd (k out ho ls H locs hl hP hS)
theorem j_ishr (hC : Ok X ad cid cc own nL ret fr lo) {x y : Int32} (hd : decode cc pc = .ok (.ishr, 1)) (k : Jp X ad cid nL Q M (pc + 1) lv (.int (x >>> (y &&& 31)) :: st) res) : Jp X ad cid nL Q M pc lv (.int y :: .int x :: st) res :=
  fun out ho ls H locs hl hP hS => lv_ishr hC.x hC.b hd (k out ho ls H locs hl hP hS)
theorem j_idiv (hC : Ok X ad cid cc own nL ret fr lo) {x y : Int32} (hd : decode cc pc = .ok (.idiv, 1)) (hy : ¬ y = 0) (k : Jp X ad cid nL Q M (pc + 1) lv (.int (x / y) :: st) res) : Jp X ad cid nL Q M pc lv (.int y :: .int x :: st) res :=
  fun out ho ls H locs hl hP hS => lv_idiv hC.x hC.b hd hy (k out ho ls H locs hl hP hS)
theorem j_irem (hC : Ok X ad cid cc own nL ret fr lo) {x y : Int32} (hd : decode cc pc = .ok (.irem, 1)) (hy : ¬ y = 0) (k : Jp X ad cid nL Q M (pc + 1) lv (.int (x - x / y * y) :: st) res) : Jp X ad cid nL Q M pc lv (.int y :: .int x :: st) res :=
  fun out ho ls H locs hl hP hS => lv_irem hC.x hC.b hd hy (k out ho ls H locs hl hP hS)
theorem j_ladd (hC : Ok X ad cid cc own nL ret fr lo) {x y : Int64} (hd : decode cc pc = .ok (.ladd, 1)) (k : Jp X ad cid nL Q M (pc + 1) lv (.long (x + y) :: st) res) : Jp X ad cid nL Q M pc lv (.long y :: .long x :: st) res :=
  fun out ho ls H locs hl hP hS => lv_ladd hC.x hC.b hd (k out ho ls H locs hl hP hS)
theorem j_dup (hC : Ok X ad cid cc own nL ret fr lo) {v : Value} (hd : decode cc pc = .ok (.dup, 1)) (hv : v.category = 1) (k : Jp X ad cid nL Q M (pc + 1) lv (v :: v :: st) res) : Jp X ad cid nL Q M pc lv (v :: st) res :=
  fun out ho ls H locs hl hP hS => lv_dup hC.x hC.b hd hv (k out ho ls H locs hl hP hS)
theorem j_dup2 (hC : Ok X ad cid cc own nL ret fr lo) {v w : Value} (hd : decode cc pc = .ok (.dup2, 1)) (hv : v.category = 1) (hw : w.category = 1) (k : Jp X ad cid nL Q M (pc + 1) lv (v :: w :: v :: w :: st) res) : Jp X ad cid nL Q M pc lv (v :: w :: st) res :=
  fun out ho ls H locs hl hP hS => lv_dup2_11 hC.x hC.b hd hv hw (k out ho ls H locs hl hP hS)
theorem j_pop (hC : Ok X ad cid cc own nL ret fr lo) {v : Value} (hd : decode cc pc = .ok (.pop, 1)) (hv : v.category = 1) (k : Jp X ad cid nL Q M (pc + 1) lv st res) : Jp X ad cid nL Q M pc lv (v :: st) res :=
  fun out ho ls H locs hl hP hS => lv_pop hC.x hC.b hd hv (k out ho ls H locs hl hP hS)
theorem j_dup_x1 (hC : Ok X ad cid cc own nL ret fr lo) {v w : Value} (hd : decode cc pc = .ok (.dup_x1, 1)) (hv : v.category = 1) (hw : w.category = 1) (k : Jp X ad cid nL Q M (pc + 1) lv (v :: w :: v :: st) res) : Jp X ad cid nL Q M pc lv (v :: w :: st) res :=
  fun out ho ls H locs hl hP hS => lv_dup_x1 hC.x hC.b hd hv hw (k out ho ls H locs hl hP hS)
theorem j_goto (hC : Ok X ad cid cc own nL ret fr lo) {off : Int} {tgt : Nat} (hd : decode cc pc = .ok (.goto off, 3)) (ht : (pc : Int) + off = (tgt : Int)) (k : Jp X ad cid nL Q M tgt lv st res) : Jp X ad cid nL Q M pc lv st res :=
  fun out ho ls H locs hl hP hS => lv_goto hC.x hC.b hd ht (k out ho ls H locs hl hP hS)
theorem j_if_eq (hC : Ok X ad cid cc own nL ret fr lo) {x : Int32} {off : Int} {tgt : Nat} {ra rb : Option α} (hd : decode cc pc = .ok (.ifCond .eq off, 3)) (ht : (pc : Int) + off = (tgt : Int)) (ka : x = 0 → Jp X ad cid nL Q M tgt lv st ra) (kb : ¬ x = 0 → Jp X ad cid nL Q M (pc + 3) lv st rb) : Jp X ad cid nL Q M pc lv (.int x :: st) (if x = 0 then ra else rb) :=
  fun out ho ls H locs hl hP hS => lv_if_eq hC.x hC.b hd ht (fun h => ka h out (by rw [if_pos h] at ho; exact ho) ls H locs hl hP hS) (fun h => kb h out (by rw [if_neg h] at ho; exact ho) ls H locs hl hP hS)
theorem j_icmp_eq (hC : Ok X ad cid cc own nL ret fr lo) {x y : Int32} {off : Int} {tgt : Nat} {ra rb : Option α} (hd : decode cc pc = .ok (.if_icmp .eq off, 3)) (ht : (pc : Int) + off = (tgt : Int)) (ka : x = y → Jp X ad cid nL Q M tgt lv st ra) (kb : ¬ x = y → Jp X ad cid nL Q M (pc + 3) lv st rb) : Jp X ad cid nL Q M pc lv (.int y :: .int x :: st) (if x = y then ra else rb) :=
  fun out ho ls H locs hl hP hS => lv_icmp_eq hC.x hC.b hd ht (fun h => ka h out (by rw [if_pos h] at ho; exact ho) ls H locs hl hP hS) (fun h => kb h out (by rw [if_neg h] at ho; exact ho) ls H locs hl hP hS)
theorem j_if_lt (hC : Ok X ad cid cc own nL ret fr lo) {x : Int32} {off : Int} {tgt : Nat} {ra rb : Option α} (hd : decode cc pc = .ok (.ifCond .lt off, 3)) (ht : (pc : Int) + off = (tgt : Int)) (ka : x < 0 → Jp X ad cid nL Q M tgt lv st ra) (kb : ¬ x < 0 → Jp X ad cid nL Q M (pc + 3) lv st rb) : Jp X ad cid nL Q M pc lv (.int x :: st) (if x < 0 then ra else rb) :=
  fun out ho ls H locs hl hP hS => lv_if_lt hC.x hC.b hd ht (fun h => ka h out (by rw [if_pos h] at ho; exact ho) ls H locs hl hP hS) (fun h => kb h out (by rw [if_neg h] at ho; exact ho) ls H locs hl hP hS)
theorem j_icmp_lt (hC : Ok X ad cid cc own nL ret fr lo) {x y : Int32} {off : Int} {tgt : Nat} {ra rb : Option α} (hd : decode cc pc = .ok (.if_icmp .lt off, 3)) (ht : (pc : Int) + off = (tgt : Int)) (ka : x < y → Jp X ad cid nL Q M tgt lv st ra) (kb : ¬ x < y → Jp X ad cid nL Q M (pc + 3) lv st rb) : Jp X ad cid nL Q M pc lv (.int y :: .int x :: st) (if x < y then ra else rb) :=
  fun out ho ls H locs hl hP hS => lv_icmp_lt hC.x hC.b hd ht (fun h => ka h out (by rw [if_pos h] at ho; exact ho) ls H locs hl hP hS) (fun h => kb h out (by rw [if_neg h] at ho; exact ho) ls H locs hl hP hS)
theorem j_if_ge (hC : Ok X ad cid cc own nL ret fr lo) {x : Int32} {off : Int} {tgt : Nat} {ra rb : Option α} (hd : decode cc pc = .ok (.ifCond .ge off, 3)) (ht : (pc : Int) + off = (tgt : Int)) (ka : 0 ≤ x → Jp X ad cid nL Q M tgt lv st ra) (kb : ¬ 0 ≤ x → Jp X ad cid nL Q M (pc + 3) lv st rb) : Jp X ad cid nL Q M pc lv (.int x :: st) (if 0 ≤ x then ra else rb) :=
  fun out ho ls H locs hl hP hS => lv_if_ge hC.x hC.b hd ht (fun h => ka h out (by rw [if_pos h] at ho; exact ho) ls H locs hl hP hS) (fun h => kb h out (by rw [if_neg h] at ho; exact ho) ls H locs hl hP hS)
theorem j_icmp_ge (hC : Ok X ad cid cc own nL ret fr lo) {x y : Int32} {off : Int} {tgt : Nat} {ra rb : Option α} (hd : decode cc pc = .ok (.if_icmp .ge off, 3)) (ht : (pc : Int) + off = (tgt : Int)) (ka : y ≤ x → Jp X ad cid nL Q M tgt lv st ra) (kb : ¬ y ≤ x → Jp X ad cid nL Q M (pc + 3) lv st rb) : Jp X ad cid nL Q M pc lv (.int y :: .int x :: st) (if y ≤ x then ra else rb) :=
  fun out ho ls H locs hl hP hS => lv_icmp_ge hC.x hC.b hd ht (fun h => ka h out (by rw [if_pos h] at ho; exact ho) ls H locs hl hP hS) (fun h => kb h out (by rw [if_neg h] at ho; exact ho) ls H locs hl hP hS)
theorem j_if_gt (hC : Ok X ad cid cc own nL ret fr lo) {x : Int32} {off : Int} {tgt : Nat} {ra rb : Option α} (hd : decode cc pc = .ok (.ifCond .gt off, 3)) (ht : (pc : Int) + off = (tgt : Int)) (ka : 0 < x → Jp X ad cid nL Q M tgt lv st ra) (kb : ¬ 0 < x → Jp X ad cid nL Q M (pc + 3) lv st rb) : Jp X ad cid nL Q M pc lv (.int x :: st) (if 0 < x then ra else rb) :=
  fun out ho ls H locs hl hP hS => lv_if_gt hC.x hC.b hd ht (fun h => ka h out (by rw [if_pos h] at ho; exact ho) ls H locs hl hP hS) (fun h => kb h out (by rw [if_neg h] at ho; exact ho) ls H locs hl hP hS)
theorem j_icmp_gt (hC : Ok X ad cid cc own nL ret fr lo) {x y : Int32} {off : Int} {tgt : Nat} {ra rb : Option α} (hd : decode cc pc = .ok (.if_icmp .gt off, 3)) (ht : (pc : Int) + off = (tgt : Int)) (ka : y < x → Jp X ad cid nL Q M tgt lv st ra) (kb : ¬ y < x → Jp X ad cid nL Q M (pc + 3) lv st rb) : Jp X ad cid nL Q M pc lv (.int y :: .int x :: st) (if y < x then ra else rb) :=
  fun out ho ls H locs hl hP hS => lv_icmp_gt hC.x hC.b hd ht (fun h => ka h out (by rw [if_pos h] at ho; exact ho) ls H locs hl hP hS) (fun h => kb h out (by rw [if_neg h] at ho; exact ho) ls H locs hl hP hS)
theorem j_if_le (hC : Ok X ad cid cc own nL ret fr lo) {x : Int32} {off : Int} {tgt : Nat} {ra rb : Option α} (hd : decode cc pc = .ok (.ifCond .le off, 3)) (ht : (pc : Int) + off = (tgt : Int)) (ka : x ≤ 0 → Jp X ad cid nL Q M tgt lv st ra) (kb : ¬ x ≤ 0 → Jp X ad cid nL Q M (pc + 3) lv st rb) : Jp X ad cid nL Q M pc lv (.int x :: st) (if x ≤ 0 then ra else rb) :=
  fun out ho ls H locs hl hP hS => lv_if_le hC.x hC.b hd ht (fun h => ka h out (by rw [if_pos h] at ho; exact ho) ls H locs hl hP hS) (fun h => kb h out (by rw [if_neg h] at ho; exact ho) ls H locs hl hP hS)
theorem j_icmp_le (hC : Ok X ad cid cc own nL ret fr lo) {x y : Int32} {off : Int} {tgt : Nat} {ra rb : Option α} (hd : decode cc pc = .ok (.if_icmp .le off, 3)) (ht : (pc : Int) + off = (tgt : Int)) (ka : x ≤ y → Jp X ad cid nL Q M tgt lv st ra) (kb : ¬ x ≤ y → Jp X ad cid nL Q M (pc + 3) lv st rb) : Jp X ad cid nL Q M pc lv (.int y :: .int x :: st) (if x ≤ y then ra else rb) :=
  fun out ho ls H locs hl hP hS => lv_icmp_le hC.x hC.b hd ht (fun h => ka h out (by rw [if_pos h] at ho; exact ho) ls H locs hl hP hS) (fun h => kb h out (by rw [if_neg h] at ho; exact ho) ls H locs hl hP hS)
theorem j_if_ne (hC : Ok X ad cid cc own nL ret fr lo) {x : Int32} {off : Int} {tgt : Nat} {ra rb : Option α} (hd : decode cc pc = .ok (.ifCond .ne off, 3)) (ht : (pc : Int) + off = (tgt : Int)) (ka : ¬ x = 0 → Jp X ad cid nL Q M tgt lv st ra) (kb : x = 0 → Jp X ad cid nL Q M (pc + 3) lv st rb) : Jp X ad cid nL Q M pc lv (.int x :: st) (if x = 0 then rb else ra) :=
  fun out ho ls H locs hl hP hS => lv_if_ne hC.x hC.b hd ht (fun h => ka h out (by rw [if_neg h] at ho; exact ho) ls H locs hl hP hS) (fun h => kb h out (by rw [if_pos h] at ho; exact ho) ls H locs hl hP hS)
theorem j_icmp_ne (hC : Ok X ad cid cc own nL ret fr lo) {x y : Int32} {off : Int} {tgt : Nat} {ra rb : Option α} (hd : decode cc pc = .ok (.if_icmp .ne off, 3)) (ht : (pc : Int) + off = (tgt : Int)) (ka : ¬ x = y → Jp X ad cid nL Q M tgt lv st ra) (kb : x = y → Jp X ad cid nL Q M (pc + 3) lv st rb) : Jp X ad cid nL Q M pc lv (.int y :: .int x :: st) (if x = y then rb else ra) :=
  fun out ho ls H locs hl hP hS => lv_icmp_ne hC.x hC.b hd ht (fun h => ka h out (by rw [if_neg h] at ho; exact ho) ls H locs hl hP hS) (fun h => kb h out (by rw [if_pos h] at ho; exact ho) ls H locs hl hP hS)
theorem j_ck {c : Prop} [Decidable c] (k : c → Jp X ad cid nL Q M pc lv st res) : Jp X ad cid nL Q M pc lv st (if c then res else none) := by
  intro out ho
  by_cases h : c
  · rw [if_pos h] at ho; exact k h out ho
  · rw [if_neg h] at ho; cases ho
theorem j_get (hC : Ok X ad cid cc own nL ret fr lo) {ci index i : Nat} {C ref : String} {T : u_T} {N : Nat} {fs : List Value} {v : Value} (k : Nat) (hi : i < 126) (hs : shp ad cid M i = .inr (ci, fs)) (hc : vwCl[ci]? = some (C, T, N)) (hin : ∀ w ∈ u_ws C T N, w ∈ wAll) (hk : k < N) (href : (T k).1 = ref) (hw : Cond.fieldLink own index ref (T k).2.1 (T k).2.2.1 ∈ wAll) (hv : fs[k]? = some v) (hd : decode cc pc = .ok (.getfield index, 3)) (kk : Jp X ad cid nL Q M (pc + 3) lv (v :: st) res) : Jp X ad cid nL Q M pc lv (.ref (ad i) :: st) res :=
  fun out ho ls H locs hl hP hS => va_get hC.x hC.b hC.ts hin hC.ow hC.K hP i ((wld_get hi).trans (by rw [hs])) hc k hk (hC.ts _ hw) (fun x h => href ▸ h) hv hd (kk out ho ls H locs hl hP hS)
theorem j_getN (hC : Ok X ad cid cc own nL ret fr lo) {ci index i : Nat} {C ref host : String} {T : u_T} {N : Nat} {fs : List Value} {v : Value} (k : Nat) (hi : i < 126) (hs : shp ad cid M i = .inr (ci, fs)) (hc : vwCl[ci]? = some (C, T, N)) (hin : ∀ w ∈ u_ws C T N, w ∈ wAll) (hk : k < N) (href : (T k).1 = ref) (hw : Cond.fieldLinkNest own index ref (T k).2.1 (T k).2.2.1 host ∈ lw_tbl) (hv : fs[k]? = some v) (hd : decode cc pc = .ok (.getfield index, 3)) (kk : Jp X ad cid nL Q M (pc + 3) lv (v :: st) res) : Jp X ad cid nL Q M pc lv (.ref (ad i) :: st) res :=
  fun out ho ls H locs hl hP hS => va_getN hC.x hC.b hC.ts hin hC.ow hC.K hP i ((wld_get hi).trans (by rw [hs])) hc k hk (va_Nw.use rfl (hC.nest _ hw rfl)) (fun x h => href ▸ h) hv hd (kk out ho ls H locs hl hP hS)
theorem j_put (hC : Ok X ad cid cc own nL ret fr lo) {ci index i : Nat} {C ref : String} {T : u_T} {N : Nat} {fs : List Value} {v : Value} {M' : Mem} {ty : FieldType} (ty0 : Nat → FieldType) (k : Nat) (hi : i < 126) (hs : shp ad cid M i = .inr (ci, fs)) (hs' : shp ad cid M' i = .inr (ci, fs.set k v)) (hM : ∀ j, j ≠ i → gM M' j = gM M j ∧ gL M' j = gL M j) (hc : vwCl[ci]? = some (C, T, N)) (hin : ∀ w ∈ u_ws C T N, w ∈ wAll) (hty : ∀ k, k < N → parseFieldDescriptor (T k).2.2.1 = some (ty0 k)) (hnm : ∀ a, a < N → ∀ b, b < N → a ≠ b → (T a).2.1 ≠ (T b).2.1) (hk : k < N) (href : (T k).1 = ref) (hw : Cond.fieldLink own index ref (T k).2.1 (T k).2.2.1 ∈ wAll) (hfin : (T k).2.2.2 = false) (hdt : parseFieldDescriptor (T k).2.2.1 = some ty) (hn : narrow ty v = v) (hfit : fits ty v = true) (hl : k < fs.length) (hd : decode cc pc = .ok (.putfield index, 3)) (kk : Jp X ad cid nL Q M' (pc + 3) lv st res) : Jp X ad cid nL Q M pc lv (v :: .ref (ad i) :: st) res :=
  fun out ho ls H locs hl2 hP hS => va_put hC.x hC.b hC.ts hin ty0 hty hnm hC.ow hC.K hP (wld_D hC.ly) hS i ((wld_get hi).trans (by rw [hs])) hc k hk (hC.ts _ hw) (fun x h => href ▸ h) hfin hdt hn hfit hl hd (fun H1 locs1 hP1 _ hS1 => kk out ho ls H1 locs1 hl2 (by rw [wld_set hs' hM] at hP1; exact hP1) hS1)
theorem j_putN (hC : Ok X ad cid cc own nL ret fr lo) {ci index i : Nat} {C ref host : String} {T : u_T} {N : Nat} {fs : List Value} {v : Value} {M' : Mem} {ty : FieldType} (ty0 : Nat → FieldType) (k : Nat) (hi : i < 126) (hs : shp ad cid M i = .inr (ci, fs)) (hs' : shp ad cid M' i = .inr (ci, fs.set k v)) (hM : ∀ j, j ≠ i → gM M' j = gM M j ∧ gL M' j = gL M j) (hc : vwCl[ci]? = some (C, T, N)) (hin : ∀ w ∈ u_ws C T N, w ∈ wAll) (hty : ∀ k, k < N → parseFieldDescriptor (T k).2.2.1 = some (ty0 k)) (hnm : ∀ a, a < N → ∀ b, b < N → a ≠ b → (T a).2.1 ≠ (T b).2.1) (hk : k < N) (href : (T k).1 = ref) (hw : Cond.fieldLinkNest own index ref (T k).2.1 (T k).2.2.1 host ∈ lw_tbl) (hfin : (T k).2.2.2 = false) (hdt : parseFieldDescriptor (T k).2.2.1 = some ty) (hn : narrow ty v = v) (hfit : fits ty v = true) (hl : k < fs.length) (hd : decode cc pc = .ok (.putfield index, 3)) (kk : Jp X ad cid nL Q M' (pc + 3) lv st res) : Jp X ad cid nL Q M pc lv (v :: .ref (ad i) :: st) res :=
  fun out ho ls H locs hl2 hP hS => va_putN hC.x hC.b hC.ts hin ty0 hty hnm hC.ow hC.K hP (wld_D hC.ly) hS i ((wld_get hi).trans (by rw [hs])) hc k hk (va_Nw.use rfl (hC.nest _ hw rfl)) (fun x h => href ▸ h) hfin hdt hn hfit hl hd (fun H1 locs1 hP1 _ hS1 => kk out ho ls H1 locs1 hl2 (by rw [wld_set hs' hM] at hP1; exact hP1) hS1)
theorem sM_other (M : Mem) (i k : Nat) (v : Int32) : ∀ j, j ≠ i → gM (sM M i k v) j = gM M j ∧ gL (sM M i k v) j = gL M j := fun j hj => ⟨funext fun l => g_si hj, rfl⟩
theorem sL_other (M : Mem) (i : Nat) (v : Int64) : ∀ j, j ≠ i → gM (sL M i v) j = gM M j ∧ gL (sL M i v) j = gL M j := fun j hj => ⟨rfl, by rw [l_sL, if_neg hj]⟩
theorem shp_0 {i : Nat} (h : shK i = 0) : shp ad cid M i = .inl (cid 0, shN i, .inl (gM M i)) := by simp only [shp, h]
theorem shp_1 {i : Nat} (h : shK i = 1) : shp ad cid M i = .inl (cid 1, shN i, .inl (gM M i)) := by simp only [shp, h]
theorem shp_2 {i : Nat} (h : shK i = 2) : shp ad cid M i = .inl (cid 2, shN i, .inr (.inl (fun j => if j = 0 then gL M i else 0))) := by simp only [shp, h]
theorem shp_3 {i : Nat} (h : shK i = 3) : shp ad cid M i = .inl (cid 3, shN i, .inr (.inr (.inr (.inr (fun j => if j < shN i then some (ad (shB i + 3 * j)) else none))))) := by simp only [shp, h]
theorem shp_4 {i : Nat} (h : shK i = 4) : shp ad cid M i = .inl (cid 4, shN i, .inr (.inr (.inr (.inr (fun j => if j < shN i then some (ad (103 + j)) else none))))) := by simp only [shp, h]
theorem shK_lt {i : Nat} (h : shK i ≠ 99) : i < 126 := by
  rcases Nat.lt_or_ge i 126 with q | q
  · exact q
  · exact absurd (by unfold shK; rw [List.getD_eq_getElem?_getD, List.getElem?_eq_none (by exact q)]; rfl) h
theorem j_iald (hC : Ok X ad cid cc own nL ret fr lo) {i n : Nat} {x : Int32} (hk : shK i = 0) (hn : shN i = n) (hb : inB x n) (hd : decode cc pc = .ok (.iaload, 1)) (kk : Jp X ad cid nL Q M (pc + 1) lv (.int (gM M i x.toNatClampNeg) :: st) res) : Jp X ad cid nL Q M pc lv (.int x :: .ref (ad i) :: st) res :=
  fun out ho ls H locs hl hP hS => va_iald hC.x hC.b hC.K hP i 0 ((wld_get (shK_lt (by rw [hk]; decide))).trans (by rw [shp_0 hk, hn])) rfl (vp_in_iff.mpr hb) hd (kk out ho ls H locs hl hP hS)
theorem j_zald (hC : Ok X ad cid cc own nL ret fr lo) {i n : Nat} {x : Int32} (hk : shK i = 1) (hn : shN i = n) (hb : inB x n) (hd : decode cc pc = .ok (.baload, 1)) (kk : Jp X ad cid nL Q M (pc + 1) lv (.int (gM M i x.toNatClampNeg) :: st) res) : Jp X ad cid nL Q M pc lv (.int x :: .ref (ad i) :: st) res :=
  fun out ho ls H locs hl hP hS => va_zald hC.x hC.b hC.K hP i 1 ((wld_get (shK_lt (by rw [hk]; decide))).trans (by rw [shp_1 hk, hn])) rfl (vp_in_iff.mpr hb) hd (kk out ho ls H locs hl hP hS)
theorem j_lald (hC : Ok X ad cid cc own nL ret fr lo) {i n : Nat} {x : Int32} (hk : shK i = 2) (hn : shN i = n) (hb : inB x n) (h0 : x.toNatClampNeg = 0) (hd : decode cc pc = .ok (.laload, 1)) (kk : Jp X ad cid nL Q M (pc + 1) lv (.long (gL M i) :: st) res) : Jp X ad cid nL Q M pc lv (.int x :: .ref (ad i) :: st) res :=
  fun out ho ls H locs hl hP hS => va_lald hC.x hC.b hC.K hP i 2 ((wld_get (shK_lt (by rw [hk]; decide))).trans (by rw [shp_2 hk, hn])) rfl (vp_in_iff.mpr hb) hd (by simp only [h0, if_true]; exact kk out ho ls H locs hl hP hS)
theorem j_iast (hC : Ok X ad cid cc own nL ret fr lo) {i n : Nat} {x v : Int32} (hk : shK i = 0) (hn : shN i = n) (hb : inB x n) (hd : decode cc pc = .ok (.iastore, 1)) (kk : Jp X ad cid nL Q (sM M i x.toNatClampNeg v) (pc + 1) lv st res) : Jp X ad cid nL Q M pc lv (.int v :: .int x :: .ref (ad i) :: st) res :=
  fun out ho ls H locs hl hP hS => va_iast hC.x hC.b hC.K hP (wld_D hC.ly) hS i 0 ((wld_get (shK_lt (by rw [hk]; decide))).trans (by rw [shp_0 hk, hn])) rfl (vp_in_iff.mpr hb) hd (fun H1 locs1 hP1 _ hS1 => kk out ho ls H1 locs1 hl (by
    rw [wld_set (N := sM M i x.toNatClampNeg v) (by rw [shp_0 hk, hn, show gM (sM M i x.toNatClampNeg v) i = upd (gM M i) x.toNatClampNeg v from funext fun l => by simp [g_s, upd]]) (sM_other M i _ v)] at hP1; exact hP1) hS1)
theorem j_zast (hC : Ok X ad cid cc own nL ret fr lo) {i n : Nat} {x v : Int32} (hk : shK i = 1) (hn : shN i = n) (hb : inB x n) (hv : vp_nar .boolean v = v) (hd : decode cc pc = .ok (.bastore, 1)) (kk : Jp X ad cid nL Q (sM M i x.toNatClampNeg v) (pc + 1) lv st res) : Jp X ad cid nL Q M pc lv (.int v :: .int x :: .ref (ad i) :: st) res :=
  fun out ho ls H locs hl hP hS => va_zast hC.x hC.b hC.K hP (wld_D hC.ly) hS i 1 ((wld_get (shK_lt (by rw [hk]; decide))).trans (by rw [shp_1 hk, hn])) rfl (vp_in_iff.mpr hb) hd (fun H1 locs1 hP1 _ hS1 => kk out ho ls H1 locs1 hl (by
    rw [hv, wld_set (N := sM M i x.toNatClampNeg v) (by rw [shp_1 hk, hn, show gM (sM M i x.toNatClampNeg v) i = upd (gM M i) x.toNatClampNeg v from funext fun l => by simp [g_s, upd]]) (sM_other M i _ v)] at hP1; exact hP1) hS1)
theorem j_last (hC : Ok X ad cid cc own nL ret fr lo) {i n : Nat} {x : Int32} {v : Int64} (hk : shK i = 2) (hn : shN i = n) (hb : inB x n) (h0 : x.toNatClampNeg = 0) (hd : decode cc pc = .ok (.lastore, 1)) (kk : Jp X ad cid nL Q (sL M i v) (pc + 1) lv st res) : Jp X ad cid nL Q M pc lv (.long v :: .int x :: .ref (ad i) :: st) res :=
  fun out ho ls H locs hl hP hS => va_last hC.x hC.b hC.K hP (wld_D hC.ly) hS i 2 ((wld_get (shK_lt (by rw [hk]; decide))).trans (by rw [shp_2 hk, hn])) rfl (vp_in_iff.mpr hb) hd (fun H1 locs1 hP1 _ hS1 => kk out ho ls H1 locs1 hl (by
    rw [wld_set (N := sL M i v) (by rw [shp_2 hk, hn, h0, show (fun j => if j = 0 then gL (sL M i v) i else 0) = vp_updL (fun j => if j = 0 then gL M i else 0) 0 v from funext fun l => by by_cases hl0 : l = 0 <;> simp [l_sL, vp_updL, hl0]]) (sL_other M i v)] at hP1; exact hP1) hS1)
theorem j_aald (hC : Ok X ad cid cc own nL ret fr lo) {i n b0 : Nat} {x : Int32} (hk : shK i = 3) (hn : shN i = n) (hB : shB i = b0) (hb : inB x n) (hd : decode cc pc = .ok (.aaload, 1)) (kk : Jp X ad cid nL Q M (pc + 1) lv (.ref (ad (b0 + 3 * x.toNatClampNeg)) :: st) res) : Jp X ad cid nL Q M pc lv (.int x :: .ref (ad i) :: st) res :=
  fun out ho ls H locs hl hP hS => va_aldq hC.x hC.b hC.K hP i 3 ((wld_get (shK_lt (by rw [hk]; decide))).trans (by rw [shp_3 hk, hn])) rfl (vp_in_iff.mpr hb) hd (by simp only [inB_lt hb, if_true, hB]; exact kk out ho ls H locs hl hP hS)
theorem j_aaldP (hC : Ok X ad cid cc own nL ret fr lo) {i n : Nat} {x : Int32} (hk : shK i = 4) (hn : shN i = n) (hb : inB x n) (hd : decode cc pc = .ok (.aaload, 1)) (kk : Jp X ad cid nL Q M (pc + 1) lv (.ref (ad (103 + x.toNatClampNeg)) :: st) res) : Jp X ad cid nL Q M pc lv (.int x :: .ref (ad i) :: st) res :=
  fun out ho ls H locs hl hP hS => va_aldq hC.x hC.b hC.K hP i 4 ((wld_get (shK_lt (by rw [hk]; decide))).trans (by rw [shp_4 hk, hn])) rfl (vp_in_iff.mpr hb) hd (by simp only [inB_lt hb, if_true]; exact kk out ho ls H locs hl hP hS)
theorem j_alen0 (hC : Ok X ad cid cc own nL ret fr lo) {i : Nat} {v : Int32} (hk : shK i = 0) (hv : Int32.ofNat (shN i) = v) (hd : decode cc pc = .ok (.arraylength, 1)) (kk : Jp X ad cid nL Q M (pc + 1) lv (.int v :: st) res) : Jp X ad cid nL Q M pc lv (.ref (ad i) :: st) res :=
  fun out ho ls H locs hl hP hS => va_alen hC.x hC.b hC.K hP i 0 ((wld_get (shK_lt (by rw [hk]; decide))).trans (by rw [shp_0 hk])) rfl hv hd (kk out ho ls H locs hl hP hS)
theorem j_alen3 (hC : Ok X ad cid cc own nL ret fr lo) {i : Nat} {v : Int32} (hk : shK i = 3) (hv : Int32.ofNat (shN i) = v) (hd : decode cc pc = .ok (.arraylength, 1)) (kk : Jp X ad cid nL Q M (pc + 1) lv (.int v :: st) res) : Jp X ad cid nL Q M pc lv (.ref (ad i) :: st) res :=
  fun out ho ls H locs hl hP hS => va_alen hC.x hC.b hC.K hP i 3 ((wld_get (shK_lt (by rw [hk]; decide))).trans (by rw [shp_3 hk])) rfl hv hd (kk out ho ls H locs hl hP hS)
theorem j_alen4 (hC : Ok X ad cid cc own nL ret fr lo) {i : Nat} {v : Int32} (hk : shK i = 4) (hv : Int32.ofNat (shN i) = v) (hd : decode cc pc = .ok (.arraylength, 1)) (kk : Jp X ad cid nL Q M (pc + 1) lv (.int v :: st) res) : Jp X ad cid nL Q M pc lv (.ref (ad i) :: st) res :=
  fun out ho ls H locs hl hP hS => va_alen hC.x hC.b hC.K hP i 4 ((wld_get (shK_lt (by rw [hk]; decide))).trans (by rw [shp_4 hk])) rfl hv hd (kk out ho ls H locs hl hP hS)
end JR
end
section
/-! contracts over the memory, returns, calls -/
abbrev rmO (fr lo : Nat) : Room := { frames := fr, cells := 0, slots := 0, locals := lo }
abbrev wsO (y : MethodName) (cc : ByteArray) (nL : Nat) (ret : Option FieldType) : List Cond := Cond.code y cc nL ret :: wAll
def preO (ad : Nat → Nat) (cid : Nat → ClassId) (D : va_G) (M : Mem) (U : State) : Prop := va_P D vwCl (wld ad cid M) U.heap ∧ va_K D vwCl (tysOf cid) U ∧ nestOk U
abbrev qTy (α : Type) : Type := va_G → α → Array Value → State → Outcome → State → Prop
def qV (ad : Nat → Nat) (cid : Nat → ClassId) : qTy Mem := fun D out => va_Qv (fun u : Mem => u = out) (fun u t => va_P D vwCl (wld ad cid u) t.heap) (iA ad)
def qI (ad : Nat → Nat) (cid : Nat → ClassId) : qTy (Mem × Int32) := fun D out => va_Qi (fun r (u : Mem) => (u, r) = out) (fun u t => va_P D vwCl (wld ad cid u) t.heap) (iA ad)
def qL (ad : Nat → Nat) (cid : Nat → ClassId) : qTy (Mem × Int64) := fun D out => va_Ql (fun r (u : Mem) => (u, r) = out) (fun u t => va_P D vwCl (wld ad cid u) t.heap) (iA ad)
def qR (ad : Nat → Nat) (cid : Nat → ClassId) : qTy (Mem × Nat) := fun D out => va_Qr (fun u : Mem => u = out.1) (fun u a t => a = ad out.2 ∧ va_P D vwCl (wld ad cid u) t.heap) (iA ad)
def Ct {α : Type} (q : qTy α) (l : Launch) (ad : Nat → Nat) (cid : Nat → ClassId) (D : va_G) (y : MethodName) (cc : ByteArray) (nL : Nat) (ret : Option FieldType) (fr lo : Nat) (as : List Value) (M : Mem) (res : Option α) : Prop :=
  ∀ out, res = some out → Met l y (wsO y cc nL ret) (rmO fr lo) (va_Pc as (preO ad cid D M)) (q D out) 0 0 (iA ad)
def qm (X : Cx) (ad : Nat → Nat) {α : Type} (q : qTy α) (out : α) : State → Prop := MQ (cxB X) (q (cxD X) out) (cxA X) (cxS X) (cxK X) (cxN X) (iA ad)
theorem ct_of {α : Type} {q : qTy α} {l : Launch} {ad : Nat → Nat} {cid : Nat → ClassId} {D : va_G} {y : MethodName} {cc : ByteArray} {nL : Nat} {ret : Option FieldType} {fr lo : Nat} {as : List Value} {M : Mem} {res : Option α} {own : String} {lv : List (Option Value)} (hL : lyOk ad) (hy : plainName y.cls = true) (ho : y.cls = own) (hlv : prs 0 lv = lv_args 0 as) (hlen : (lg_sl as).length ≤ nL)
    (body : ∀ X, Ok X ad cid cc own nL ret fr lo → Jp X ad cid nL (qm X ad q) M 0 lv [] res) : Ct q l ad cid D y cc nL ret fr lo as M res := by
  intro out hout
  refine Met.ofW (cc := cc) (maxL := nL) (ret := ret) hy rfl ?_
  intro p e s m args below meth c s₁ B hml hv
  obtain ⟨rfl, hP, hK, hN⟩ := hv
  have hts := atoms_spec (ws := wsO y cc nL ret) B.pre
  have hown : s.vm.findClass own = some m.cls := by rw [← ho]; exact findClass_of_methodNamed B.named
  have hb := body (p, l, e, rmO fr lo, s, m, as.toArray, below, meth, c, D, 0, 0) ⟨B.exec, B.bytes, hml, hown, fun w hw => hts w (List.mem_cons_of_mem _ hw), hK, hN, hL, B.notSynchronized, B.returns, Nat.le_refl _, Nat.le_refl _, Nat.le_refl _, Nat.le_refl _⟩ out hout
  rw [lg_entry_eq]
  exact hb _ _ _ (by rw [hlv]; exact lv_entry as hlen) hP va_S.rf
theorem blindO {ad : Nat → Nat} {cid : Nat → ClassId} {D : va_G} {M : Mem} {as : List Value} : FrameBlind (va_Pc as (preO ad cid D M)) := fun a U g mk q => ⟨q.1, q.2.1, va_K.moved (u := U) (U := U.calling g mk a) (Vm.Alike.refl U.vm) q.2.2.1, nest_same (s := U) (U := U.calling g mk a) rfl q.2.2.2⟩
section JC
variable {X : Cx} {ad : Nat → Nat} {cid : Nat → ClassId} {cc : ByteArray} {own : String} {nL : Nat} {ret : Option FieldType} {fr lo : Nat} {α : Type} {Q : α → State → Prop} {M : Mem} {pc : Nat} {lv : List (Option Value)} {st st0 : List Value} {res : Option α}
theorem j_iret (hC : Ok X ad cid cc own nL (some .int) fr lo) {r : Int32} (hd : decode cc pc = .ok (.ireturn, 1)) : Jp X ad cid nL (qm X ad (qI ad cid)) M pc lv [.int r] (some (M, r)) := by
  intro out ho ls H locs hl hP hS
  cases ho
  exact W.iret hC.x hC.b hC.r (fun t ht hW => ⟨⟨r, M, rfl, rfl, by show va_P _ _ _ t.heap; rw [ht]; exact hP⟩, hS.F ht⟩) hS.2.2 hd hC.lk
theorem j_zret (hC : Ok X ad cid cc own nL (some .boolean) fr lo) {r : Int32} (hd : decode cc pc = .ok (.ireturn, 1)) (hr : r = 0 ∨ r = 1) : Jp X ad cid nL (qm X ad (qI ad cid)) M pc lv [.int r] (some (M, r)) := by
  intro out ho ls H locs hl hP hS
  cases ho
  exact W.zret hC.x hC.b hC.r (by rcases hr with rfl | rfl <;> rfl) (fun t ht hW => ⟨⟨r, M, rfl, rfl, by show va_P _ _ _ t.heap; rw [ht]; exact hP⟩, hS.F ht⟩) hS.2.2 hd hC.lk
theorem j_lret (hC : Ok X ad cid cc own nL (some .long) fr lo) {r : Int64} (hd : decode cc pc = .ok (.lreturn, 1)) : Jp X ad cid nL (qm X ad (qL ad cid)) M pc lv [.long r] (some (M, r)) := by
  intro out ho ls H locs hl hP hS
  cases ho
  exact W.lret hC.x hC.b hC.r (fun t ht hW => ⟨⟨r, M, rfl, rfl, by show va_P _ _ _ t.heap; rw [ht]; exact hP⟩, hS.F ht⟩) hS.2.2 hd hC.lk
theorem j_vret (hC : Ok X ad cid cc own nL none fr lo) (hd : decode cc pc = .ok (.return_, 1)) : Jp X ad cid nL (qm X ad (qV ad cid)) M pc lv [] (some M) := by
  intro out ho ls H locs hl hP hS
  cases ho
  exact W.vret hC.x hC.b hC.r (fun t ht hW => ⟨⟨M, rfl, rfl, by show va_P _ _ _ t.heap; rw [ht]; exact hP⟩, hS.F ht⟩) hS.2.2 hd hC.lk
theorem j_aret {C : String} (hC : Ok X ad cid cc own nL (some (.object C)) fr lo) {i : Nat} (hd : decode cc pc = .ok (.areturn, 1)) : Jp X ad cid nL (qm X ad (qR ad cid)) M pc lv [.ref (ad i)] (some (M, i)) := by
  intro out ho ls H locs hl hP hS
  cases ho
  exact W.aret hC.x hC.b hC.r (Or.inl ⟨C, rfl⟩) (Or.inr ⟨_, rfl⟩) (fun t ht hW => ⟨⟨M, ad i, rfl, rfl, rfl, by show va_P _ _ _ t.heap; rw [ht]; exact hP⟩, hS.F ht⟩) hS.2.2 hd hC.lk
/-- a call has run: on with what it answered -/
abbrev jRun (X : Cx) (ad : Nat → Nat) (cid : Nat → ClassId) (nL : Nat) (M : Mem) (pc : Nat) (lv : List (Option Value)) (st0 st : List Value) {β : Type} (q : qTy β) (av : Array Value) (o : β) : Prop :=
  ∀ (ls : Array Slot) (H : Heap) (locs : List Loc), lv_has ls nL (prs 0 lv) → va_P (cxD X) vwCl (wld ad cid M) H → va_S (iA ad) (cxS X).heap H locs → va_Run X.1 (cxL X) X.2.2.1 (cxR X) (cxS X) (cxM X) (cxA X) (cxB X) (cxMe X) (cxC X) H locs (cxK X) (cxN X) 0 0 (F0 (cxM X) pc ls st0) st (q (cxD X) o av) (iA ad)
theorem j_ri {rc : Option (Mem × Int32)} {k : Mem × Int32 → Option α} {av : Array Value} (hrun : ∀ o, rc = some o → jRun X ad cid nL M pc lv st0 st (qI ad cid) av o) (kk : ∀ M1 r1, rc = some (M1, r1) → Jp X ad cid nL Q M1 (pc + 3) lv (.int r1 :: st) (k (M1, r1))) : Jp X ad cid nL Q M pc lv st0 (rc.bind k) := by
  intro out ho ls H locs hl hP hS
  cases hrc : rc with
  | none => rw [hrc] at ho; cases ho
  | some o =>
    obtain ⟨M1, r1⟩ := o
    rw [hrc] at ho
    exact va_calli (hrun _ hrc ls H locs hl hP hS) hS (fun _ _ h => h) (fun _ h => h) (fun r u t H1 locs1 ht _ hp hB _ _ hS1 => by
      cases hp
      exact kk M1 r1 hrc out ho ls H1 locs1 hl (by rw [← ht]; exact hB) hS1)
theorem j_rv {rc : Option Mem} {k : Mem → Option α} {av : Array Value} (hrun : ∀ o, rc = some o → jRun X ad cid nL M pc lv st0 st (qV ad cid) av o) (kk : ∀ M1, rc = some M1 → Jp X ad cid nL Q M1 (pc + 3) lv st (k M1)) : Jp X ad cid nL Q M pc lv st0 (rc.bind k) := by
  intro out ho ls H locs hl hP hS
  cases hrc : rc with
  | none => rw [hrc] at ho; cases ho
  | some o =>
    rw [hrc] at ho
    exact va_callv (hrun _ hrc ls H locs hl hP hS) hS (fun _ _ h => h) (fun _ h => h) (fun u t H1 locs1 ht _ hp hB _ _ hS1 => by
      cases hp
      exact kk o hrc out ho ls H1 locs1 hl (by rw [← ht]; exact hB) hS1)
theorem j_rr {rc : Option (Mem × Nat)} {k : Mem × Nat → Option α} {av : Array Value} (hrun : ∀ o, rc = some o → jRun X ad cid nL M pc lv st0 st (qR ad cid) av o) (kk : ∀ M1 i1, rc = some (M1, i1) → Jp X ad cid nL Q M1 (pc + 3) lv (.ref (ad i1) :: st) (k (M1, i1))) : Jp X ad cid nL Q M pc lv st0 (rc.bind k) := by
  intro out ho ls H locs hl hP hS
  cases hrc : rc with
  | none => rw [hrc] at ho; cases ho
  | some o =>
    obtain ⟨M1, i1⟩ := o
    rw [hrc] at ho
    exact va_callr (hrun _ hrc ls H locs hl hP hS) hS (fun _ _ h => h) (fun _ h => h) (fun u ra t H1 locs1 ht _ hp hB _ _ hS1 => by
      cases hp
      obtain ⟨rfl, hB⟩ := hB
      exact kk M1 i1 hrc out ho ls H1 locs1 hl (by rw [← ht]; exact hB) hS1)
theorem j_rl {rc : Option (Mem × Int64)} {k : Mem × Int64 → Option α} {av : Array Value} (hrun : ∀ o, rc = some o → jRun X ad cid nL M pc lv st0 st (qL ad cid) av o) (kk : ∀ M1 r1, rc = some (M1, r1) → Jp X ad cid nL Q M1 (pc + 3) lv (.long r1 :: st) (k (M1, r1))) : Jp X ad cid nL Q M pc lv st0 (rc.bind k) := by
  intro out ho ls H locs hl hP hS
  cases hrc : rc with
  | none => rw [hrc] at ho; cases ho
  | some o =>
    obtain ⟨M1, r1⟩ := o
    rw [hrc] at ho
    exact va_calll (hrun _ hrc ls H locs hl hP hS) hS (fun _ _ h => h) (fun _ h => h) (fun r u t H1 locs1 ht _ hp hB _ _ hS1 => by
      cases hp
      exact kk M1 r1 hrc out ho ls H1 locs1 hl (by rw [← ht]; exact hB) hS1)
/-- what a callee's words are: of an instance method, of a static one -/
def cV (y : MethodName) (C : String) (cc : ByteArray) (nL : Nat) (ret : Option FieldType) (n : Nat) : Prop := (y.cls = C ∧ y.cls ≠ "java/lang/invoke/MethodHandle" ∧ y.cls ≠ "java/lang/invoke/VarHandle" ∧ (parseMethodDescriptor y.desc).map (fun d => d.parameters.length) = some n) ∧ Cond.instanceMethod y ∈ wAll ∧ Cond.selects C y y ∈ wAll ∧ Cond.initialized C ∈ wAll ∧ Cond.code y cc nL ret ∈ wAll
def cS (y : MethodName) (cc : ByteArray) (nL : Nat) (ret : Option FieldType) (n : Nat) : Prop := (y.cls ≠ "java/lang/invoke/MethodHandle" ∧ y.cls ≠ "java/lang/invoke/VarHandle" ∧ (parseMethodDescriptor y.desc).map (fun d => d.parameters.length) = some n) ∧ Cond.static y ∈ wAll ∧ Cond.initialized y.cls ∈ wAll ∧ Cond.code y cc nL ret ∈ wAll
theorem preO_at {D : va_G} {s U : State} {H : Heap} (hP : va_P D vwCl (wld ad cid M) H) (hK : va_K D vwCl (tysOf cid) s) (hN : nestOk s) (hU : U.heap = H) (hW : s.WarmedH U.vm) : preO ad cid D M U := ⟨by rw [hU]; exact hP, va_K.moved hW.alike hK, nest_warm hW hN⟩
theorem run_V (hC : Ok X ad cid cc own nL ret fr lo) {β : Type} {q : qTy β} {rc : Option β} {y : MethodName} {C : String} {T : u_T} {N ci i n index nL2 fr2 lo2 : Nat} {c2 : ByteArray} {ret2 : Option FieldType} {fs : List Value} {as : List Value} (hM : Ct q (cxL X) ad cid (cxD X) y c2 nL2 ret2 fr2 lo2 (.ref (ad i) :: as) M rc) (hv : cV y C c2 nL2 ret2 n) (hw : Cond.methodLink own index y ∈ wAll) (hi : i < 126) (hs : shp ad cid M i = .inr (ci, fs)) (hc : vwCl[ci]? = some (C, T, N)) (hR : fr2 + 1 ≤ fr ∧ 8 + (nL2 + 11) + lo2 ≤ lo) (hn : as.length = n) (hst : st0 = as.reverse ++ .ref (ad i) :: st) (hcat : (st.map fun v => v.category).sum ≤ 8) (hd : decode cc pc = .ok (.invokevirtual index, 3)) : ∀ o, rc = some o → jRun X ad cid nL M pc lv st0 st q (.ref (ad i) :: as).toArray o :=
  fun o ho ls H locs hl hP hS => va_runV (As := as) (rest := st) (C := C) ⟨hC.x, hC.b, hC.ml, hC.ow, hC.ts⟩ (hM o ho) (cwV n hC.ts (good_more _ (fun _ h => h) (List.forall_mem_cons.mpr ⟨hw, List.forall_mem_cons.mpr ⟨hv.2.1, List.forall_mem_cons.mpr ⟨hv.2.2.1, List.forall_mem_cons.mpr ⟨hv.2.2.2.1, fun _ h => absurd h List.not_mem_nil⟩⟩⟩⟩) (good_ws (fun _ h => h) hv.2.2.2.2)) rfl rfl rfl hv.1 ⟨Nat.le_trans hR.1 hC.f1, Nat.le_trans hR.2 hC.l1⟩) ⟨blindO, va_recv hC.K hP hc ((wld_get hi).trans (by rw [hs])), fun U hU hW => ⟨rfl, preO_at hP hC.K hC.nest hU hW⟩⟩ rfl hn hl.1 hst (lv_room hcat) hd ⟨hC.kc, hC.kn⟩
theorem run_S (hC : Ok X ad cid cc own nL ret fr lo) {β : Type} {q : qTy β} {rc : Option β} {y : MethodName} {n index nL2 fr2 lo2 : Nat} {c2 : ByteArray} {ret2 : Option FieldType} {as : List Value} (hM : Ct q (cxL X) ad cid (cxD X) y c2 nL2 ret2 fr2 lo2 as M rc) (hv : cS y c2 nL2 ret2 n) (hw : Cond.methodLink own index y ∈ wAll) (hR : fr2 + 1 ≤ fr ∧ 8 + (nL2 + 11) + lo2 ≤ lo) (hn : as.length = n) (hst : st0 = as.reverse ++ st) (hcat : (st.map fun v => v.category).sum ≤ 8) (hd : decode cc pc = .ok (.invokestatic index, 3)) : ∀ o, rc = some o → jRun X ad cid nL M pc lv st0 st q as.toArray o :=
  fun o ho ls H locs hl hP hS => va_runS (As := as) (rest := st) ⟨hC.x, hC.b, hC.ml, hC.ow, hC.ts⟩ (hM o ho) (va_cwS n hC.ts (good_more _ (fun _ h => h) (List.forall_mem_cons.mpr ⟨hw, List.forall_mem_cons.mpr ⟨hv.2.1, List.forall_mem_cons.mpr ⟨hv.2.2.1, fun _ h => absurd h List.not_mem_nil⟩⟩⟩) (good_ws (fun _ h => h) hv.2.2.2)) rfl rfl rfl hv.1 ⟨Nat.le_trans hR.1 hC.f1, Nat.le_trans hR.2 hC.l1⟩) ⟨blindO, fun U hU hW => ⟨rfl, preO_at hP hC.K hC.nest hU hW⟩⟩ rfl hn hl.1 hst (lv_room hcat) hd ⟨hC.kc, hC.kn⟩
theorem j_mmax (hC : Ok X ad cid cc own nL ret fr lo) {index : Nat} {x y : Int32} (hw : Cond.methodLink own index Lib.Math.max.name ∈ wAll) (h1 : Cond.static Lib.Math.max.name ∈ wAll) (h2 : Cond.initialized "java/lang/Math" ∈ wAll) (h3 : Cond.code Lib.Math.max.name Lib.Math.max.code 2 (some .int) ∈ wAll) (hf : 1 ≤ fr) (hlo : (st.map fun v => v.category).sum + 13 ≤ lo) (hd : decode cc pc = .ok (.invokestatic index, 3)) (k : Jp X ad cid nL Q M (pc + 3) lv (.int (if x < y then y else x) :: st) res) : Jp X ad cid nL Q M pc lv (.int y :: .int x :: st) res :=
  fun out ho ls H locs hl hP hS => va_mmax hC.x hC.b (hC.ml.trans hl.1.symm) hC.ow (hC.ts _ hw) (hC.ts _ h1) (hC.ts _ h2) (hC.ts _ h3) (Nat.le_trans hf hC.f1) (Nat.le_trans hlo hC.l1) hC.kc hC.kn hd (k out ho ls H locs hl hP hS)
theorem j_mmin (hC : Ok X ad cid cc own nL ret fr lo) {index : Nat} {x y : Int32} (hw : Cond.methodLink own index Lib.Math.min.name ∈ wAll) (h1 : Cond.static Lib.Math.min.name ∈ wAll) (h2 : Cond.initialized "java/lang/Math" ∈ wAll) (h3 : Cond.code Lib.Math.min.name Lib.Math.min.code 2 (some .int) ∈ wAll) (hf : 1 ≤ fr) (hlo : (st.map fun v => v.category).sum + 13 ≤ lo) (hd : decode cc pc = .ok (.invokestatic index, 3)) (k : Jp X ad cid nL Q M (pc + 3) lv (.int (if y < x then y else x) :: st) res) : Jp X ad cid nL Q M pc lv (.int y :: .int x :: st) res :=
  fun out ho ls H locs hl hP hS => va_mmin hC.x hC.b (hC.ml.trans hl.1.symm) hC.ow (hC.ts _ hw) (hC.ts _ h1) (hC.ts _ h2) (hC.ts _ h3) (Nat.le_trans hf hC.f1) (Nat.le_trans hlo hC.l1) hC.kc hC.kn hd (k out ho ls H locs hl hP hS)
end JC
end
section
/-! more rows: calls in sequence, switches, super, the kinds' own -/
def qA (c : Nat) (ad : Nat → Nat) (cid : Nat → ClassId) : qTy Mem := fun D out => va_Qr (fun u : Mem => u = out) (fun u a t => a = ad c ∧ va_P D vwCl (wld ad cid u) t.heap) (iA ad)
section JM
variable {X : Cx} {ad : Nat → Nat} {cid : Nat → ClassId} {cc : ByteArray} {own : String} {nL : Nat} {ret : Option FieldType} {fr lo : Nat} {α : Type} {Q : α → State → Prop} {M : Mem} {pc : Nat} {lv : List (Option Value)} {st st0 : List Value} {res : Option α}
theorem j_aretC {C : String} (hC : Ok X ad cid cc own nL (some (.object C)) fr lo) {c : Nat} (hd : decode cc pc = .ok (.areturn, 1)) : Jp X ad cid nL (qm X ad (qA c ad cid)) M pc lv [.ref (ad c)] (some M) := by
  intro out ho ls H locs hl hP hS
  cases ho
  exact W.aret hC.x hC.b hC.r (Or.inl ⟨C, rfl⟩) (Or.inr ⟨_, rfl⟩) (fun t ht hW => ⟨⟨M, ad c, rfl, rfl, rfl, by show va_P _ _ _ t.heap; rw [ht]; exact hP⟩, hS.F ht⟩) hS.2.2 hd hC.lk
theorem j_bI {rc : Option (Mem × Int32)} {k : Mem → Int32 → Option α} {av : Array Value} (hrun : ∀ o, rc = some o → jRun X ad cid nL M pc lv st0 st (qI ad cid) av o) (kk : ∀ M1 r1, Jp X ad cid nL Q M1 (pc + 3) lv (.int r1 :: st) (k M1 r1)) : Jp X ad cid nL Q M pc lv st0 (bI rc k) :=
  j_eq (by cases rc <;> rfl) (j_ri (k := fun q => k q.1 q.2) hrun (fun M1 r1 _ => kk M1 r1))
theorem j_bL {rc : Option (Mem × Int64)} {k : Mem → Int64 → Option α} {av : Array Value} (hrun : ∀ o, rc = some o → jRun X ad cid nL M pc lv st0 st (qL ad cid) av o) (kk : ∀ M1 r1, Jp X ad cid nL Q M1 (pc + 3) lv (.long r1 :: st) (k M1 r1)) : Jp X ad cid nL Q M pc lv st0 (bL rc k) :=
  j_eq (by cases rc <;> rfl) (j_rl (k := fun q => k q.1 q.2) hrun (fun M1 r1 _ => kk M1 r1))
theorem j_bV {rc : Option Mem} {k : Mem → Option α} {av : Array Value} (hrun : ∀ o, rc = some o → jRun X ad cid nL M pc lv st0 st (qV ad cid) av o) (kk : ∀ M1, Jp X ad cid nL Q M1 (pc + 3) lv st (k M1)) : Jp X ad cid nL Q M pc lv st0 (bV rc k) :=
  j_eq (by cases rc <;> rfl) (j_rv (k := k) hrun (fun M1 _ => kk M1))
theorem j_bA {rc : Option Mem} {k : Mem → Option α} {av : Array Value} {c : Nat} (hrun : ∀ o, rc = some o → jRun X ad cid nL M pc lv st0 st (qA c ad cid) av o) (kk : ∀ M1, Jp X ad cid nL Q M1 (pc + 3) lv (.ref (ad c) :: st) (k M1)) : Jp X ad cid nL Q M pc lv st0 (bV rc k) := by
  intro out ho ls H locs hl hP hS
  cases hrc : rc with
  | none => rw [hrc] at ho; cases ho
  | some o =>
    rw [hrc] at ho
    exact va_callr (hrun _ hrc ls H locs hl hP hS) hS (fun _ _ h => h) (fun _ h => h) (fun u ra t H1 locs1 ht _ hp hB _ _ hS1 => by
      cases hp
      obtain ⟨rfl, hB⟩ := hB
      exact kk o out ho ls H1 locs1 hl (by rw [← ht]; exact hB) hS1)
theorem j_ite {c : Prop} [Decidable c] {ra rb : Option α} (ka : c → Jp X ad cid nL Q M pc lv st ra) (kb : ¬ c → Jp X ad cid nL Q M pc lv st rb) : Jp X ad cid nL Q M pc lv st (if c then ra else rb) := by
  by_cases h : c
  · rw [if_pos h]; exact ka h
  · rw [if_neg h]; exact kb h
theorem j_tabIn (hC : Ok X ad cid cc own nL ret fr lo) {dflt lo' hi' : Int} {offs : Array Int} {len : Nat} {x v : Int32} {off : Int} {tgt : Nat} (hd : decode cc pc = .ok (.tableswitch dflt lo' hi' offs, len)) (hx : x = v) (h1 : ¬ v.toInt < lo') (h2 : ¬ hi' < v.toInt) (ho : offs[(v.toInt - lo').toNat]? = some off) (ht : (pc : Int) + off = (tgt : Int)) (k : Jp X ad cid nL Q M tgt lv st res) : Jp X ad cid nL Q M pc lv (.int x :: st) res :=
  fun out h0 ls H locs hl hP hS => lv_tableIn hC.x hC.b hd (by rw [hx]; exact h1) (by rw [hx]; exact h2) (by rw [hx]; exact ho) ht (k out h0 ls H locs hl hP hS)
theorem j_tabOut (hC : Ok X ad cid cc own nL ret fr lo) {dflt lo' hi' : Int} {offs : Array Int} {len : Nat} {x : Int32} {tgt : Nat} (hd : decode cc pc = .ok (.tableswitch dflt lo' hi' offs, len)) (h : x.toInt < lo' ∨ hi' < x.toInt) (ht : (pc : Int) + dflt = (tgt : Int)) (k : Jp X ad cid nL Q M tgt lv st res) : Jp X ad cid nL Q M pc lv (.int x :: st) res :=
  fun out h0 ls H locs hl hP hS => lv_tableOut hC.x hC.b hd h ht (k out h0 ls H locs hl hP hS)
theorem j_look (hC : Ok X ad cid cc own nL ret fr lo) {dflt : Int} {ps : Array (Int × Int)} {len : Nat} {x : Int32} {off : Int} {tgt : Nat} (hd : decode cc pc = .ok (.lookupswitch dflt ps, len)) (hp : (ps.toList.zip (ps.toList.drop 1)).all (fun (a, next) => a.1 < next.1) = true) (ho : Op.lookupswitch.offset ps.toList dflt x.toInt = off) (ht : (pc : Int) + off = (tgt : Int)) (k : Jp X ad cid nL Q M tgt lv st res) : Jp X ad cid nL Q M pc lv (.int x :: st) res :=
  fun out h0 ls H locs hl hP hS => lv_lookup hC.x hC.b hd hp ho ht (k out h0 ls H locs hl hP hS)
theorem ne_i {x v : Int32} {n : Int} (h : ¬ x = v) (hv : v.toInt = n) : ¬ x.toInt = n := fun e => h (Int32.toInt_inj.mp (e.trans hv.symm))
/-- super.m(..) -/
def cU (own : String) (y : MethodName) (cc : ByteArray) (nL : Nat) (ret : Option FieldType) (n : Nat) : Prop := (y.name ≠ "<init>" ∧ (parseMethodDescriptor y.desc).map (fun d => d.parameters.length) = some n) ∧ Cond.sameMethod y.cls y.cls y.name y.desc ∈ wAll ∧ Cond.superclass own y.cls ∈ wAll ∧ Cond.instanceMethod y ∈ wAll ∧ Cond.initialized y.cls ∈ wAll ∧ Cond.code y cc nL ret ∈ wAll
theorem run_SU (hC : Ok X ad cid cc own nL ret fr lo) {β : Type} {q : qTy β} {rc : Option β} {y : MethodName} {C : String} {T : u_T} {N ci i n index nL2 fr2 lo2 : Nat} {c2 : ByteArray} {ret2 : Option FieldType} {fs : List Value} {as : List Value} (hM : Ct q (cxL X) ad cid (cxD X) y c2 nL2 ret2 fr2 lo2 (.ref (ad i) :: as) M rc) (hv : cU own y c2 nL2 ret2 n) (hw : Cond.methodLink own index y ∈ wAll) (hi : i < 126) (hs : shp ad cid M i = .inr (ci, fs)) (hc : vwCl[ci]? = some (C, T, N)) (hR : fr2 + 1 ≤ fr ∧ 8 + (nL2 + 11) + lo2 ≤ lo) (hn : as.length = n) (hst : st0 = as.reverse ++ .ref (ad i) :: st) (hcat : (st.map fun v => v.category).sum ≤ 8) (hd : decode cc pc = .ok (.invokespecial index, 3)) : ∀ o, rc = some o → jRun X ad cid nL M pc lv st0 st q (.ref (ad i) :: as).toArray o :=
  fun o ho ls H locs hl hP hS => va_runSU (As := as) (rest := st) (C := C) (hC.K.1 ci _ hc).2 ⟨hC.x, hC.b, hC.ml, hC.ow, hC.ts⟩ (hM o ho) (va_cwSU n hC.ts (good_more _ (fun _ h => h) (List.forall_mem_cons.mpr ⟨hw, List.forall_mem_cons.mpr ⟨hv.2.1, List.forall_mem_cons.mpr ⟨hv.2.2.1, List.forall_mem_cons.mpr ⟨hv.2.2.2.1, List.forall_mem_cons.mpr ⟨hv.2.2.2.2.1, fun _ h => absurd h List.not_mem_nil⟩⟩⟩⟩⟩) (good_ws (fun _ h => h) hv.2.2.2.2.2)) rfl rfl rfl hv.1 ⟨Nat.le_trans hR.1 hC.f1, Nat.le_trans hR.2 hC.l1⟩) ⟨blindO, va_recv hC.K hP hc ((wld_get hi).trans (by rw [hs])), fun U hU hW => ⟨rfl, preO_at hP hC.K hC.nest hU hW⟩⟩ rfl hn hl.1 hst (lv_room hcat) hd ⟨hC.kc, hC.kn⟩
/-- a call of x on an object of the class C, whose own method is y -/
def cO (C owner : String) (x y : MethodName) (cc : ByteArray) (nL : Nat) (ret : Option FieldType) (n : Nat) (b0 : ByteArray) (m0 : Nat) (r0 : Option FieldType) : Prop := (owner ≠ "java/lang/invoke/MethodHandle" ∧ owner ≠ "java/lang/invoke/VarHandle" ∧ (parseMethodDescriptor x.desc).map (fun d => d.parameters.length) = some n) ∧ Cond.sameMethod x.cls owner x.name x.desc ∈ wAll ∧ Cond.instanceMethod ⟨owner, x.name, x.desc⟩ ∈ wAll ∧ Cond.selects C x y ∈ wAll ∧ Cond.instanceMethod y ∈ wAll ∧ Cond.initialized y.cls ∈ wAll ∧ Cond.code y cc nL ret ∈ wAll ∧ Cond.code ⟨owner, x.name, x.desc⟩ b0 m0 r0 ∈ wAll
theorem run_O (hC : Ok X ad cid cc own nL ret fr lo) {β : Type} {q : qTy β} {rc : Option β} {x y : MethodName} {C owner : String} {T : u_T} {N ci i n index nL2 fr2 lo2 m0 : Nat} {c2 b0 : ByteArray} {ret2 r0 : Option FieldType} {fs : List Value} {as : List Value} (hM : Ct q (cxL X) ad cid (cxD X) y c2 nL2 ret2 fr2 lo2 (.ref (ad i) :: as) M rc) (hv : cO C owner x y c2 nL2 ret2 n b0 m0 r0) (hw : Cond.methodLink own index x ∈ wAll) (hi : i < 126) (hs : shp ad cid M i = .inr (ci, fs)) (hc : vwCl[ci]? = some (C, T, N)) (hR : fr2 + 1 ≤ fr ∧ 8 + (nL2 + 11) + lo2 ≤ lo) (hn : as.length = n) (hst : st0 = as.reverse ++ .ref (ad i) :: st) (hcat : (st.map fun v => v.category).sum ≤ 8) (hd : decode cc pc = .ok (.invokevirtual index, 3)) : ∀ o, rc = some o → jRun X ad cid nL M pc lv st0 st q (.ref (ad i) :: as).toArray o :=
  fun o ho ls H locs hl hP hS => va_runU (As := as) (rest := st) (C := C) (owner := owner) (x := x) ⟨hC.x, hC.b, hC.ml, hC.ow, hC.ts⟩ (hM o ho) (va_cwO n hC.ts (good_more _ (fun _ h => h) (List.forall_mem_cons.mpr ⟨hw, List.forall_mem_cons.mpr ⟨hv.2.1, List.forall_mem_cons.mpr ⟨hv.2.2.1, List.forall_mem_cons.mpr ⟨hv.2.2.2.1, List.forall_mem_cons.mpr ⟨hv.2.2.2.2.1, List.forall_mem_cons.mpr ⟨hv.2.2.2.2.2.1, fun _ h => absurd h List.not_mem_nil⟩⟩⟩⟩⟩⟩) (good_ws (fun _ h => h) hv.2.2.2.2.2.2.1)) rfl rfl rfl hv.2.2.2.2.2.2.2 hv.1 ⟨Nat.le_trans hR.1 hC.f1, Nat.le_trans hR.2 hC.l1⟩) ⟨blindO, va_recv hC.K hP hc ((wld_get hi).trans (by rw [hs])), fun U hU hW => ⟨rfl, preO_at hP hC.K hC.nest hU hW⟩⟩ rfl hn hl.1 hst (lv_room hcat) hd ⟨hC.kc, hC.kn⟩
end JM
end
